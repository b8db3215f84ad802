theorem lg_X10_init_0  : 0 ≤ (1 : Int) ∧ (1 : Int) ≤ 1 := by
  omega
set_option maxHeartbeats 4000000 in
set_option maxRecDepth 100000 in
theorem kX10_init (l : Launch) (dC : Nat → ClassId) (dI : Nat → Nat → Nat) (sz : Nat) (h0 : Nat) : Met l yX10_init (Cond.code yX10_init cX10_init 1 none :: bg) ({ frames := 1, cells := 8, slots := 320, locals := 12 }) (pcW dC dI [.ref h0] sz [(h0, .inr (10, [.null, .null, .null, .null, .null, .null, .null, .null, .int 0]))] []) (va_Qv (fun (u : Unit) => True) (fun (u : Unit) (t : State) => ∃ (t_to : Nat) (t_height : Nat) (t_member : Nat) (t_lengthHome : Nat) (t_runs : Nat) (t_leak : Nat) (t_vacuum : Nat) (t_reading : Nat) (k_to : ClassId) (k_height : ClassId) (k_member : ClassId) (k_lengthHome : ClassId) (k_runs : ClassId) (k_leak : ClassId) (k_vacuum : ClassId) (k_reading : ClassId) (f_to : Nat → Int32) (f_member : Nat → Int32) (f_runs : Nat → Int32) (f_reading : Nat → Int32), V0 f_to (-1) ∧ V0 f_member (-1) ∧ V0 f_reading (-1) ∧ V0 f_runs 1 ∧ Rg f_runs 40 0 1 ∧ va_P (dC, dI) vwCl [(h0, .inr (10, [.ref t_to, .ref t_height, .ref t_member, .ref t_lengthHome, .ref t_runs, .ref t_leak, .ref t_vacuum, .ref t_reading, .int 1])), (t_to, .inl (k_to, 40, .inl f_to)), (t_height, .inl (k_height, 40, .inl (fun _ => 0))), (t_member, .inl (k_member, 40, .inl f_member)), (t_lengthHome, .inl (k_lengthHome, 40, .inl (fun _ => 0))), (t_runs, .inl (k_runs, 40, .inl f_runs)), (t_leak, .inl (k_leak, 40, .inl (fun _ => 0))), (t_vacuum, .inl (k_vacuum, 40, .inl (fun _ => 0))), (t_reading, .inl (k_reading, 40, .inl f_reading))] t.heap ∧ va_K (dC, dI) vwCl [(k_to, .int), (k_height, .int), (k_member, .int), (k_lengthHome, .int), (k_runs, .boolean), (k_leak, .int), (k_vacuum, .int), (k_reading, .int)] t ∧ va_D (va_A [(h0, .inr (10, [.null, .null, .null, .null, .null, .null, .null, .null, .int 0]))] sz) [(h0, .inr (10, [.ref t_to, .ref t_height, .ref t_member, .ref t_lengthHome, .ref t_runs, .ref t_leak, .ref t_vacuum, .ref t_reading, .int 1])), (t_to, .inl (k_to, 40, .inl f_to)), (t_height, .inl (k_height, 40, .inl (fun _ => 0))), (t_member, .inl (k_member, 40, .inl f_member)), (t_lengthHome, .inl (k_lengthHome, 40, .inl (fun _ => 0))), (t_runs, .inl (k_runs, 40, .inl f_runs)), (t_leak, .inl (k_leak, 40, .inl (fun _ => 0))), (t_vacuum, .inl (k_vacuum, 40, .inl (fun _ => 0))), (t_reading, .inl (k_reading, 40, .inl f_reading))]) (va_A [(h0, .inr (10, [.null, .null, .null, .null, .null, .null, .null, .null, .int 0]))] sz)) 8 320 (va_A [(h0, .inr (10, [.null, .null, .null, .null, .null, .null, .null, .null, .int 0]))] sz) := by
  refine Met.ofW (cc := cX10_init) (maxL := 1) (ret := none) pnX10 rfl ?_
  intro p e s m args below meth c s₁ B hml hv
  obtain ⟨rfl, hsz, hP, hK, hD0, hN⟩ := hv
  have hx := B.exec
  have hb := B.bytes
  have hr := B.returns
  have htb : ∀ w ∈ bg, w.before [.ref h0].toArray s = true := fun w h => atoms_spec (ws := Cond.code yX10_init cX10_init 1 none :: bg) B.pre w (List.mem_cons_of_mem _ h)
  have hown : s.vm.findClass RX10 = some m.cls := findClass_of_methodNamed B.named
  have hlocks := B.notSynchronized
  have hin : meth.name = "<init>" := (name_of_methodNamed B.named B.method).1
  subst hsz
  have hD := hD0.self (sz := s.heap.size)
  generalize hAe : va_A [(h0, .inr (10, [.null, .null, .null, .null, .null, .null, .null, .null, .int 0]))] s.heap.size = A at hD ⊢
  have hA : ∀ q : Nat, s.heap.size ≤ q → A q := fun q h => by rw [← hAe]; exact Or.inr h
  have hS : va_S A s.heap s.heap [] := va_S.rf
  have hl := lv_entry ([.ref h0]) (n := 1) (Nat.le_of_ble_eq_true rfl)
  rw [lg_entry_eq]
  generalize (lg_sl ([.ref h0]) ++ List.replicate (1 - (lg_sl ([.ref h0])).length) Slot.unset).toArray = ls at hl ⊢
  change lv_has ls 1 [(0, .ref h0)] at hl
  clear hD0 hAe
  refine go0 (wsP := fun H => va_P (dC, dI) vwCl [(h0, .inr (10, [.null, .null, .null, .null, .null, .null, .null, .null, .int 0]))] H) hP hS ?_
  clear hP hS; intro H locs hP hS
  change va_P (dC, dI) vwCl [(h0, .inr (10, [.null, .null, .null, .null, .null, .null, .null, .null, .int 0]))] H at hP
  refine lv_aload_n hx hb dX10_init_0 rfl (lv_at hl 0 rfl) ?_
  refine W.objInit hx hb hown (htb _ m_33) (htb _ m_26) (htb _ m_27) rfl (by rw [hml]; exact hl.1) rfl dX10_init_1 (Nat.le_of_ble_eq_true rfl) (Nat.le_of_ble_eq_true rfl) ?_
  refine W.eq (g2 := F0 m 4 ls []) rfl ?_
  refine lv_aload_n hx hb dX10_init_4 rfl (lv_at hl 0 rfl) ?_
  refine lv_bipush (v := 40) hx hb dX10_init_5 (by decide) ?_
  refine va_newa (atype := .int) (a0 := (40, .inl (fun _ => 0))) (N' := 40) (ty := .int) hx hb (htb _ m_63) rfl hK hP hD hS hA (fun _ => rfl) (by decide) (by decide) (Nat.le_of_ble_eq_true rfl) (Nat.le_of_ble_eq_true rfl) (Nat.le_of_ble_eq_true rfl) dX10_init_7 ?_
  clear hP hD hS hK; intro q_1 a_2 H hK hP hD hS
  change va_P (dC, dI) vwCl [(h0, .inr (10, [.null, .null, .null, .null, .null, .null, .null, .null, .int 0])), (q_1, .inl (a_2, 40, .inl (fun _ => 0)))] H at hP
  change va_D A [(h0, .inr (10, [.null, .null, .null, .null, .null, .null, .null, .null, .int 0])), (q_1, .inl (a_2, 40, .inl (fun _ => 0)))] at hD
  change va_K (dC, dI) vwCl [(a_2, .int)] s at hK
  refine W.widen (k := 1) (n := 40) (Nat.le_of_ble_eq_true rfl) (Nat.le_of_ble_eq_true rfl) ?_
  refine va_putF (D := (dC, dI)) (ci := 10) (v := .ref q_1) (C := RX10) (T := TX10) (N := 9) hx hb htb iX10 tyX10 tyX10_ok nmX10 hown hK hP hD hS 0 rfl rfl 0 (Nat.le_of_ble_eq_true rfl) (htb _ m_34) (fun _ h9 => h9) rfl hin rfl (tyX10_ok 0 (Nat.le_of_ble_eq_true rfl)) rfl rfl (Nat.le_of_ble_eq_true rfl) dX10_init_9 ?_
  clear hP hD hS; intro H locs hP hD hS
  change va_P (dC, dI) vwCl [(h0, .inr (10, [.ref q_1, .null, .null, .null, .null, .null, .null, .null, .int 0])), (q_1, .inl (a_2, 40, .inl (fun _ => 0)))] H at hP
  change va_D A [(h0, .inr (10, [.ref q_1, .null, .null, .null, .null, .null, .null, .null, .int 0])), (q_1, .inl (a_2, 40, .inl (fun _ => 0)))] at hD
  refine lv_aload_n hx hb dX10_init_12 rfl (lv_at hl 0 rfl) ?_
  refine lv_bipush (v := 40) hx hb dX10_init_13 (by decide) ?_
  refine va_newa (atype := .int) (a0 := (40, .inl (fun _ => 0))) (N' := 40) (ty := .int) hx hb (htb _ m_63) rfl hK hP hD hS hA (fun _ => rfl) (by decide) (by decide) (Nat.le_of_ble_eq_true rfl) (Nat.le_of_ble_eq_true rfl) (Nat.le_of_ble_eq_true rfl) dX10_init_15 ?_
  clear hP hD hS hK; intro q_3 a_4 H hK hP hD hS
  change va_P (dC, dI) vwCl [(h0, .inr (10, [.ref q_1, .null, .null, .null, .null, .null, .null, .null, .int 0])), (q_1, .inl (a_2, 40, .inl (fun _ => 0))), (q_3, .inl (a_4, 40, .inl (fun _ => 0)))] H at hP
  change va_D A [(h0, .inr (10, [.ref q_1, .null, .null, .null, .null, .null, .null, .null, .int 0])), (q_1, .inl (a_2, 40, .inl (fun _ => 0))), (q_3, .inl (a_4, 40, .inl (fun _ => 0)))] at hD
  change va_K (dC, dI) vwCl [(a_2, .int), (a_4, .int)] s at hK
  refine W.widen (k := 2) (n := 80) (Nat.le_of_ble_eq_true rfl) (Nat.le_of_ble_eq_true rfl) ?_
  refine va_putF (D := (dC, dI)) (ci := 10) (v := .ref q_3) (C := RX10) (T := TX10) (N := 9) hx hb htb iX10 tyX10 tyX10_ok nmX10 hown hK hP hD hS 0 rfl rfl 1 (Nat.le_of_ble_eq_true rfl) (htb _ m_35) (fun _ h9 => h9) rfl hin rfl (tyX10_ok 1 (Nat.le_of_ble_eq_true rfl)) rfl rfl (Nat.le_of_ble_eq_true rfl) dX10_init_17 ?_
  clear hP hD hS; intro H locs hP hD hS
  change va_P (dC, dI) vwCl [(h0, .inr (10, [.ref q_1, .ref q_3, .null, .null, .null, .null, .null, .null, .int 0])), (q_1, .inl (a_2, 40, .inl (fun _ => 0))), (q_3, .inl (a_4, 40, .inl (fun _ => 0)))] H at hP
  change va_D A [(h0, .inr (10, [.ref q_1, .ref q_3, .null, .null, .null, .null, .null, .null, .int 0])), (q_1, .inl (a_2, 40, .inl (fun _ => 0))), (q_3, .inl (a_4, 40, .inl (fun _ => 0)))] at hD
  refine lv_aload_n hx hb dX10_init_20 rfl (lv_at hl 0 rfl) ?_
  refine lv_bipush (v := 40) hx hb dX10_init_21 (by decide) ?_
  refine va_newa (atype := .int) (a0 := (40, .inl (fun _ => 0))) (N' := 40) (ty := .int) hx hb (htb _ m_63) rfl hK hP hD hS hA (fun _ => rfl) (by decide) (by decide) (Nat.le_of_ble_eq_true rfl) (Nat.le_of_ble_eq_true rfl) (Nat.le_of_ble_eq_true rfl) dX10_init_23 ?_
  clear hP hD hS hK; intro q_5 a_6 H hK hP hD hS
  change va_P (dC, dI) vwCl [(h0, .inr (10, [.ref q_1, .ref q_3, .null, .null, .null, .null, .null, .null, .int 0])), (q_1, .inl (a_2, 40, .inl (fun _ => 0))), (q_3, .inl (a_4, 40, .inl (fun _ => 0))), (q_5, .inl (a_6, 40, .inl (fun _ => 0)))] H at hP
  change va_D A [(h0, .inr (10, [.ref q_1, .ref q_3, .null, .null, .null, .null, .null, .null, .int 0])), (q_1, .inl (a_2, 40, .inl (fun _ => 0))), (q_3, .inl (a_4, 40, .inl (fun _ => 0))), (q_5, .inl (a_6, 40, .inl (fun _ => 0)))] at hD
  change va_K (dC, dI) vwCl [(a_2, .int), (a_4, .int), (a_6, .int)] s at hK
  refine W.widen (k := 3) (n := 120) (Nat.le_of_ble_eq_true rfl) (Nat.le_of_ble_eq_true rfl) ?_
  refine va_putF (D := (dC, dI)) (ci := 10) (v := .ref q_5) (C := RX10) (T := TX10) (N := 9) hx hb htb iX10 tyX10 tyX10_ok nmX10 hown hK hP hD hS 0 rfl rfl 2 (Nat.le_of_ble_eq_true rfl) (htb _ m_36) (fun _ h9 => h9) rfl hin rfl (tyX10_ok 2 (Nat.le_of_ble_eq_true rfl)) rfl rfl (Nat.le_of_ble_eq_true rfl) dX10_init_25 ?_
  clear hP hD hS; intro H locs hP hD hS
  change va_P (dC, dI) vwCl [(h0, .inr (10, [.ref q_1, .ref q_3, .ref q_5, .null, .null, .null, .null, .null, .int 0])), (q_1, .inl (a_2, 40, .inl (fun _ => 0))), (q_3, .inl (a_4, 40, .inl (fun _ => 0))), (q_5, .inl (a_6, 40, .inl (fun _ => 0)))] H at hP
  change va_D A [(h0, .inr (10, [.ref q_1, .ref q_3, .ref q_5, .null, .null, .null, .null, .null, .int 0])), (q_1, .inl (a_2, 40, .inl (fun _ => 0))), (q_3, .inl (a_4, 40, .inl (fun _ => 0))), (q_5, .inl (a_6, 40, .inl (fun _ => 0)))] at hD
  refine lv_aload_n hx hb dX10_init_28 rfl (lv_at hl 0 rfl) ?_
  refine lv_bipush (v := 40) hx hb dX10_init_29 (by decide) ?_
  refine va_newa (atype := .int) (a0 := (40, .inl (fun _ => 0))) (N' := 40) (ty := .int) hx hb (htb _ m_63) rfl hK hP hD hS hA (fun _ => rfl) (by decide) (by decide) (Nat.le_of_ble_eq_true rfl) (Nat.le_of_ble_eq_true rfl) (Nat.le_of_ble_eq_true rfl) dX10_init_31 ?_
  clear hP hD hS hK; intro q_7 a_8 H hK hP hD hS
  change va_P (dC, dI) vwCl [(h0, .inr (10, [.ref q_1, .ref q_3, .ref q_5, .null, .null, .null, .null, .null, .int 0])), (q_1, .inl (a_2, 40, .inl (fun _ => 0))), (q_3, .inl (a_4, 40, .inl (fun _ => 0))), (q_5, .inl (a_6, 40, .inl (fun _ => 0))), (q_7, .inl (a_8, 40, .inl (fun _ => 0)))] H at hP
  change va_D A [(h0, .inr (10, [.ref q_1, .ref q_3, .ref q_5, .null, .null, .null, .null, .null, .int 0])), (q_1, .inl (a_2, 40, .inl (fun _ => 0))), (q_3, .inl (a_4, 40, .inl (fun _ => 0))), (q_5, .inl (a_6, 40, .inl (fun _ => 0))), (q_7, .inl (a_8, 40, .inl (fun _ => 0)))] at hD
  change va_K (dC, dI) vwCl [(a_2, .int), (a_4, .int), (a_6, .int), (a_8, .int)] s at hK
  refine W.widen (k := 4) (n := 160) (Nat.le_of_ble_eq_true rfl) (Nat.le_of_ble_eq_true rfl) ?_
  refine va_putF (D := (dC, dI)) (ci := 10) (v := .ref q_7) (C := RX10) (T := TX10) (N := 9) hx hb htb iX10 tyX10 tyX10_ok nmX10 hown hK hP hD hS 0 rfl rfl 3 (Nat.le_of_ble_eq_true rfl) (htb _ m_37) (fun _ h9 => h9) rfl hin rfl (tyX10_ok 3 (Nat.le_of_ble_eq_true rfl)) rfl rfl (Nat.le_of_ble_eq_true rfl) dX10_init_33 ?_
  clear hP hD hS; intro H locs hP hD hS
  change va_P (dC, dI) vwCl [(h0, .inr (10, [.ref q_1, .ref q_3, .ref q_5, .ref q_7, .null, .null, .null, .null, .int 0])), (q_1, .inl (a_2, 40, .inl (fun _ => 0))), (q_3, .inl (a_4, 40, .inl (fun _ => 0))), (q_5, .inl (a_6, 40, .inl (fun _ => 0))), (q_7, .inl (a_8, 40, .inl (fun _ => 0)))] H at hP
  change va_D A [(h0, .inr (10, [.ref q_1, .ref q_3, .ref q_5, .ref q_7, .null, .null, .null, .null, .int 0])), (q_1, .inl (a_2, 40, .inl (fun _ => 0))), (q_3, .inl (a_4, 40, .inl (fun _ => 0))), (q_5, .inl (a_6, 40, .inl (fun _ => 0))), (q_7, .inl (a_8, 40, .inl (fun _ => 0)))] at hD
  refine lv_aload_n hx hb dX10_init_36 rfl (lv_at hl 0 rfl) ?_
  refine lv_bipush (v := 40) hx hb dX10_init_37 (by decide) ?_
  refine va_newa (atype := .boolean) (a0 := (40, .inl (fun _ => 0))) (N' := 40) (ty := .boolean) hx hb (htb _ m_64) rfl hK hP hD hS hA (fun _ => rfl) (by decide) (by decide) (Nat.le_of_ble_eq_true rfl) (Nat.le_of_ble_eq_true rfl) (Nat.le_of_ble_eq_true rfl) dX10_init_39 ?_
  clear hP hD hS hK; intro q_9 a_10 H hK hP hD hS
  change va_P (dC, dI) vwCl [(h0, .inr (10, [.ref q_1, .ref q_3, .ref q_5, .ref q_7, .null, .null, .null, .null, .int 0])), (q_1, .inl (a_2, 40, .inl (fun _ => 0))), (q_3, .inl (a_4, 40, .inl (fun _ => 0))), (q_5, .inl (a_6, 40, .inl (fun _ => 0))), (q_7, .inl (a_8, 40, .inl (fun _ => 0))), (q_9, .inl (a_10, 40, .inl (fun _ => 0)))] H at hP
  change va_D A [(h0, .inr (10, [.ref q_1, .ref q_3, .ref q_5, .ref q_7, .null, .null, .null, .null, .int 0])), (q_1, .inl (a_2, 40, .inl (fun _ => 0))), (q_3, .inl (a_4, 40, .inl (fun _ => 0))), (q_5, .inl (a_6, 40, .inl (fun _ => 0))), (q_7, .inl (a_8, 40, .inl (fun _ => 0))), (q_9, .inl (a_10, 40, .inl (fun _ => 0)))] at hD
  change va_K (dC, dI) vwCl [(a_2, .int), (a_4, .int), (a_6, .int), (a_8, .int), (a_10, .boolean)] s at hK
  refine W.widen (k := 5) (n := 200) (Nat.le_of_ble_eq_true rfl) (Nat.le_of_ble_eq_true rfl) ?_
  refine va_putF (D := (dC, dI)) (ci := 10) (v := .ref q_9) (C := RX10) (T := TX10) (N := 9) hx hb htb iX10 tyX10 tyX10_ok nmX10 hown hK hP hD hS 0 rfl rfl 4 (Nat.le_of_ble_eq_true rfl) (htb _ m_38) (fun _ h9 => h9) rfl hin rfl (tyX10_ok 4 (Nat.le_of_ble_eq_true rfl)) rfl rfl (Nat.le_of_ble_eq_true rfl) dX10_init_41 ?_
  clear hP hD hS; intro H locs hP hD hS
  change va_P (dC, dI) vwCl [(h0, .inr (10, [.ref q_1, .ref q_3, .ref q_5, .ref q_7, .ref q_9, .null, .null, .null, .int 0])), (q_1, .inl (a_2, 40, .inl (fun _ => 0))), (q_3, .inl (a_4, 40, .inl (fun _ => 0))), (q_5, .inl (a_6, 40, .inl (fun _ => 0))), (q_7, .inl (a_8, 40, .inl (fun _ => 0))), (q_9, .inl (a_10, 40, .inl (fun _ => 0)))] H at hP
  change va_D A [(h0, .inr (10, [.ref q_1, .ref q_3, .ref q_5, .ref q_7, .ref q_9, .null, .null, .null, .int 0])), (q_1, .inl (a_2, 40, .inl (fun _ => 0))), (q_3, .inl (a_4, 40, .inl (fun _ => 0))), (q_5, .inl (a_6, 40, .inl (fun _ => 0))), (q_7, .inl (a_8, 40, .inl (fun _ => 0))), (q_9, .inl (a_10, 40, .inl (fun _ => 0)))] at hD
  refine lv_aload_n hx hb dX10_init_44 rfl (lv_at hl 0 rfl) ?_
  refine lv_bipush (v := 40) hx hb dX10_init_45 (by decide) ?_
  refine va_newa (atype := .int) (a0 := (40, .inl (fun _ => 0))) (N' := 40) (ty := .int) hx hb (htb _ m_63) rfl hK hP hD hS hA (fun _ => rfl) (by decide) (by decide) (Nat.le_of_ble_eq_true rfl) (Nat.le_of_ble_eq_true rfl) (Nat.le_of_ble_eq_true rfl) dX10_init_47 ?_
  clear hP hD hS hK; intro q_11 a_12 H hK hP hD hS
  change va_P (dC, dI) vwCl [(h0, .inr (10, [.ref q_1, .ref q_3, .ref q_5, .ref q_7, .ref q_9, .null, .null, .null, .int 0])), (q_1, .inl (a_2, 40, .inl (fun _ => 0))), (q_3, .inl (a_4, 40, .inl (fun _ => 0))), (q_5, .inl (a_6, 40, .inl (fun _ => 0))), (q_7, .inl (a_8, 40, .inl (fun _ => 0))), (q_9, .inl (a_10, 40, .inl (fun _ => 0))), (q_11, .inl (a_12, 40, .inl (fun _ => 0)))] H at hP
  change va_D A [(h0, .inr (10, [.ref q_1, .ref q_3, .ref q_5, .ref q_7, .ref q_9, .null, .null, .null, .int 0])), (q_1, .inl (a_2, 40, .inl (fun _ => 0))), (q_3, .inl (a_4, 40, .inl (fun _ => 0))), (q_5, .inl (a_6, 40, .inl (fun _ => 0))), (q_7, .inl (a_8, 40, .inl (fun _ => 0))), (q_9, .inl (a_10, 40, .inl (fun _ => 0))), (q_11, .inl (a_12, 40, .inl (fun _ => 0)))] at hD
  change va_K (dC, dI) vwCl [(a_2, .int), (a_4, .int), (a_6, .int), (a_8, .int), (a_10, .boolean), (a_12, .int)] s at hK
  refine W.widen (k := 6) (n := 240) (Nat.le_of_ble_eq_true rfl) (Nat.le_of_ble_eq_true rfl) ?_
  refine va_putF (D := (dC, dI)) (ci := 10) (v := .ref q_11) (C := RX10) (T := TX10) (N := 9) hx hb htb iX10 tyX10 tyX10_ok nmX10 hown hK hP hD hS 0 rfl rfl 5 (Nat.le_of_ble_eq_true rfl) (htb _ m_39) (fun _ h9 => h9) rfl hin rfl (tyX10_ok 5 (Nat.le_of_ble_eq_true rfl)) rfl rfl (Nat.le_of_ble_eq_true rfl) dX10_init_49 ?_
  clear hP hD hS; intro H locs hP hD hS
  change va_P (dC, dI) vwCl [(h0, .inr (10, [.ref q_1, .ref q_3, .ref q_5, .ref q_7, .ref q_9, .ref q_11, .null, .null, .int 0])), (q_1, .inl (a_2, 40, .inl (fun _ => 0))), (q_3, .inl (a_4, 40, .inl (fun _ => 0))), (q_5, .inl (a_6, 40, .inl (fun _ => 0))), (q_7, .inl (a_8, 40, .inl (fun _ => 0))), (q_9, .inl (a_10, 40, .inl (fun _ => 0))), (q_11, .inl (a_12, 40, .inl (fun _ => 0)))] H at hP
  change va_D A [(h0, .inr (10, [.ref q_1, .ref q_3, .ref q_5, .ref q_7, .ref q_9, .ref q_11, .null, .null, .int 0])), (q_1, .inl (a_2, 40, .inl (fun _ => 0))), (q_3, .inl (a_4, 40, .inl (fun _ => 0))), (q_5, .inl (a_6, 40, .inl (fun _ => 0))), (q_7, .inl (a_8, 40, .inl (fun _ => 0))), (q_9, .inl (a_10, 40, .inl (fun _ => 0))), (q_11, .inl (a_12, 40, .inl (fun _ => 0)))] at hD
  refine lv_aload_n hx hb dX10_init_52 rfl (lv_at hl 0 rfl) ?_
  refine lv_bipush (v := 40) hx hb dX10_init_53 (by decide) ?_
  refine va_newa (atype := .int) (a0 := (40, .inl (fun _ => 0))) (N' := 40) (ty := .int) hx hb (htb _ m_63) rfl hK hP hD hS hA (fun _ => rfl) (by decide) (by decide) (Nat.le_of_ble_eq_true rfl) (Nat.le_of_ble_eq_true rfl) (Nat.le_of_ble_eq_true rfl) dX10_init_55 ?_
  clear hP hD hS hK; intro q_13 a_14 H hK hP hD hS
  change va_P (dC, dI) vwCl [(h0, .inr (10, [.ref q_1, .ref q_3, .ref q_5, .ref q_7, .ref q_9, .ref q_11, .null, .null, .int 0])), (q_1, .inl (a_2, 40, .inl (fun _ => 0))), (q_3, .inl (a_4, 40, .inl (fun _ => 0))), (q_5, .inl (a_6, 40, .inl (fun _ => 0))), (q_7, .inl (a_8, 40, .inl (fun _ => 0))), (q_9, .inl (a_10, 40, .inl (fun _ => 0))), (q_11, .inl (a_12, 40, .inl (fun _ => 0))), (q_13, .inl (a_14, 40, .inl (fun _ => 0)))] H at hP
  change va_D A [(h0, .inr (10, [.ref q_1, .ref q_3, .ref q_5, .ref q_7, .ref q_9, .ref q_11, .null, .null, .int 0])), (q_1, .inl (a_2, 40, .inl (fun _ => 0))), (q_3, .inl (a_4, 40, .inl (fun _ => 0))), (q_5, .inl (a_6, 40, .inl (fun _ => 0))), (q_7, .inl (a_8, 40, .inl (fun _ => 0))), (q_9, .inl (a_10, 40, .inl (fun _ => 0))), (q_11, .inl (a_12, 40, .inl (fun _ => 0))), (q_13, .inl (a_14, 40, .inl (fun _ => 0)))] at hD
  change va_K (dC, dI) vwCl [(a_2, .int), (a_4, .int), (a_6, .int), (a_8, .int), (a_10, .boolean), (a_12, .int), (a_14, .int)] s at hK
  refine W.widen (k := 7) (n := 280) (Nat.le_of_ble_eq_true rfl) (Nat.le_of_ble_eq_true rfl) ?_
  refine va_putF (D := (dC, dI)) (ci := 10) (v := .ref q_13) (C := RX10) (T := TX10) (N := 9) hx hb htb iX10 tyX10 tyX10_ok nmX10 hown hK hP hD hS 0 rfl rfl 6 (Nat.le_of_ble_eq_true rfl) (htb _ m_40) (fun _ h9 => h9) rfl hin rfl (tyX10_ok 6 (Nat.le_of_ble_eq_true rfl)) rfl rfl (Nat.le_of_ble_eq_true rfl) dX10_init_57 ?_
  clear hP hD hS; intro H locs hP hD hS
  change va_P (dC, dI) vwCl [(h0, .inr (10, [.ref q_1, .ref q_3, .ref q_5, .ref q_7, .ref q_9, .ref q_11, .ref q_13, .null, .int 0])), (q_1, .inl (a_2, 40, .inl (fun _ => 0))), (q_3, .inl (a_4, 40, .inl (fun _ => 0))), (q_5, .inl (a_6, 40, .inl (fun _ => 0))), (q_7, .inl (a_8, 40, .inl (fun _ => 0))), (q_9, .inl (a_10, 40, .inl (fun _ => 0))), (q_11, .inl (a_12, 40, .inl (fun _ => 0))), (q_13, .inl (a_14, 40, .inl (fun _ => 0)))] H at hP
  change va_D A [(h0, .inr (10, [.ref q_1, .ref q_3, .ref q_5, .ref q_7, .ref q_9, .ref q_11, .ref q_13, .null, .int 0])), (q_1, .inl (a_2, 40, .inl (fun _ => 0))), (q_3, .inl (a_4, 40, .inl (fun _ => 0))), (q_5, .inl (a_6, 40, .inl (fun _ => 0))), (q_7, .inl (a_8, 40, .inl (fun _ => 0))), (q_9, .inl (a_10, 40, .inl (fun _ => 0))), (q_11, .inl (a_12, 40, .inl (fun _ => 0))), (q_13, .inl (a_14, 40, .inl (fun _ => 0)))] at hD
  refine lv_aload_n hx hb dX10_init_60 rfl (lv_at hl 0 rfl) ?_
  refine lv_bipush (v := 40) hx hb dX10_init_61 (by decide) ?_
  refine va_newa (atype := .int) (a0 := (40, .inl (fun _ => 0))) (N' := 40) (ty := .int) hx hb (htb _ m_63) rfl hK hP hD hS hA (fun _ => rfl) (by decide) (by decide) (Nat.le_of_ble_eq_true rfl) (Nat.le_of_ble_eq_true rfl) (Nat.le_of_ble_eq_true rfl) dX10_init_63 ?_
  clear hP hD hS hK; intro q_15 a_16 H hK hP hD hS
  change va_P (dC, dI) vwCl [(h0, .inr (10, [.ref q_1, .ref q_3, .ref q_5, .ref q_7, .ref q_9, .ref q_11, .ref q_13, .null, .int 0])), (q_1, .inl (a_2, 40, .inl (fun _ => 0))), (q_3, .inl (a_4, 40, .inl (fun _ => 0))), (q_5, .inl (a_6, 40, .inl (fun _ => 0))), (q_7, .inl (a_8, 40, .inl (fun _ => 0))), (q_9, .inl (a_10, 40, .inl (fun _ => 0))), (q_11, .inl (a_12, 40, .inl (fun _ => 0))), (q_13, .inl (a_14, 40, .inl (fun _ => 0))), (q_15, .inl (a_16, 40, .inl (fun _ => 0)))] H at hP
  change va_D A [(h0, .inr (10, [.ref q_1, .ref q_3, .ref q_5, .ref q_7, .ref q_9, .ref q_11, .ref q_13, .null, .int 0])), (q_1, .inl (a_2, 40, .inl (fun _ => 0))), (q_3, .inl (a_4, 40, .inl (fun _ => 0))), (q_5, .inl (a_6, 40, .inl (fun _ => 0))), (q_7, .inl (a_8, 40, .inl (fun _ => 0))), (q_9, .inl (a_10, 40, .inl (fun _ => 0))), (q_11, .inl (a_12, 40, .inl (fun _ => 0))), (q_13, .inl (a_14, 40, .inl (fun _ => 0))), (q_15, .inl (a_16, 40, .inl (fun _ => 0)))] at hD
  change va_K (dC, dI) vwCl [(a_2, .int), (a_4, .int), (a_6, .int), (a_8, .int), (a_10, .boolean), (a_12, .int), (a_14, .int), (a_16, .int)] s at hK
  refine W.widen (k := 8) (n := 320) (Nat.le_of_ble_eq_true rfl) (Nat.le_of_ble_eq_true rfl) ?_
  refine va_putF (D := (dC, dI)) (ci := 10) (v := .ref q_15) (C := RX10) (T := TX10) (N := 9) hx hb htb iX10 tyX10 tyX10_ok nmX10 hown hK hP hD hS 0 rfl rfl 7 (Nat.le_of_ble_eq_true rfl) (htb _ m_41) (fun _ h9 => h9) rfl hin rfl (tyX10_ok 7 (Nat.le_of_ble_eq_true rfl)) rfl rfl (Nat.le_of_ble_eq_true rfl) dX10_init_65 ?_
  clear hP hD hS; intro H locs hP hD hS
  change va_P (dC, dI) vwCl [(h0, .inr (10, [.ref q_1, .ref q_3, .ref q_5, .ref q_7, .ref q_9, .ref q_11, .ref q_13, .ref q_15, .int 0])), (q_1, .inl (a_2, 40, .inl (fun _ => 0))), (q_3, .inl (a_4, 40, .inl (fun _ => 0))), (q_5, .inl (a_6, 40, .inl (fun _ => 0))), (q_7, .inl (a_8, 40, .inl (fun _ => 0))), (q_9, .inl (a_10, 40, .inl (fun _ => 0))), (q_11, .inl (a_12, 40, .inl (fun _ => 0))), (q_13, .inl (a_14, 40, .inl (fun _ => 0))), (q_15, .inl (a_16, 40, .inl (fun _ => 0)))] H at hP
  change va_D A [(h0, .inr (10, [.ref q_1, .ref q_3, .ref q_5, .ref q_7, .ref q_9, .ref q_11, .ref q_13, .ref q_15, .int 0])), (q_1, .inl (a_2, 40, .inl (fun _ => 0))), (q_3, .inl (a_4, 40, .inl (fun _ => 0))), (q_5, .inl (a_6, 40, .inl (fun _ => 0))), (q_7, .inl (a_8, 40, .inl (fun _ => 0))), (q_9, .inl (a_10, 40, .inl (fun _ => 0))), (q_11, .inl (a_12, 40, .inl (fun _ => 0))), (q_13, .inl (a_14, 40, .inl (fun _ => 0))), (q_15, .inl (a_16, 40, .inl (fun _ => 0)))] at hD
  refine lv_aload_n hx hb dX10_init_68 rfl (lv_at hl 0 rfl) ?_
  refine lv_iconst (v := 1) hx hb dX10_init_69 (by decide) ?_
  refine va_put (D := (dC, dI)) (ci := 10) (v := .int 1) (C := RX10) (T := TX10) (N := 9) hx hb htb iX10 tyX10 tyX10_ok nmX10 hown hK hP hD hS 0 rfl rfl 8 (Nat.le_of_ble_eq_true rfl) (htb _ m_42) (fun _ h9 => h9) rfl (tyX10_ok 8 (Nat.le_of_ble_eq_true rfl)) rfl rfl (Nat.le_of_ble_eq_true rfl) dX10_init_70 ?_
  clear hP hD hS; intro H locs hP hD hS
  change va_P (dC, dI) vwCl [(h0, .inr (10, [.ref q_1, .ref q_3, .ref q_5, .ref q_7, .ref q_9, .ref q_11, .ref q_13, .ref q_15, .int 1])), (q_1, .inl (a_2, 40, .inl (fun _ => 0))), (q_3, .inl (a_4, 40, .inl (fun _ => 0))), (q_5, .inl (a_6, 40, .inl (fun _ => 0))), (q_7, .inl (a_8, 40, .inl (fun _ => 0))), (q_9, .inl (a_10, 40, .inl (fun _ => 0))), (q_11, .inl (a_12, 40, .inl (fun _ => 0))), (q_13, .inl (a_14, 40, .inl (fun _ => 0))), (q_15, .inl (a_16, 40, .inl (fun _ => 0)))] H at hP
  change va_D A [(h0, .inr (10, [.ref q_1, .ref q_3, .ref q_5, .ref q_7, .ref q_9, .ref q_11, .ref q_13, .ref q_15, .int 1])), (q_1, .inl (a_2, 40, .inl (fun _ => 0))), (q_3, .inl (a_4, 40, .inl (fun _ => 0))), (q_5, .inl (a_6, 40, .inl (fun _ => 0))), (q_7, .inl (a_8, 40, .inl (fun _ => 0))), (q_9, .inl (a_10, 40, .inl (fun _ => 0))), (q_11, .inl (a_12, 40, .inl (fun _ => 0))), (q_13, .inl (a_14, 40, .inl (fun _ => 0))), (q_15, .inl (a_16, 40, .inl (fun _ => 0)))] at hD
  refine lv_aload_n hx hb dX10_init_73 rfl (lv_at hl 0 rfl) ?_
  refine va_get (D := (dC, dI)) (ci := 10) (v := .ref q_1) (C := RX10) (T := TX10) (N := 9) hx hb htb iX10 hown hK hP 0 rfl rfl 0 (Nat.le_of_ble_eq_true rfl) (htb _ m_34) (fun _ h9 => h9) rfl dX10_init_74 ?_
  refine lv_iconst (v := 0) hx hb dX10_init_77 (by decide) ?_
  refine lv_iconst (v := (-1)) hx hb dX10_init_78 (by decide) ?_
  refine va_iast hx hb hK hP hD hS 1 0 rfl rfl (by unfold vp_in; decide) dX10_init_79 ?_
  clear hP hD hS; intro H locs hP hD hS
  change va_P (dC, dI) vwCl [(h0, .inr (10, [.ref q_1, .ref q_3, .ref q_5, .ref q_7, .ref q_9, .ref q_11, .ref q_13, .ref q_15, .int 1])), (q_1, .inl (a_2, 40, .inl (upd (fun _ => 0) (Int32.toNatClampNeg 0) (-1)))), (q_3, .inl (a_4, 40, .inl (fun _ => 0))), (q_5, .inl (a_6, 40, .inl (fun _ => 0))), (q_7, .inl (a_8, 40, .inl (fun _ => 0))), (q_9, .inl (a_10, 40, .inl (fun _ => 0))), (q_11, .inl (a_12, 40, .inl (fun _ => 0))), (q_13, .inl (a_14, 40, .inl (fun _ => 0))), (q_15, .inl (a_16, 40, .inl (fun _ => 0)))] H at hP
  change va_D A [(h0, .inr (10, [.ref q_1, .ref q_3, .ref q_5, .ref q_7, .ref q_9, .ref q_11, .ref q_13, .ref q_15, .int 1])), (q_1, .inl (a_2, 40, .inl (upd (fun _ => 0) (Int32.toNatClampNeg 0) (-1)))), (q_3, .inl (a_4, 40, .inl (fun _ => 0))), (q_5, .inl (a_6, 40, .inl (fun _ => 0))), (q_7, .inl (a_8, 40, .inl (fun _ => 0))), (q_9, .inl (a_10, 40, .inl (fun _ => 0))), (q_11, .inl (a_12, 40, .inl (fun _ => 0))), (q_13, .inl (a_14, 40, .inl (fun _ => 0))), (q_15, .inl (a_16, 40, .inl (fun _ => 0)))] at hD
  have hQ_18 : V0 (upd (fun _ => 0) (Int32.toNatClampNeg 0) (-1)) (-1) := V0_h (by decide)
  generalize upd (fun _ => 0) (Int32.toNatClampNeg 0) (-1) = g_17 at hP hD hQ_18
  refine lv_aload_n hx hb dX10_init_80 rfl (lv_at hl 0 rfl) ?_
  refine va_get (D := (dC, dI)) (ci := 10) (v := .ref q_5) (C := RX10) (T := TX10) (N := 9) hx hb htb iX10 hown hK hP 0 rfl rfl 2 (Nat.le_of_ble_eq_true rfl) (htb _ m_36) (fun _ h9 => h9) rfl dX10_init_81 ?_
  refine lv_iconst (v := 0) hx hb dX10_init_84 (by decide) ?_
  refine lv_iconst (v := (-1)) hx hb dX10_init_85 (by decide) ?_
  refine va_iast hx hb hK hP hD hS 3 2 rfl rfl (by unfold vp_in; decide) dX10_init_86 ?_
  clear hP hD hS; intro H locs hP hD hS
  change va_P (dC, dI) vwCl [(h0, .inr (10, [.ref q_1, .ref q_3, .ref q_5, .ref q_7, .ref q_9, .ref q_11, .ref q_13, .ref q_15, .int 1])), (q_1, .inl (a_2, 40, .inl g_17)), (q_3, .inl (a_4, 40, .inl (fun _ => 0))), (q_5, .inl (a_6, 40, .inl (upd (fun _ => 0) (Int32.toNatClampNeg 0) (-1)))), (q_7, .inl (a_8, 40, .inl (fun _ => 0))), (q_9, .inl (a_10, 40, .inl (fun _ => 0))), (q_11, .inl (a_12, 40, .inl (fun _ => 0))), (q_13, .inl (a_14, 40, .inl (fun _ => 0))), (q_15, .inl (a_16, 40, .inl (fun _ => 0)))] H at hP
  change va_D A [(h0, .inr (10, [.ref q_1, .ref q_3, .ref q_5, .ref q_7, .ref q_9, .ref q_11, .ref q_13, .ref q_15, .int 1])), (q_1, .inl (a_2, 40, .inl g_17)), (q_3, .inl (a_4, 40, .inl (fun _ => 0))), (q_5, .inl (a_6, 40, .inl (upd (fun _ => 0) (Int32.toNatClampNeg 0) (-1)))), (q_7, .inl (a_8, 40, .inl (fun _ => 0))), (q_9, .inl (a_10, 40, .inl (fun _ => 0))), (q_11, .inl (a_12, 40, .inl (fun _ => 0))), (q_13, .inl (a_14, 40, .inl (fun _ => 0))), (q_15, .inl (a_16, 40, .inl (fun _ => 0)))] at hD
  have hQ_20 : V0 (upd (fun _ => 0) (Int32.toNatClampNeg 0) (-1)) (-1) := V0_h (by decide)
  generalize upd (fun _ => 0) (Int32.toNatClampNeg 0) (-1) = g_19 at hP hD hQ_20
  refine lv_aload_n hx hb dX10_init_87 rfl (lv_at hl 0 rfl) ?_
  refine va_get (D := (dC, dI)) (ci := 10) (v := .ref q_15) (C := RX10) (T := TX10) (N := 9) hx hb htb iX10 hown hK hP 0 rfl rfl 7 (Nat.le_of_ble_eq_true rfl) (htb _ m_41) (fun _ h9 => h9) rfl dX10_init_88 ?_
  refine lv_iconst (v := 0) hx hb dX10_init_91 (by decide) ?_
  refine lv_iconst (v := (-1)) hx hb dX10_init_92 (by decide) ?_
  refine va_iast hx hb hK hP hD hS 8 7 rfl rfl (by unfold vp_in; decide) dX10_init_93 ?_
  clear hP hD hS; intro H locs hP hD hS
  change va_P (dC, dI) vwCl [(h0, .inr (10, [.ref q_1, .ref q_3, .ref q_5, .ref q_7, .ref q_9, .ref q_11, .ref q_13, .ref q_15, .int 1])), (q_1, .inl (a_2, 40, .inl g_17)), (q_3, .inl (a_4, 40, .inl (fun _ => 0))), (q_5, .inl (a_6, 40, .inl g_19)), (q_7, .inl (a_8, 40, .inl (fun _ => 0))), (q_9, .inl (a_10, 40, .inl (fun _ => 0))), (q_11, .inl (a_12, 40, .inl (fun _ => 0))), (q_13, .inl (a_14, 40, .inl (fun _ => 0))), (q_15, .inl (a_16, 40, .inl (upd (fun _ => 0) (Int32.toNatClampNeg 0) (-1))))] H at hP
  change va_D A [(h0, .inr (10, [.ref q_1, .ref q_3, .ref q_5, .ref q_7, .ref q_9, .ref q_11, .ref q_13, .ref q_15, .int 1])), (q_1, .inl (a_2, 40, .inl g_17)), (q_3, .inl (a_4, 40, .inl (fun _ => 0))), (q_5, .inl (a_6, 40, .inl g_19)), (q_7, .inl (a_8, 40, .inl (fun _ => 0))), (q_9, .inl (a_10, 40, .inl (fun _ => 0))), (q_11, .inl (a_12, 40, .inl (fun _ => 0))), (q_13, .inl (a_14, 40, .inl (fun _ => 0))), (q_15, .inl (a_16, 40, .inl (upd (fun _ => 0) (Int32.toNatClampNeg 0) (-1))))] at hD
  have hQ_22 : V0 (upd (fun _ => 0) (Int32.toNatClampNeg 0) (-1)) (-1) := V0_h (by decide)
  generalize upd (fun _ => 0) (Int32.toNatClampNeg 0) (-1) = g_21 at hP hD hQ_22
  refine lv_aload_n hx hb dX10_init_94 rfl (lv_at hl 0 rfl) ?_
  refine va_get (D := (dC, dI)) (ci := 10) (v := .ref q_9) (C := RX10) (T := TX10) (N := 9) hx hb htb iX10 hown hK hP 0 rfl rfl 4 (Nat.le_of_ble_eq_true rfl) (htb _ m_38) (fun _ h9 => h9) rfl dX10_init_95 ?_
  refine lv_iconst (v := 0) hx hb dX10_init_98 (by decide) ?_
  refine lv_iconst (v := 1) hx hb dX10_init_99 (by decide) ?_
  refine va_zast hx hb hK hP hD hS 5 4 rfl rfl (by unfold vp_in; decide) dX10_init_100 ?_
  clear hP hD hS; intro H locs hP hD hS
  change va_P (dC, dI) vwCl [(h0, .inr (10, [.ref q_1, .ref q_3, .ref q_5, .ref q_7, .ref q_9, .ref q_11, .ref q_13, .ref q_15, .int 1])), (q_1, .inl (a_2, 40, .inl g_17)), (q_3, .inl (a_4, 40, .inl (fun _ => 0))), (q_5, .inl (a_6, 40, .inl g_19)), (q_7, .inl (a_8, 40, .inl (fun _ => 0))), (q_9, .inl (a_10, 40, .inl (upd (fun _ => 0) (Int32.toNatClampNeg 0) (vp_nar .boolean 1)))), (q_11, .inl (a_12, 40, .inl (fun _ => 0))), (q_13, .inl (a_14, 40, .inl (fun _ => 0))), (q_15, .inl (a_16, 40, .inl g_21))] H at hP
  change va_D A [(h0, .inr (10, [.ref q_1, .ref q_3, .ref q_5, .ref q_7, .ref q_9, .ref q_11, .ref q_13, .ref q_15, .int 1])), (q_1, .inl (a_2, 40, .inl g_17)), (q_3, .inl (a_4, 40, .inl (fun _ => 0))), (q_5, .inl (a_6, 40, .inl g_19)), (q_7, .inl (a_8, 40, .inl (fun _ => 0))), (q_9, .inl (a_10, 40, .inl (upd (fun _ => 0) (Int32.toNatClampNeg 0) (vp_nar .boolean 1)))), (q_11, .inl (a_12, 40, .inl (fun _ => 0))), (q_13, .inl (a_14, 40, .inl (fun _ => 0))), (q_15, .inl (a_16, 40, .inl g_21))] at hD
  have hR_24 : Rg (upd (fun _ => 0) (Int32.toNatClampNeg 0) (vp_nar .boolean 1)) 40 0 1 := Rg_st (Rg_0 (by decide)) (by decide) (lg_X10_init_0 )
  have hQ_25 : V0 (upd (fun _ => 0) (Int32.toNatClampNeg 0) (vp_nar .boolean 1)) 1 := V0_hb
  generalize upd (fun _ => 0) (Int32.toNatClampNeg 0) (vp_nar .boolean 1) = g_23 at hP hD hR_24 hQ_25
  refine W.widen (k := 8) (n := 320) (Nat.le_of_ble_eq_true rfl) (Nat.le_of_ble_eq_true rfl) ?_
  have hP9 := hP.sub (ws' := [(h0, .inr (10, [.ref q_1, .ref q_3, .ref q_5, .ref q_7, .ref q_9, .ref q_11, .ref q_13, .ref q_15, .int 1])), (q_1, .inl (a_2, 40, .inl g_17)), (q_3, .inl (a_4, 40, .inl (fun _ => 0))), (q_5, .inl (a_6, 40, .inl g_19)), (q_7, .inl (a_8, 40, .inl (fun _ => 0))), (q_9, .inl (a_10, 40, .inl g_23)), (q_11, .inl (a_12, 40, .inl (fun _ => 0))), (q_13, .inl (a_14, 40, .inl (fun _ => 0))), (q_15, .inl (a_16, 40, .inl g_21))]) [0, 1, 2, 3, 4, 5, 6, 7, 8] rfl
  have hD9 := hD.sub (ws' := [(h0, .inr (10, [.ref q_1, .ref q_3, .ref q_5, .ref q_7, .ref q_9, .ref q_11, .ref q_13, .ref q_15, .int 1])), (q_1, .inl (a_2, 40, .inl g_17)), (q_3, .inl (a_4, 40, .inl (fun _ => 0))), (q_5, .inl (a_6, 40, .inl g_19)), (q_7, .inl (a_8, 40, .inl (fun _ => 0))), (q_9, .inl (a_10, 40, .inl g_23)), (q_11, .inl (a_12, 40, .inl (fun _ => 0))), (q_13, .inl (a_14, 40, .inl (fun _ => 0))), (q_15, .inl (a_16, 40, .inl g_21))]) [0, 1, 2, 3, 4, 5, 6, 7, 8] (by decide) rfl
  have hK9 := hK.sub (tys' := [(a_2, .int), (a_4, .int), (a_6, .int), (a_8, .int), (a_10, .boolean), (a_12, .int), (a_14, .int), (a_16, .int)]) [0, 1, 2, 3, 4, 5, 6, 7] rfl
  exact W.vret hx hb hr (fun t ht hW => ⟨⟨(), rfl, trivial, ⟨q_1, q_3, q_5, q_7, q_9, q_11, q_13, q_15, a_2, a_4, a_6, a_8, a_10, a_12, a_14, a_16, g_17, g_19, g_23, g_21, hQ_18, hQ_20, hQ_22, hQ_25, hR_24, by rw [ht]; exact hP9, va_K.moved hW.alike hK9, hD9⟩⟩, hS.F ht⟩) hS.2.2 dX10_init_101

set_option maxHeartbeats 4000000 in
set_option maxRecDepth 100000 in
theorem kX2_init (l : Launch) (dC : Nat → ClassId) (dI : Nat → Nat → Nat) (sz : Nat) (h0 : Nat) : Met l yX2_init (Cond.code yX2_init cX2_init 1 none :: bg) ({ frames := 1, cells := 6, slots := 1080, locals := 12 }) (pcW dC dI [.ref h0] sz [(h0, .inr (2, [.null, .null, .null, .null, .null, .null, .int 0, .int 0]))] []) (va_Qv (fun (u : Unit) => True) (fun (u : Unit) (t : State) => ∃ (g_node : Nat) (g_girth : Nat) (g_gave : Nat) (g_holeTree : Nat) (g_holeAngle : Nat) (g_holeYear : Nat) (k_node : ClassId) (k_girth : ClassId) (k_gave : ClassId) (k_holeTree : ClassId) (k_holeAngle : ClassId) (k_holeYear : ClassId), va_P (dC, dI) vwCl [(h0, .inr (2, [.ref g_node, .ref g_girth, .ref g_gave, .ref g_holeTree, .ref g_holeAngle, .ref g_holeYear, .int 0, .int 0])), (g_node, .inl (k_node, 60, .inl (fun _ => 0))), (g_girth, .inl (k_girth, 60, .inl (fun _ => 0))), (g_gave, .inl (k_gave, 60, .inl (fun _ => 0))), (g_holeTree, .inl (k_holeTree, 300, .inl (fun _ => 0))), (g_holeAngle, .inl (k_holeAngle, 300, .inl (fun _ => 0))), (g_holeYear, .inl (k_holeYear, 300, .inl (fun _ => 0)))] t.heap ∧ va_K (dC, dI) vwCl [(k_node, .int), (k_girth, .int), (k_gave, .int), (k_holeTree, .int), (k_holeAngle, .int), (k_holeYear, .int)] t ∧ va_D (va_A [(h0, .inr (2, [.null, .null, .null, .null, .null, .null, .int 0, .int 0]))] sz) [(h0, .inr (2, [.ref g_node, .ref g_girth, .ref g_gave, .ref g_holeTree, .ref g_holeAngle, .ref g_holeYear, .int 0, .int 0])), (g_node, .inl (k_node, 60, .inl (fun _ => 0))), (g_girth, .inl (k_girth, 60, .inl (fun _ => 0))), (g_gave, .inl (k_gave, 60, .inl (fun _ => 0))), (g_holeTree, .inl (k_holeTree, 300, .inl (fun _ => 0))), (g_holeAngle, .inl (k_holeAngle, 300, .inl (fun _ => 0))), (g_holeYear, .inl (k_holeYear, 300, .inl (fun _ => 0)))]) (va_A [(h0, .inr (2, [.null, .null, .null, .null, .null, .null, .int 0, .int 0]))] sz)) 6 1080 (va_A [(h0, .inr (2, [.null, .null, .null, .null, .null, .null, .int 0, .int 0]))] sz) := by
  refine Met.ofW (cc := cX2_init) (maxL := 1) (ret := none) pnX2 rfl ?_
  intro p e s m args below meth c s₁ B hml hv
  obtain ⟨rfl, hsz, hP, hK, hD0, hN⟩ := hv
  have hx := B.exec
  have hb := B.bytes
  have hr := B.returns
  have htb : ∀ w ∈ bg, w.before [.ref h0].toArray s = true := fun w h => atoms_spec (ws := Cond.code yX2_init cX2_init 1 none :: bg) B.pre w (List.mem_cons_of_mem _ h)
  have hown : s.vm.findClass RX2 = some m.cls := findClass_of_methodNamed B.named
  have hlocks := B.notSynchronized
  have hin : meth.name = "<init>" := (name_of_methodNamed B.named B.method).1
  subst hsz
  have hD := hD0.self (sz := s.heap.size)
  generalize hAe : va_A [(h0, .inr (2, [.null, .null, .null, .null, .null, .null, .int 0, .int 0]))] s.heap.size = A at hD ⊢
  have hA : ∀ q : Nat, s.heap.size ≤ q → A q := fun q h => by rw [← hAe]; exact Or.inr h
  have hS : va_S A s.heap s.heap [] := va_S.rf
  have hl := lv_entry ([.ref h0]) (n := 1) (Nat.le_of_ble_eq_true rfl)
  rw [lg_entry_eq]
  generalize (lg_sl ([.ref h0]) ++ List.replicate (1 - (lg_sl ([.ref h0])).length) Slot.unset).toArray = ls at hl ⊢
  change lv_has ls 1 [(0, .ref h0)] at hl
  clear hD0 hAe
  refine go0 (wsP := fun H => va_P (dC, dI) vwCl [(h0, .inr (2, [.null, .null, .null, .null, .null, .null, .int 0, .int 0]))] H) hP hS ?_
  clear hP hS; intro H locs hP hS
  change va_P (dC, dI) vwCl [(h0, .inr (2, [.null, .null, .null, .null, .null, .null, .int 0, .int 0]))] H at hP
  refine lv_aload_n hx hb dX2_init_0 rfl (lv_at hl 0 rfl) ?_
  refine W.objInit hx hb hown (htb _ m_70) (htb _ m_26) (htb _ m_27) rfl (by rw [hml]; exact hl.1) rfl dX2_init_1 (Nat.le_of_ble_eq_true rfl) (Nat.le_of_ble_eq_true rfl) ?_
  refine W.eq (g2 := F0 m 4 ls []) rfl ?_
  refine lv_aload_n hx hb dX2_init_4 rfl (lv_at hl 0 rfl) ?_
  refine lv_bipush (v := 60) hx hb dX2_init_5 (by decide) ?_
  refine va_newa (atype := .int) (a0 := (60, .inl (fun _ => 0))) (N' := 60) (ty := .int) hx hb (htb _ m_63) rfl hK hP hD hS hA (fun _ => rfl) (by decide) (by decide) (Nat.le_of_ble_eq_true rfl) (Nat.le_of_ble_eq_true rfl) (Nat.le_of_ble_eq_true rfl) dX2_init_7 ?_
  clear hP hD hS hK; intro q_1 a_2 H hK hP hD hS
  change va_P (dC, dI) vwCl [(h0, .inr (2, [.null, .null, .null, .null, .null, .null, .int 0, .int 0])), (q_1, .inl (a_2, 60, .inl (fun _ => 0)))] H at hP
  change va_D A [(h0, .inr (2, [.null, .null, .null, .null, .null, .null, .int 0, .int 0])), (q_1, .inl (a_2, 60, .inl (fun _ => 0)))] at hD
  change va_K (dC, dI) vwCl [(a_2, .int)] s at hK
  refine W.widen (k := 1) (n := 60) (Nat.le_of_ble_eq_true rfl) (Nat.le_of_ble_eq_true rfl) ?_
  refine va_putF (D := (dC, dI)) (ci := 2) (v := .ref q_1) (C := RX2) (T := TX2) (N := 8) hx hb htb iX2 tyX2 tyX2_ok nmX2 hown hK hP hD hS 0 rfl rfl 0 (Nat.le_of_ble_eq_true rfl) (htb _ m_71) (fun _ h9 => h9) rfl hin rfl (tyX2_ok 0 (Nat.le_of_ble_eq_true rfl)) rfl rfl (Nat.le_of_ble_eq_true rfl) dX2_init_9 ?_
  clear hP hD hS; intro H locs hP hD hS
  change va_P (dC, dI) vwCl [(h0, .inr (2, [.ref q_1, .null, .null, .null, .null, .null, .int 0, .int 0])), (q_1, .inl (a_2, 60, .inl (fun _ => 0)))] H at hP
  change va_D A [(h0, .inr (2, [.ref q_1, .null, .null, .null, .null, .null, .int 0, .int 0])), (q_1, .inl (a_2, 60, .inl (fun _ => 0)))] at hD
  refine lv_aload_n hx hb dX2_init_12 rfl (lv_at hl 0 rfl) ?_
  refine lv_bipush (v := 60) hx hb dX2_init_13 (by decide) ?_
  refine va_newa (atype := .int) (a0 := (60, .inl (fun _ => 0))) (N' := 60) (ty := .int) hx hb (htb _ m_63) rfl hK hP hD hS hA (fun _ => rfl) (by decide) (by decide) (Nat.le_of_ble_eq_true rfl) (Nat.le_of_ble_eq_true rfl) (Nat.le_of_ble_eq_true rfl) dX2_init_15 ?_
  clear hP hD hS hK; intro q_3 a_4 H hK hP hD hS
  change va_P (dC, dI) vwCl [(h0, .inr (2, [.ref q_1, .null, .null, .null, .null, .null, .int 0, .int 0])), (q_1, .inl (a_2, 60, .inl (fun _ => 0))), (q_3, .inl (a_4, 60, .inl (fun _ => 0)))] H at hP
  change va_D A [(h0, .inr (2, [.ref q_1, .null, .null, .null, .null, .null, .int 0, .int 0])), (q_1, .inl (a_2, 60, .inl (fun _ => 0))), (q_3, .inl (a_4, 60, .inl (fun _ => 0)))] at hD
  change va_K (dC, dI) vwCl [(a_2, .int), (a_4, .int)] s at hK
  refine W.widen (k := 2) (n := 120) (Nat.le_of_ble_eq_true rfl) (Nat.le_of_ble_eq_true rfl) ?_
  refine va_putF (D := (dC, dI)) (ci := 2) (v := .ref q_3) (C := RX2) (T := TX2) (N := 8) hx hb htb iX2 tyX2 tyX2_ok nmX2 hown hK hP hD hS 0 rfl rfl 1 (Nat.le_of_ble_eq_true rfl) (htb _ m_72) (fun _ h9 => h9) rfl hin rfl (tyX2_ok 1 (Nat.le_of_ble_eq_true rfl)) rfl rfl (Nat.le_of_ble_eq_true rfl) dX2_init_17 ?_
  clear hP hD hS; intro H locs hP hD hS
  change va_P (dC, dI) vwCl [(h0, .inr (2, [.ref q_1, .ref q_3, .null, .null, .null, .null, .int 0, .int 0])), (q_1, .inl (a_2, 60, .inl (fun _ => 0))), (q_3, .inl (a_4, 60, .inl (fun _ => 0)))] H at hP
  change va_D A [(h0, .inr (2, [.ref q_1, .ref q_3, .null, .null, .null, .null, .int 0, .int 0])), (q_1, .inl (a_2, 60, .inl (fun _ => 0))), (q_3, .inl (a_4, 60, .inl (fun _ => 0)))] at hD
  refine lv_aload_n hx hb dX2_init_20 rfl (lv_at hl 0 rfl) ?_
  refine lv_bipush (v := 60) hx hb dX2_init_21 (by decide) ?_
  refine va_newa (atype := .int) (a0 := (60, .inl (fun _ => 0))) (N' := 60) (ty := .int) hx hb (htb _ m_63) rfl hK hP hD hS hA (fun _ => rfl) (by decide) (by decide) (Nat.le_of_ble_eq_true rfl) (Nat.le_of_ble_eq_true rfl) (Nat.le_of_ble_eq_true rfl) dX2_init_23 ?_
  clear hP hD hS hK; intro q_5 a_6 H hK hP hD hS
  change va_P (dC, dI) vwCl [(h0, .inr (2, [.ref q_1, .ref q_3, .null, .null, .null, .null, .int 0, .int 0])), (q_1, .inl (a_2, 60, .inl (fun _ => 0))), (q_3, .inl (a_4, 60, .inl (fun _ => 0))), (q_5, .inl (a_6, 60, .inl (fun _ => 0)))] H at hP
  change va_D A [(h0, .inr (2, [.ref q_1, .ref q_3, .null, .null, .null, .null, .int 0, .int 0])), (q_1, .inl (a_2, 60, .inl (fun _ => 0))), (q_3, .inl (a_4, 60, .inl (fun _ => 0))), (q_5, .inl (a_6, 60, .inl (fun _ => 0)))] at hD
  change va_K (dC, dI) vwCl [(a_2, .int), (a_4, .int), (a_6, .int)] s at hK
  refine W.widen (k := 3) (n := 180) (Nat.le_of_ble_eq_true rfl) (Nat.le_of_ble_eq_true rfl) ?_
  refine va_putF (D := (dC, dI)) (ci := 2) (v := .ref q_5) (C := RX2) (T := TX2) (N := 8) hx hb htb iX2 tyX2 tyX2_ok nmX2 hown hK hP hD hS 0 rfl rfl 2 (Nat.le_of_ble_eq_true rfl) (htb _ m_73) (fun _ h9 => h9) rfl hin rfl (tyX2_ok 2 (Nat.le_of_ble_eq_true rfl)) rfl rfl (Nat.le_of_ble_eq_true rfl) dX2_init_25 ?_
  clear hP hD hS; intro H locs hP hD hS
  change va_P (dC, dI) vwCl [(h0, .inr (2, [.ref q_1, .ref q_3, .ref q_5, .null, .null, .null, .int 0, .int 0])), (q_1, .inl (a_2, 60, .inl (fun _ => 0))), (q_3, .inl (a_4, 60, .inl (fun _ => 0))), (q_5, .inl (a_6, 60, .inl (fun _ => 0)))] H at hP
  change va_D A [(h0, .inr (2, [.ref q_1, .ref q_3, .ref q_5, .null, .null, .null, .int 0, .int 0])), (q_1, .inl (a_2, 60, .inl (fun _ => 0))), (q_3, .inl (a_4, 60, .inl (fun _ => 0))), (q_5, .inl (a_6, 60, .inl (fun _ => 0)))] at hD
  refine lv_aload_n hx hb dX2_init_28 rfl (lv_at hl 0 rfl) ?_
  refine lv_sipush (v := 300) hx hb dX2_init_29 (by decide) ?_
  refine va_newa (atype := .int) (a0 := (300, .inl (fun _ => 0))) (N' := 300) (ty := .int) hx hb (htb _ m_63) rfl hK hP hD hS hA (fun _ => rfl) (by decide) (by decide) (Nat.le_of_ble_eq_true rfl) (Nat.le_of_ble_eq_true rfl) (Nat.le_of_ble_eq_true rfl) dX2_init_32 ?_
  clear hP hD hS hK; intro q_7 a_8 H hK hP hD hS
  change va_P (dC, dI) vwCl [(h0, .inr (2, [.ref q_1, .ref q_3, .ref q_5, .null, .null, .null, .int 0, .int 0])), (q_1, .inl (a_2, 60, .inl (fun _ => 0))), (q_3, .inl (a_4, 60, .inl (fun _ => 0))), (q_5, .inl (a_6, 60, .inl (fun _ => 0))), (q_7, .inl (a_8, 300, .inl (fun _ => 0)))] H at hP
  change va_D A [(h0, .inr (2, [.ref q_1, .ref q_3, .ref q_5, .null, .null, .null, .int 0, .int 0])), (q_1, .inl (a_2, 60, .inl (fun _ => 0))), (q_3, .inl (a_4, 60, .inl (fun _ => 0))), (q_5, .inl (a_6, 60, .inl (fun _ => 0))), (q_7, .inl (a_8, 300, .inl (fun _ => 0)))] at hD
  change va_K (dC, dI) vwCl [(a_2, .int), (a_4, .int), (a_6, .int), (a_8, .int)] s at hK
  refine W.widen (k := 4) (n := 480) (Nat.le_of_ble_eq_true rfl) (Nat.le_of_ble_eq_true rfl) ?_
  refine va_putF (D := (dC, dI)) (ci := 2) (v := .ref q_7) (C := RX2) (T := TX2) (N := 8) hx hb htb iX2 tyX2 tyX2_ok nmX2 hown hK hP hD hS 0 rfl rfl 3 (Nat.le_of_ble_eq_true rfl) (htb _ m_74) (fun _ h9 => h9) rfl hin rfl (tyX2_ok 3 (Nat.le_of_ble_eq_true rfl)) rfl rfl (Nat.le_of_ble_eq_true rfl) dX2_init_34 ?_
  clear hP hD hS; intro H locs hP hD hS
  change va_P (dC, dI) vwCl [(h0, .inr (2, [.ref q_1, .ref q_3, .ref q_5, .ref q_7, .null, .null, .int 0, .int 0])), (q_1, .inl (a_2, 60, .inl (fun _ => 0))), (q_3, .inl (a_4, 60, .inl (fun _ => 0))), (q_5, .inl (a_6, 60, .inl (fun _ => 0))), (q_7, .inl (a_8, 300, .inl (fun _ => 0)))] H at hP
  change va_D A [(h0, .inr (2, [.ref q_1, .ref q_3, .ref q_5, .ref q_7, .null, .null, .int 0, .int 0])), (q_1, .inl (a_2, 60, .inl (fun _ => 0))), (q_3, .inl (a_4, 60, .inl (fun _ => 0))), (q_5, .inl (a_6, 60, .inl (fun _ => 0))), (q_7, .inl (a_8, 300, .inl (fun _ => 0)))] at hD
  refine lv_aload_n hx hb dX2_init_37 rfl (lv_at hl 0 rfl) ?_
  refine lv_sipush (v := 300) hx hb dX2_init_38 (by decide) ?_
  refine va_newa (atype := .int) (a0 := (300, .inl (fun _ => 0))) (N' := 300) (ty := .int) hx hb (htb _ m_63) rfl hK hP hD hS hA (fun _ => rfl) (by decide) (by decide) (Nat.le_of_ble_eq_true rfl) (Nat.le_of_ble_eq_true rfl) (Nat.le_of_ble_eq_true rfl) dX2_init_41 ?_
  clear hP hD hS hK; intro q_9 a_10 H hK hP hD hS
  change va_P (dC, dI) vwCl [(h0, .inr (2, [.ref q_1, .ref q_3, .ref q_5, .ref q_7, .null, .null, .int 0, .int 0])), (q_1, .inl (a_2, 60, .inl (fun _ => 0))), (q_3, .inl (a_4, 60, .inl (fun _ => 0))), (q_5, .inl (a_6, 60, .inl (fun _ => 0))), (q_7, .inl (a_8, 300, .inl (fun _ => 0))), (q_9, .inl (a_10, 300, .inl (fun _ => 0)))] H at hP
  change va_D A [(h0, .inr (2, [.ref q_1, .ref q_3, .ref q_5, .ref q_7, .null, .null, .int 0, .int 0])), (q_1, .inl (a_2, 60, .inl (fun _ => 0))), (q_3, .inl (a_4, 60, .inl (fun _ => 0))), (q_5, .inl (a_6, 60, .inl (fun _ => 0))), (q_7, .inl (a_8, 300, .inl (fun _ => 0))), (q_9, .inl (a_10, 300, .inl (fun _ => 0)))] at hD
  change va_K (dC, dI) vwCl [(a_2, .int), (a_4, .int), (a_6, .int), (a_8, .int), (a_10, .int)] s at hK
  refine W.widen (k := 5) (n := 780) (Nat.le_of_ble_eq_true rfl) (Nat.le_of_ble_eq_true rfl) ?_
  refine va_putF (D := (dC, dI)) (ci := 2) (v := .ref q_9) (C := RX2) (T := TX2) (N := 8) hx hb htb iX2 tyX2 tyX2_ok nmX2 hown hK hP hD hS 0 rfl rfl 4 (Nat.le_of_ble_eq_true rfl) (htb _ m_75) (fun _ h9 => h9) rfl hin rfl (tyX2_ok 4 (Nat.le_of_ble_eq_true rfl)) rfl rfl (Nat.le_of_ble_eq_true rfl) dX2_init_43 ?_
  clear hP hD hS; intro H locs hP hD hS
  change va_P (dC, dI) vwCl [(h0, .inr (2, [.ref q_1, .ref q_3, .ref q_5, .ref q_7, .ref q_9, .null, .int 0, .int 0])), (q_1, .inl (a_2, 60, .inl (fun _ => 0))), (q_3, .inl (a_4, 60, .inl (fun _ => 0))), (q_5, .inl (a_6, 60, .inl (fun _ => 0))), (q_7, .inl (a_8, 300, .inl (fun _ => 0))), (q_9, .inl (a_10, 300, .inl (fun _ => 0)))] H at hP
  change va_D A [(h0, .inr (2, [.ref q_1, .ref q_3, .ref q_5, .ref q_7, .ref q_9, .null, .int 0, .int 0])), (q_1, .inl (a_2, 60, .inl (fun _ => 0))), (q_3, .inl (a_4, 60, .inl (fun _ => 0))), (q_5, .inl (a_6, 60, .inl (fun _ => 0))), (q_7, .inl (a_8, 300, .inl (fun _ => 0))), (q_9, .inl (a_10, 300, .inl (fun _ => 0)))] at hD
  refine lv_aload_n hx hb dX2_init_46 rfl (lv_at hl 0 rfl) ?_
  refine lv_sipush (v := 300) hx hb dX2_init_47 (by decide) ?_
  refine va_newa (atype := .int) (a0 := (300, .inl (fun _ => 0))) (N' := 300) (ty := .int) hx hb (htb _ m_63) rfl hK hP hD hS hA (fun _ => rfl) (by decide) (by decide) (Nat.le_of_ble_eq_true rfl) (Nat.le_of_ble_eq_true rfl) (Nat.le_of_ble_eq_true rfl) dX2_init_50 ?_
  clear hP hD hS hK; intro q_11 a_12 H hK hP hD hS
  change va_P (dC, dI) vwCl [(h0, .inr (2, [.ref q_1, .ref q_3, .ref q_5, .ref q_7, .ref q_9, .null, .int 0, .int 0])), (q_1, .inl (a_2, 60, .inl (fun _ => 0))), (q_3, .inl (a_4, 60, .inl (fun _ => 0))), (q_5, .inl (a_6, 60, .inl (fun _ => 0))), (q_7, .inl (a_8, 300, .inl (fun _ => 0))), (q_9, .inl (a_10, 300, .inl (fun _ => 0))), (q_11, .inl (a_12, 300, .inl (fun _ => 0)))] H at hP
  change va_D A [(h0, .inr (2, [.ref q_1, .ref q_3, .ref q_5, .ref q_7, .ref q_9, .null, .int 0, .int 0])), (q_1, .inl (a_2, 60, .inl (fun _ => 0))), (q_3, .inl (a_4, 60, .inl (fun _ => 0))), (q_5, .inl (a_6, 60, .inl (fun _ => 0))), (q_7, .inl (a_8, 300, .inl (fun _ => 0))), (q_9, .inl (a_10, 300, .inl (fun _ => 0))), (q_11, .inl (a_12, 300, .inl (fun _ => 0)))] at hD
  change va_K (dC, dI) vwCl [(a_2, .int), (a_4, .int), (a_6, .int), (a_8, .int), (a_10, .int), (a_12, .int)] s at hK
  refine W.widen (k := 6) (n := 1080) (Nat.le_of_ble_eq_true rfl) (Nat.le_of_ble_eq_true rfl) ?_
  refine va_putF (D := (dC, dI)) (ci := 2) (v := .ref q_11) (C := RX2) (T := TX2) (N := 8) hx hb htb iX2 tyX2 tyX2_ok nmX2 hown hK hP hD hS 0 rfl rfl 5 (Nat.le_of_ble_eq_true rfl) (htb _ m_76) (fun _ h9 => h9) rfl hin rfl (tyX2_ok 5 (Nat.le_of_ble_eq_true rfl)) rfl rfl (Nat.le_of_ble_eq_true rfl) dX2_init_52 ?_
  clear hP hD hS; intro H locs hP hD hS
  change va_P (dC, dI) vwCl [(h0, .inr (2, [.ref q_1, .ref q_3, .ref q_5, .ref q_7, .ref q_9, .ref q_11, .int 0, .int 0])), (q_1, .inl (a_2, 60, .inl (fun _ => 0))), (q_3, .inl (a_4, 60, .inl (fun _ => 0))), (q_5, .inl (a_6, 60, .inl (fun _ => 0))), (q_7, .inl (a_8, 300, .inl (fun _ => 0))), (q_9, .inl (a_10, 300, .inl (fun _ => 0))), (q_11, .inl (a_12, 300, .inl (fun _ => 0)))] H at hP
  change va_D A [(h0, .inr (2, [.ref q_1, .ref q_3, .ref q_5, .ref q_7, .ref q_9, .ref q_11, .int 0, .int 0])), (q_1, .inl (a_2, 60, .inl (fun _ => 0))), (q_3, .inl (a_4, 60, .inl (fun _ => 0))), (q_5, .inl (a_6, 60, .inl (fun _ => 0))), (q_7, .inl (a_8, 300, .inl (fun _ => 0))), (q_9, .inl (a_10, 300, .inl (fun _ => 0))), (q_11, .inl (a_12, 300, .inl (fun _ => 0)))] at hD
  refine W.widen (k := 6) (n := 1080) (Nat.le_of_ble_eq_true rfl) (Nat.le_of_ble_eq_true rfl) ?_
  have hP9 := hP.sub (ws' := [(h0, .inr (2, [.ref q_1, .ref q_3, .ref q_5, .ref q_7, .ref q_9, .ref q_11, .int 0, .int 0])), (q_1, .inl (a_2, 60, .inl (fun _ => 0))), (q_3, .inl (a_4, 60, .inl (fun _ => 0))), (q_5, .inl (a_6, 60, .inl (fun _ => 0))), (q_7, .inl (a_8, 300, .inl (fun _ => 0))), (q_9, .inl (a_10, 300, .inl (fun _ => 0))), (q_11, .inl (a_12, 300, .inl (fun _ => 0)))]) [0, 1, 2, 3, 4, 5, 6] rfl
  have hD9 := hD.sub (ws' := [(h0, .inr (2, [.ref q_1, .ref q_3, .ref q_5, .ref q_7, .ref q_9, .ref q_11, .int 0, .int 0])), (q_1, .inl (a_2, 60, .inl (fun _ => 0))), (q_3, .inl (a_4, 60, .inl (fun _ => 0))), (q_5, .inl (a_6, 60, .inl (fun _ => 0))), (q_7, .inl (a_8, 300, .inl (fun _ => 0))), (q_9, .inl (a_10, 300, .inl (fun _ => 0))), (q_11, .inl (a_12, 300, .inl (fun _ => 0)))]) [0, 1, 2, 3, 4, 5, 6] (by decide) rfl
  have hK9 := hK.sub (tys' := [(a_2, .int), (a_4, .int), (a_6, .int), (a_8, .int), (a_10, .int), (a_12, .int)]) [0, 1, 2, 3, 4, 5] rfl
  exact W.vret hx hb hr (fun t ht hW => ⟨⟨(), rfl, trivial, ⟨q_1, q_3, q_5, q_7, q_9, q_11, a_2, a_4, a_6, a_8, a_10, a_12, by rw [ht]; exact hP9, va_K.moved hW.alike hK9, hD9⟩⟩, hS.F ht⟩) hS.2.2 dX2_init_55

set_option maxHeartbeats 4000000 in
set_option maxRecDepth 100000 in
theorem kX7_init (l : Launch) (dC : Nat → ClassId) (dI : Nat → Nat → Nat) (sz : Nat) (h0 : Nat) : Met l yX7_init (Cond.code yX7_init cX7_init 1 none :: bg) ({ frames := 1, cells := 0, slots := 0, locals := 12 }) (pcW dC dI [.ref h0] sz [(h0, .inr (7, [.int 0, .int 0, .int 0, .int 0]))] []) (va_Qv (fun (u : Unit) => True) (fun (u : Unit) (t : State) => va_P (dC, dI) vwCl [(h0, .inr (7, [.int 0, .int 0, .int 0, .int 0]))] t.heap ∧ va_K (dC, dI) vwCl [] t ∧ va_D (va_A [(h0, .inr (7, [.int 0, .int 0, .int 0, .int 0]))] sz) [(h0, .inr (7, [.int 0, .int 0, .int 0, .int 0]))]) (va_A [(h0, .inr (7, [.int 0, .int 0, .int 0, .int 0]))] sz)) 0 0 (va_A [(h0, .inr (7, [.int 0, .int 0, .int 0, .int 0]))] sz) := by
  refine Met.ofW (cc := cX7_init) (maxL := 1) (ret := none) pnX7 rfl ?_
  intro p e s m args below meth c s₁ B hml hv
  obtain ⟨rfl, hsz, hP, hK, hD0, hN⟩ := hv
  have hx := B.exec
  have hb := B.bytes
  have hr := B.returns
  have htb : ∀ w ∈ bg, w.before [.ref h0].toArray s = true := fun w h => atoms_spec (ws := Cond.code yX7_init cX7_init 1 none :: bg) B.pre w (List.mem_cons_of_mem _ h)
  have hown : s.vm.findClass RX7 = some m.cls := findClass_of_methodNamed B.named
  have hlocks := B.notSynchronized
  have hin : meth.name = "<init>" := (name_of_methodNamed B.named B.method).1
  subst hsz
  have hD := hD0.self (sz := s.heap.size)
  generalize hAe : va_A [(h0, .inr (7, [.int 0, .int 0, .int 0, .int 0]))] s.heap.size = A at hD ⊢
  have hA : ∀ q : Nat, s.heap.size ≤ q → A q := fun q h => by rw [← hAe]; exact Or.inr h
  have hS : va_S A s.heap s.heap [] := va_S.rf
  have hl := lv_entry ([.ref h0]) (n := 1) (Nat.le_of_ble_eq_true rfl)
  rw [lg_entry_eq]
  generalize (lg_sl ([.ref h0]) ++ List.replicate (1 - (lg_sl ([.ref h0])).length) Slot.unset).toArray = ls at hl ⊢
  change lv_has ls 1 [(0, .ref h0)] at hl
  clear hD0 hAe
  refine go0 (wsP := fun H => va_P (dC, dI) vwCl [(h0, .inr (7, [.int 0, .int 0, .int 0, .int 0]))] H) hP hS ?_
  clear hP hS; intro H locs hP hS
  change va_P (dC, dI) vwCl [(h0, .inr (7, [.int 0, .int 0, .int 0, .int 0]))] H at hP
  refine lv_aload_n hx hb dX7_init_0 rfl (lv_at hl 0 rfl) ?_
  refine W.objInit hx hb hown (htb _ m_103) (htb _ m_26) (htb _ m_27) rfl (by rw [hml]; exact hl.1) rfl dX7_init_1 (Nat.le_of_ble_eq_true rfl) (Nat.le_of_ble_eq_true rfl) ?_
  refine W.eq (g2 := F0 m 4 ls []) rfl ?_
  refine W.widen (k := 0) (n := 0) (Nat.le_of_ble_eq_true rfl) (Nat.le_of_ble_eq_true rfl) ?_
  have hP9 := hP.sub (ws' := [(h0, .inr (7, [.int 0, .int 0, .int 0, .int 0]))]) [0] rfl
  have hD9 := hD.sub (ws' := [(h0, .inr (7, [.int 0, .int 0, .int 0, .int 0]))]) [0] (by decide) rfl
  have hK9 := hK.sub (tys' := []) [] rfl
  exact W.vret hx hb hr (fun t ht hW => ⟨⟨(), rfl, trivial, ⟨by rw [ht]; exact hP9, va_K.moved hW.alike hK9, hD9⟩⟩, hS.F ht⟩) hS.2.2 dX7_init_4

set_option maxHeartbeats 4000000 in
set_option maxRecDepth 100000 in
theorem kX4_init (l : Launch) (dC : Nat → ClassId) (dI : Nat → Nat → Nat) (sz : Nat) (h0 : Nat) : Met l yX4_init (Cond.code yX4_init cX4_init 1 none :: bg) ({ frames := 1, cells := 2, slots := 242, locals := 12 }) (pcW dC dI [.ref h0] sz [(h0, .inr (4, [.null, .null]))] []) (va_Qv (fun (u : Unit) => True) (fun (u : Unit) (t : State) => ∃ (a_given : Nat) (a_days : Nat) (k_given : ClassId) (k_days : ClassId), va_P (dC, dI) vwCl [(h0, .inr (4, [.ref a_given, .ref a_days])), (a_given, .inl (k_given, 121, .inl (fun _ => 0))), (a_days, .inl (k_days, 121, .inl (fun _ => 0)))] t.heap ∧ va_K (dC, dI) vwCl [(k_given, .int), (k_days, .int)] t ∧ va_D (va_A [(h0, .inr (4, [.null, .null]))] sz) [(h0, .inr (4, [.ref a_given, .ref a_days])), (a_given, .inl (k_given, 121, .inl (fun _ => 0))), (a_days, .inl (k_days, 121, .inl (fun _ => 0)))]) (va_A [(h0, .inr (4, [.null, .null]))] sz)) 2 242 (va_A [(h0, .inr (4, [.null, .null]))] sz) := by
  refine Met.ofW (cc := cX4_init) (maxL := 1) (ret := none) pnX4 rfl ?_
  intro p e s m args below meth c s₁ B hml hv
  obtain ⟨rfl, hsz, hP, hK, hD0, hN⟩ := hv
  have hx := B.exec
  have hb := B.bytes
  have hr := B.returns
  have htb : ∀ w ∈ bg, w.before [.ref h0].toArray s = true := fun w h => atoms_spec (ws := Cond.code yX4_init cX4_init 1 none :: bg) B.pre w (List.mem_cons_of_mem _ h)
  have hown : s.vm.findClass RX4 = some m.cls := findClass_of_methodNamed B.named
  have hlocks := B.notSynchronized
  have hin : meth.name = "<init>" := (name_of_methodNamed B.named B.method).1
  subst hsz
  have hD := hD0.self (sz := s.heap.size)
  generalize hAe : va_A [(h0, .inr (4, [.null, .null]))] s.heap.size = A at hD ⊢
  have hA : ∀ q : Nat, s.heap.size ≤ q → A q := fun q h => by rw [← hAe]; exact Or.inr h
  have hS : va_S A s.heap s.heap [] := va_S.rf
  have hl := lv_entry ([.ref h0]) (n := 1) (Nat.le_of_ble_eq_true rfl)
  rw [lg_entry_eq]
  generalize (lg_sl ([.ref h0]) ++ List.replicate (1 - (lg_sl ([.ref h0])).length) Slot.unset).toArray = ls at hl ⊢
  change lv_has ls 1 [(0, .ref h0)] at hl
  clear hD0 hAe
  refine go0 (wsP := fun H => va_P (dC, dI) vwCl [(h0, .inr (4, [.null, .null]))] H) hP hS ?_
  clear hP hS; intro H locs hP hS
  change va_P (dC, dI) vwCl [(h0, .inr (4, [.null, .null]))] H at hP
  refine lv_aload_n hx hb dX4_init_0 rfl (lv_at hl 0 rfl) ?_
  refine W.objInit hx hb hown (htb _ m_125) (htb _ m_26) (htb _ m_27) rfl (by rw [hml]; exact hl.1) rfl dX4_init_1 (Nat.le_of_ble_eq_true rfl) (Nat.le_of_ble_eq_true rfl) ?_
  refine W.eq (g2 := F0 m 4 ls []) rfl ?_
  refine lv_aload_n hx hb dX4_init_4 rfl (lv_at hl 0 rfl) ?_
  refine lv_bipush (v := 121) hx hb dX4_init_5 (by decide) ?_
  refine va_newa (atype := .int) (a0 := (121, .inl (fun _ => 0))) (N' := 121) (ty := .int) hx hb (htb _ m_63) rfl hK hP hD hS hA (fun _ => rfl) (by decide) (by decide) (Nat.le_of_ble_eq_true rfl) (Nat.le_of_ble_eq_true rfl) (Nat.le_of_ble_eq_true rfl) dX4_init_7 ?_
  clear hP hD hS hK; intro q_1 a_2 H hK hP hD hS
  change va_P (dC, dI) vwCl [(h0, .inr (4, [.null, .null])), (q_1, .inl (a_2, 121, .inl (fun _ => 0)))] H at hP
  change va_D A [(h0, .inr (4, [.null, .null])), (q_1, .inl (a_2, 121, .inl (fun _ => 0)))] at hD
  change va_K (dC, dI) vwCl [(a_2, .int)] s at hK
  refine W.widen (k := 1) (n := 121) (Nat.le_of_ble_eq_true rfl) (Nat.le_of_ble_eq_true rfl) ?_
  refine va_putF (D := (dC, dI)) (ci := 4) (v := .ref q_1) (C := RX4) (T := TX4) (N := 2) hx hb htb iX4 tyX4 tyX4_ok nmX4 hown hK hP hD hS 0 rfl rfl 0 (Nat.le_of_ble_eq_true rfl) (htb _ m_126) (fun _ h9 => h9) rfl hin rfl (tyX4_ok 0 (Nat.le_of_ble_eq_true rfl)) rfl rfl (Nat.le_of_ble_eq_true rfl) dX4_init_9 ?_
  clear hP hD hS; intro H locs hP hD hS
  change va_P (dC, dI) vwCl [(h0, .inr (4, [.ref q_1, .null])), (q_1, .inl (a_2, 121, .inl (fun _ => 0)))] H at hP
  change va_D A [(h0, .inr (4, [.ref q_1, .null])), (q_1, .inl (a_2, 121, .inl (fun _ => 0)))] at hD
  refine lv_aload_n hx hb dX4_init_12 rfl (lv_at hl 0 rfl) ?_
  refine lv_bipush (v := 121) hx hb dX4_init_13 (by decide) ?_
  refine va_newa (atype := .int) (a0 := (121, .inl (fun _ => 0))) (N' := 121) (ty := .int) hx hb (htb _ m_63) rfl hK hP hD hS hA (fun _ => rfl) (by decide) (by decide) (Nat.le_of_ble_eq_true rfl) (Nat.le_of_ble_eq_true rfl) (Nat.le_of_ble_eq_true rfl) dX4_init_15 ?_
  clear hP hD hS hK; intro q_3 a_4 H hK hP hD hS
  change va_P (dC, dI) vwCl [(h0, .inr (4, [.ref q_1, .null])), (q_1, .inl (a_2, 121, .inl (fun _ => 0))), (q_3, .inl (a_4, 121, .inl (fun _ => 0)))] H at hP
  change va_D A [(h0, .inr (4, [.ref q_1, .null])), (q_1, .inl (a_2, 121, .inl (fun _ => 0))), (q_3, .inl (a_4, 121, .inl (fun _ => 0)))] at hD
  change va_K (dC, dI) vwCl [(a_2, .int), (a_4, .int)] s at hK
  refine W.widen (k := 2) (n := 242) (Nat.le_of_ble_eq_true rfl) (Nat.le_of_ble_eq_true rfl) ?_
  refine va_putF (D := (dC, dI)) (ci := 4) (v := .ref q_3) (C := RX4) (T := TX4) (N := 2) hx hb htb iX4 tyX4 tyX4_ok nmX4 hown hK hP hD hS 0 rfl rfl 1 (Nat.le_of_ble_eq_true rfl) (htb _ m_127) (fun _ h9 => h9) rfl hin rfl (tyX4_ok 1 (Nat.le_of_ble_eq_true rfl)) rfl rfl (Nat.le_of_ble_eq_true rfl) dX4_init_17 ?_
  clear hP hD hS; intro H locs hP hD hS
  change va_P (dC, dI) vwCl [(h0, .inr (4, [.ref q_1, .ref q_3])), (q_1, .inl (a_2, 121, .inl (fun _ => 0))), (q_3, .inl (a_4, 121, .inl (fun _ => 0)))] H at hP
  change va_D A [(h0, .inr (4, [.ref q_1, .ref q_3])), (q_1, .inl (a_2, 121, .inl (fun _ => 0))), (q_3, .inl (a_4, 121, .inl (fun _ => 0)))] at hD
  refine W.widen (k := 2) (n := 242) (Nat.le_of_ble_eq_true rfl) (Nat.le_of_ble_eq_true rfl) ?_
  have hP9 := hP.sub (ws' := [(h0, .inr (4, [.ref q_1, .ref q_3])), (q_1, .inl (a_2, 121, .inl (fun _ => 0))), (q_3, .inl (a_4, 121, .inl (fun _ => 0)))]) [0, 1, 2] rfl
  have hD9 := hD.sub (ws' := [(h0, .inr (4, [.ref q_1, .ref q_3])), (q_1, .inl (a_2, 121, .inl (fun _ => 0))), (q_3, .inl (a_4, 121, .inl (fun _ => 0)))]) [0, 1, 2] (by decide) rfl
  have hK9 := hK.sub (tys' := [(a_2, .int), (a_4, .int)]) [0, 1] rfl
  exact W.vret hx hb hr (fun t ht hW => ⟨⟨(), rfl, trivial, ⟨q_1, q_3, a_2, a_4, by rw [ht]; exact hP9, va_K.moved hW.alike hK9, hD9⟩⟩, hS.F ht⟩) hS.2.2 dX4_init_20

set_option maxHeartbeats 4000000 in
set_option maxRecDepth 100000 in
theorem kX8_init (l : Launch) (dC : Nat → ClassId) (dI : Nat → Nat → Nat) (sz : Nat) (h0 : Nat) : Met l yX8_init (Cond.code yX8_init cX8_init 1 none :: bg) ({ frames := 1, cells := 0, slots := 0, locals := 12 }) (pcW dC dI [.ref h0] sz [(h0, .inr (8, [.int 0, .int 0, .int 0, .int 0]))] []) (va_Qv (fun (u : Unit) => True) (fun (u : Unit) (t : State) => va_P (dC, dI) vwCl [(h0, .inr (8, [.int 0, .int 0, .int 0, .int 0]))] t.heap ∧ va_K (dC, dI) vwCl [] t ∧ va_D (va_A [(h0, .inr (8, [.int 0, .int 0, .int 0, .int 0]))] sz) [(h0, .inr (8, [.int 0, .int 0, .int 0, .int 0]))]) (va_A [(h0, .inr (8, [.int 0, .int 0, .int 0, .int 0]))] sz)) 0 0 (va_A [(h0, .inr (8, [.int 0, .int 0, .int 0, .int 0]))] sz) := by
  refine Met.ofW (cc := cX8_init) (maxL := 1) (ret := none) pnX8 rfl ?_
  intro p e s m args below meth c s₁ B hml hv
  obtain ⟨rfl, hsz, hP, hK, hD0, hN⟩ := hv
  have hx := B.exec
  have hb := B.bytes
  have hr := B.returns
  have htb : ∀ w ∈ bg, w.before [.ref h0].toArray s = true := fun w h => atoms_spec (ws := Cond.code yX8_init cX8_init 1 none :: bg) B.pre w (List.mem_cons_of_mem _ h)
  have hown : s.vm.findClass RX8 = some m.cls := findClass_of_methodNamed B.named
  have hlocks := B.notSynchronized
  have hin : meth.name = "<init>" := (name_of_methodNamed B.named B.method).1
  subst hsz
  have hD := hD0.self (sz := s.heap.size)
  generalize hAe : va_A [(h0, .inr (8, [.int 0, .int 0, .int 0, .int 0]))] s.heap.size = A at hD ⊢
  have hA : ∀ q : Nat, s.heap.size ≤ q → A q := fun q h => by rw [← hAe]; exact Or.inr h
  have hS : va_S A s.heap s.heap [] := va_S.rf
  have hl := lv_entry ([.ref h0]) (n := 1) (Nat.le_of_ble_eq_true rfl)
  rw [lg_entry_eq]
  generalize (lg_sl ([.ref h0]) ++ List.replicate (1 - (lg_sl ([.ref h0])).length) Slot.unset).toArray = ls at hl ⊢
  change lv_has ls 1 [(0, .ref h0)] at hl
  clear hD0 hAe
  refine go0 (wsP := fun H => va_P (dC, dI) vwCl [(h0, .inr (8, [.int 0, .int 0, .int 0, .int 0]))] H) hP hS ?_
  clear hP hS; intro H locs hP hS
  change va_P (dC, dI) vwCl [(h0, .inr (8, [.int 0, .int 0, .int 0, .int 0]))] H at hP
  refine lv_aload_n hx hb dX8_init_0 rfl (lv_at hl 0 rfl) ?_
  refine W.objInit hx hb hown (htb _ m_138) (htb _ m_26) (htb _ m_27) rfl (by rw [hml]; exact hl.1) rfl dX8_init_1 (Nat.le_of_ble_eq_true rfl) (Nat.le_of_ble_eq_true rfl) ?_
  refine W.eq (g2 := F0 m 4 ls []) rfl ?_
  refine W.widen (k := 0) (n := 0) (Nat.le_of_ble_eq_true rfl) (Nat.le_of_ble_eq_true rfl) ?_
  have hP9 := hP.sub (ws' := [(h0, .inr (8, [.int 0, .int 0, .int 0, .int 0]))]) [0] rfl
  have hD9 := hD.sub (ws' := [(h0, .inr (8, [.int 0, .int 0, .int 0, .int 0]))]) [0] (by decide) rfl
  have hK9 := hK.sub (tys' := []) [] rfl
  exact W.vret hx hb hr (fun t ht hW => ⟨⟨(), rfl, trivial, ⟨by rw [ht]; exact hP9, va_K.moved hW.alike hK9, hD9⟩⟩, hS.F ht⟩) hS.2.2 dX8_init_4

set_option maxHeartbeats 4000000 in
set_option maxRecDepth 100000 in
theorem kX3_init (l : Launch) (dC : Nat → ClassId) (dI : Nat → Nat → Nat) (sz : Nat) (h0 : Nat) : Met l yX3_init (Cond.code yX3_init cX3_init 1 none :: bg) ({ frames := 1, cells := 0, slots := 0, locals := 12 }) (pcW dC dI [.ref h0] sz [(h0, .inr (3, [.long 0, .int 0, .int 0, .int 0, .int 0]))] []) (va_Qv (fun (u : Unit) => True) (fun (u : Unit) (t : State) => va_P (dC, dI) vwCl [(h0, .inr (3, [.long 0, .int 0, .int 0, .int 0, .int 0]))] t.heap ∧ va_K (dC, dI) vwCl [] t ∧ va_D (va_A [(h0, .inr (3, [.long 0, .int 0, .int 0, .int 0, .int 0]))] sz) [(h0, .inr (3, [.long 0, .int 0, .int 0, .int 0, .int 0]))]) (va_A [(h0, .inr (3, [.long 0, .int 0, .int 0, .int 0, .int 0]))] sz)) 0 0 (va_A [(h0, .inr (3, [.long 0, .int 0, .int 0, .int 0, .int 0]))] sz) := by
  refine Met.ofW (cc := cX3_init) (maxL := 1) (ret := none) pnX3 rfl ?_
  intro p e s m args below meth c s₁ B hml hv
  obtain ⟨rfl, hsz, hP, hK, hD0, hN⟩ := hv
  have hx := B.exec
  have hb := B.bytes
  have hr := B.returns
  have htb : ∀ w ∈ bg, w.before [.ref h0].toArray s = true := fun w h => atoms_spec (ws := Cond.code yX3_init cX3_init 1 none :: bg) B.pre w (List.mem_cons_of_mem _ h)
  have hown : s.vm.findClass RX3 = some m.cls := findClass_of_methodNamed B.named
  have hlocks := B.notSynchronized
  have hin : meth.name = "<init>" := (name_of_methodNamed B.named B.method).1
  subst hsz
  have hD := hD0.self (sz := s.heap.size)
  generalize hAe : va_A [(h0, .inr (3, [.long 0, .int 0, .int 0, .int 0, .int 0]))] s.heap.size = A at hD ⊢
  have hA : ∀ q : Nat, s.heap.size ≤ q → A q := fun q h => by rw [← hAe]; exact Or.inr h
  have hS : va_S A s.heap s.heap [] := va_S.rf
  have hl := lv_entry ([.ref h0]) (n := 1) (Nat.le_of_ble_eq_true rfl)
  rw [lg_entry_eq]
  generalize (lg_sl ([.ref h0]) ++ List.replicate (1 - (lg_sl ([.ref h0])).length) Slot.unset).toArray = ls at hl ⊢
  change lv_has ls 1 [(0, .ref h0)] at hl
  clear hD0 hAe
  refine go0 (wsP := fun H => va_P (dC, dI) vwCl [(h0, .inr (3, [.long 0, .int 0, .int 0, .int 0, .int 0]))] H) hP hS ?_
  clear hP hS; intro H locs hP hS
  change va_P (dC, dI) vwCl [(h0, .inr (3, [.long 0, .int 0, .int 0, .int 0, .int 0]))] H at hP
  refine lv_aload_n hx hb dX3_init_0 rfl (lv_at hl 0 rfl) ?_
  refine W.objInit hx hb hown (htb _ m_161) (htb _ m_26) (htb _ m_27) rfl (by rw [hml]; exact hl.1) rfl dX3_init_1 (Nat.le_of_ble_eq_true rfl) (Nat.le_of_ble_eq_true rfl) ?_
  refine W.eq (g2 := F0 m 4 ls []) rfl ?_
  refine W.widen (k := 0) (n := 0) (Nat.le_of_ble_eq_true rfl) (Nat.le_of_ble_eq_true rfl) ?_
  have hP9 := hP.sub (ws' := [(h0, .inr (3, [.long 0, .int 0, .int 0, .int 0, .int 0]))]) [0] rfl
  have hD9 := hD.sub (ws' := [(h0, .inr (3, [.long 0, .int 0, .int 0, .int 0, .int 0]))]) [0] (by decide) rfl
  have hK9 := hK.sub (tys' := []) [] rfl
  exact W.vret hx hb hr (fun t ht hW => ⟨⟨(), rfl, trivial, ⟨by rw [ht]; exact hP9, va_K.moved hW.alike hK9, hD9⟩⟩, hS.F ht⟩) hS.2.2 dX3_init_4

set_option maxHeartbeats 4000000 in
set_option maxRecDepth 100000 in
theorem kX0_init (l : Launch) (dC : Nat → ClassId) (dI : Nat → Nat → Nat) (sz : Nat) (h0 : Nat) : Met l yX0_init (Cond.code yX0_init cX0_init 1 none :: bg) ({ frames := 1, cells := 8, slots := 422, locals := 12 }) (pcW dC dI [.ref h0] sz [(h0, .inr (0, [.null, .null, .null, .null, .null, .null, .int 0]))] []) (va_Qv (fun (u : Unit) => True) (fun (u : Unit) (t : State) => ∃ (c_parts : Nat) (c_strength : Nat) (c_drawnOn : Nat) (c_drawnIn : Nat) (c_sold : Nat) (c_looks : Nat) (k_parts : ClassId) (k_strength : ClassId) (k_drawnOn : ClassId) (k_drawnIn : ClassId) (k_sold : ClassId) (k_looks : ClassId) (c_l0 : Nat) (c_l1 : Nat) (k_l : ClassId), va_P (dC, dI) vwCl [(h0, .inr (0, [.ref c_parts, .ref c_strength, .ref c_drawnOn, .ref c_drawnIn, .ref c_sold, .ref c_looks, .int 0])), (c_parts, .inl (k_parts, 60, .inl (fun _ => 0))), (c_strength, .inl (k_strength, 60, .inl (fun _ => 0))), (c_drawnOn, .inl (k_drawnOn, 60, .inl (fun _ => 0))), (c_drawnIn, .inl (k_drawnIn, 60, .inl (fun _ => 0))), (c_sold, .inl (k_sold, 60, .inl (fun _ => 0))), (c_looks, .inl (k_looks, 2, .inr (.inr (.inr (.inr (mnF c_l0 c_l1)))))), (c_l0, .inl (k_l, 60, .inl (fun _ => 0))), (c_l1, .inl (k_l, 60, .inl (fun _ => 0)))] t.heap ∧ va_K (dC, dI) vwCl [(k_parts, .int), (k_strength, .int), (k_drawnOn, .int), (k_drawnIn, .int), (k_sold, .boolean), (k_looks, .array .int), (k_l, .int)] t ∧ va_D (va_A [(h0, .inr (0, [.null, .null, .null, .null, .null, .null, .int 0]))] sz) [(h0, .inr (0, [.ref c_parts, .ref c_strength, .ref c_drawnOn, .ref c_drawnIn, .ref c_sold, .ref c_looks, .int 0])), (c_parts, .inl (k_parts, 60, .inl (fun _ => 0))), (c_strength, .inl (k_strength, 60, .inl (fun _ => 0))), (c_drawnOn, .inl (k_drawnOn, 60, .inl (fun _ => 0))), (c_drawnIn, .inl (k_drawnIn, 60, .inl (fun _ => 0))), (c_sold, .inl (k_sold, 60, .inl (fun _ => 0))), (c_looks, .inl (k_looks, 2, .inr (.inr (.inr (.inr (mnF c_l0 c_l1)))))), (c_l0, .inl (k_l, 60, .inl (fun _ => 0))), (c_l1, .inl (k_l, 60, .inl (fun _ => 0)))]) (va_A [(h0, .inr (0, [.null, .null, .null, .null, .null, .null, .int 0]))] sz)) 8 422 (va_A [(h0, .inr (0, [.null, .null, .null, .null, .null, .null, .int 0]))] sz) := by
  refine Met.ofW (cc := cX0_init) (maxL := 1) (ret := none) pnX0 rfl ?_
  intro p e s m args below meth c s₁ B hml hv
  obtain ⟨rfl, hsz, hP, hK, hD0, hN⟩ := hv
  have hx := B.exec
  have hb := B.bytes
  have hr := B.returns
  have htb : ∀ w ∈ bg, w.before [.ref h0].toArray s = true := fun w h => atoms_spec (ws := Cond.code yX0_init cX0_init 1 none :: bg) B.pre w (List.mem_cons_of_mem _ h)
  have hown : s.vm.findClass RX0 = some m.cls := findClass_of_methodNamed B.named
  have hlocks := B.notSynchronized
  have hin : meth.name = "<init>" := (name_of_methodNamed B.named B.method).1
  subst hsz
  have hD := hD0.self (sz := s.heap.size)
  generalize hAe : va_A [(h0, .inr (0, [.null, .null, .null, .null, .null, .null, .int 0]))] s.heap.size = A at hD ⊢
  have hA : ∀ q : Nat, s.heap.size ≤ q → A q := fun q h => by rw [← hAe]; exact Or.inr h
  have hS : va_S A s.heap s.heap [] := va_S.rf
  have hl := lv_entry ([.ref h0]) (n := 1) (Nat.le_of_ble_eq_true rfl)
  rw [lg_entry_eq]
  generalize (lg_sl ([.ref h0]) ++ List.replicate (1 - (lg_sl ([.ref h0])).length) Slot.unset).toArray = ls at hl ⊢
  change lv_has ls 1 [(0, .ref h0)] at hl
  clear hD0 hAe
  refine go0 (wsP := fun H => va_P (dC, dI) vwCl [(h0, .inr (0, [.null, .null, .null, .null, .null, .null, .int 0]))] H) hP hS ?_
  clear hP hS; intro H locs hP hS
  change va_P (dC, dI) vwCl [(h0, .inr (0, [.null, .null, .null, .null, .null, .null, .int 0]))] H at hP
  refine lv_aload_n hx hb dX0_init_0 rfl (lv_at hl 0 rfl) ?_
  refine W.objInit hx hb hown (htb _ m_187) (htb _ m_26) (htb _ m_27) rfl (by rw [hml]; exact hl.1) rfl dX0_init_1 (Nat.le_of_ble_eq_true rfl) (Nat.le_of_ble_eq_true rfl) ?_
  refine W.eq (g2 := F0 m 4 ls []) rfl ?_
  refine lv_aload_n hx hb dX0_init_4 rfl (lv_at hl 0 rfl) ?_
  refine lv_bipush (v := 60) hx hb dX0_init_5 (by decide) ?_
  refine va_newa (atype := .int) (a0 := (60, .inl (fun _ => 0))) (N' := 60) (ty := .int) hx hb (htb _ m_63) rfl hK hP hD hS hA (fun _ => rfl) (by decide) (by decide) (Nat.le_of_ble_eq_true rfl) (Nat.le_of_ble_eq_true rfl) (Nat.le_of_ble_eq_true rfl) dX0_init_7 ?_
  clear hP hD hS hK; intro q_1 a_2 H hK hP hD hS
  change va_P (dC, dI) vwCl [(h0, .inr (0, [.null, .null, .null, .null, .null, .null, .int 0])), (q_1, .inl (a_2, 60, .inl (fun _ => 0)))] H at hP
  change va_D A [(h0, .inr (0, [.null, .null, .null, .null, .null, .null, .int 0])), (q_1, .inl (a_2, 60, .inl (fun _ => 0)))] at hD
  change va_K (dC, dI) vwCl [(a_2, .int)] s at hK
  refine W.widen (k := 1) (n := 60) (Nat.le_of_ble_eq_true rfl) (Nat.le_of_ble_eq_true rfl) ?_
  refine va_putF (D := (dC, dI)) (ci := 0) (v := .ref q_1) (C := RX0) (T := TX0) (N := 7) hx hb htb iX0 tyX0 tyX0_ok nmX0 hown hK hP hD hS 0 rfl rfl 0 (Nat.le_of_ble_eq_true rfl) (htb _ m_190) (fun _ h9 => h9) rfl hin rfl (tyX0_ok 0 (Nat.le_of_ble_eq_true rfl)) rfl rfl (Nat.le_of_ble_eq_true rfl) dX0_init_9 ?_
  clear hP hD hS; intro H locs hP hD hS
  change va_P (dC, dI) vwCl [(h0, .inr (0, [.ref q_1, .null, .null, .null, .null, .null, .int 0])), (q_1, .inl (a_2, 60, .inl (fun _ => 0)))] H at hP
  change va_D A [(h0, .inr (0, [.ref q_1, .null, .null, .null, .null, .null, .int 0])), (q_1, .inl (a_2, 60, .inl (fun _ => 0)))] at hD
  refine lv_aload_n hx hb dX0_init_12 rfl (lv_at hl 0 rfl) ?_
  refine lv_bipush (v := 60) hx hb dX0_init_13 (by decide) ?_
  refine va_newa (atype := .int) (a0 := (60, .inl (fun _ => 0))) (N' := 60) (ty := .int) hx hb (htb _ m_63) rfl hK hP hD hS hA (fun _ => rfl) (by decide) (by decide) (Nat.le_of_ble_eq_true rfl) (Nat.le_of_ble_eq_true rfl) (Nat.le_of_ble_eq_true rfl) dX0_init_15 ?_
  clear hP hD hS hK; intro q_3 a_4 H hK hP hD hS
  change va_P (dC, dI) vwCl [(h0, .inr (0, [.ref q_1, .null, .null, .null, .null, .null, .int 0])), (q_1, .inl (a_2, 60, .inl (fun _ => 0))), (q_3, .inl (a_4, 60, .inl (fun _ => 0)))] H at hP
  change va_D A [(h0, .inr (0, [.ref q_1, .null, .null, .null, .null, .null, .int 0])), (q_1, .inl (a_2, 60, .inl (fun _ => 0))), (q_3, .inl (a_4, 60, .inl (fun _ => 0)))] at hD
  change va_K (dC, dI) vwCl [(a_2, .int), (a_4, .int)] s at hK
  refine W.widen (k := 2) (n := 120) (Nat.le_of_ble_eq_true rfl) (Nat.le_of_ble_eq_true rfl) ?_
  refine va_putF (D := (dC, dI)) (ci := 0) (v := .ref q_3) (C := RX0) (T := TX0) (N := 7) hx hb htb iX0 tyX0 tyX0_ok nmX0 hown hK hP hD hS 0 rfl rfl 1 (Nat.le_of_ble_eq_true rfl) (htb _ m_191) (fun _ h9 => h9) rfl hin rfl (tyX0_ok 1 (Nat.le_of_ble_eq_true rfl)) rfl rfl (Nat.le_of_ble_eq_true rfl) dX0_init_17 ?_
  clear hP hD hS; intro H locs hP hD hS
  change va_P (dC, dI) vwCl [(h0, .inr (0, [.ref q_1, .ref q_3, .null, .null, .null, .null, .int 0])), (q_1, .inl (a_2, 60, .inl (fun _ => 0))), (q_3, .inl (a_4, 60, .inl (fun _ => 0)))] H at hP
  change va_D A [(h0, .inr (0, [.ref q_1, .ref q_3, .null, .null, .null, .null, .int 0])), (q_1, .inl (a_2, 60, .inl (fun _ => 0))), (q_3, .inl (a_4, 60, .inl (fun _ => 0)))] at hD
  refine lv_aload_n hx hb dX0_init_20 rfl (lv_at hl 0 rfl) ?_
  refine lv_bipush (v := 60) hx hb dX0_init_21 (by decide) ?_
  refine va_newa (atype := .int) (a0 := (60, .inl (fun _ => 0))) (N' := 60) (ty := .int) hx hb (htb _ m_63) rfl hK hP hD hS hA (fun _ => rfl) (by decide) (by decide) (Nat.le_of_ble_eq_true rfl) (Nat.le_of_ble_eq_true rfl) (Nat.le_of_ble_eq_true rfl) dX0_init_23 ?_
  clear hP hD hS hK; intro q_5 a_6 H hK hP hD hS
  change va_P (dC, dI) vwCl [(h0, .inr (0, [.ref q_1, .ref q_3, .null, .null, .null, .null, .int 0])), (q_1, .inl (a_2, 60, .inl (fun _ => 0))), (q_3, .inl (a_4, 60, .inl (fun _ => 0))), (q_5, .inl (a_6, 60, .inl (fun _ => 0)))] H at hP
  change va_D A [(h0, .inr (0, [.ref q_1, .ref q_3, .null, .null, .null, .null, .int 0])), (q_1, .inl (a_2, 60, .inl (fun _ => 0))), (q_3, .inl (a_4, 60, .inl (fun _ => 0))), (q_5, .inl (a_6, 60, .inl (fun _ => 0)))] at hD
  change va_K (dC, dI) vwCl [(a_2, .int), (a_4, .int), (a_6, .int)] s at hK
  refine W.widen (k := 3) (n := 180) (Nat.le_of_ble_eq_true rfl) (Nat.le_of_ble_eq_true rfl) ?_
  refine va_putF (D := (dC, dI)) (ci := 0) (v := .ref q_5) (C := RX0) (T := TX0) (N := 7) hx hb htb iX0 tyX0 tyX0_ok nmX0 hown hK hP hD hS 0 rfl rfl 2 (Nat.le_of_ble_eq_true rfl) (htb _ m_192) (fun _ h9 => h9) rfl hin rfl (tyX0_ok 2 (Nat.le_of_ble_eq_true rfl)) rfl rfl (Nat.le_of_ble_eq_true rfl) dX0_init_25 ?_
  clear hP hD hS; intro H locs hP hD hS
  change va_P (dC, dI) vwCl [(h0, .inr (0, [.ref q_1, .ref q_3, .ref q_5, .null, .null, .null, .int 0])), (q_1, .inl (a_2, 60, .inl (fun _ => 0))), (q_3, .inl (a_4, 60, .inl (fun _ => 0))), (q_5, .inl (a_6, 60, .inl (fun _ => 0)))] H at hP
  change va_D A [(h0, .inr (0, [.ref q_1, .ref q_3, .ref q_5, .null, .null, .null, .int 0])), (q_1, .inl (a_2, 60, .inl (fun _ => 0))), (q_3, .inl (a_4, 60, .inl (fun _ => 0))), (q_5, .inl (a_6, 60, .inl (fun _ => 0)))] at hD
  refine lv_aload_n hx hb dX0_init_28 rfl (lv_at hl 0 rfl) ?_
  refine lv_bipush (v := 60) hx hb dX0_init_29 (by decide) ?_
  refine va_newa (atype := .int) (a0 := (60, .inl (fun _ => 0))) (N' := 60) (ty := .int) hx hb (htb _ m_63) rfl hK hP hD hS hA (fun _ => rfl) (by decide) (by decide) (Nat.le_of_ble_eq_true rfl) (Nat.le_of_ble_eq_true rfl) (Nat.le_of_ble_eq_true rfl) dX0_init_31 ?_
  clear hP hD hS hK; intro q_7 a_8 H hK hP hD hS
  change va_P (dC, dI) vwCl [(h0, .inr (0, [.ref q_1, .ref q_3, .ref q_5, .null, .null, .null, .int 0])), (q_1, .inl (a_2, 60, .inl (fun _ => 0))), (q_3, .inl (a_4, 60, .inl (fun _ => 0))), (q_5, .inl (a_6, 60, .inl (fun _ => 0))), (q_7, .inl (a_8, 60, .inl (fun _ => 0)))] H at hP
  change va_D A [(h0, .inr (0, [.ref q_1, .ref q_3, .ref q_5, .null, .null, .null, .int 0])), (q_1, .inl (a_2, 60, .inl (fun _ => 0))), (q_3, .inl (a_4, 60, .inl (fun _ => 0))), (q_5, .inl (a_6, 60, .inl (fun _ => 0))), (q_7, .inl (a_8, 60, .inl (fun _ => 0)))] at hD
  change va_K (dC, dI) vwCl [(a_2, .int), (a_4, .int), (a_6, .int), (a_8, .int)] s at hK
  refine W.widen (k := 4) (n := 240) (Nat.le_of_ble_eq_true rfl) (Nat.le_of_ble_eq_true rfl) ?_
  refine va_putF (D := (dC, dI)) (ci := 0) (v := .ref q_7) (C := RX0) (T := TX0) (N := 7) hx hb htb iX0 tyX0 tyX0_ok nmX0 hown hK hP hD hS 0 rfl rfl 3 (Nat.le_of_ble_eq_true rfl) (htb _ m_193) (fun _ h9 => h9) rfl hin rfl (tyX0_ok 3 (Nat.le_of_ble_eq_true rfl)) rfl rfl (Nat.le_of_ble_eq_true rfl) dX0_init_33 ?_
  clear hP hD hS; intro H locs hP hD hS
  change va_P (dC, dI) vwCl [(h0, .inr (0, [.ref q_1, .ref q_3, .ref q_5, .ref q_7, .null, .null, .int 0])), (q_1, .inl (a_2, 60, .inl (fun _ => 0))), (q_3, .inl (a_4, 60, .inl (fun _ => 0))), (q_5, .inl (a_6, 60, .inl (fun _ => 0))), (q_7, .inl (a_8, 60, .inl (fun _ => 0)))] H at hP
  change va_D A [(h0, .inr (0, [.ref q_1, .ref q_3, .ref q_5, .ref q_7, .null, .null, .int 0])), (q_1, .inl (a_2, 60, .inl (fun _ => 0))), (q_3, .inl (a_4, 60, .inl (fun _ => 0))), (q_5, .inl (a_6, 60, .inl (fun _ => 0))), (q_7, .inl (a_8, 60, .inl (fun _ => 0)))] at hD
  refine lv_aload_n hx hb dX0_init_36 rfl (lv_at hl 0 rfl) ?_
  refine lv_bipush (v := 60) hx hb dX0_init_37 (by decide) ?_
  refine va_newa (atype := .boolean) (a0 := (60, .inl (fun _ => 0))) (N' := 60) (ty := .boolean) hx hb (htb _ m_64) rfl hK hP hD hS hA (fun _ => rfl) (by decide) (by decide) (Nat.le_of_ble_eq_true rfl) (Nat.le_of_ble_eq_true rfl) (Nat.le_of_ble_eq_true rfl) dX0_init_39 ?_
  clear hP hD hS hK; intro q_9 a_10 H hK hP hD hS
  change va_P (dC, dI) vwCl [(h0, .inr (0, [.ref q_1, .ref q_3, .ref q_5, .ref q_7, .null, .null, .int 0])), (q_1, .inl (a_2, 60, .inl (fun _ => 0))), (q_3, .inl (a_4, 60, .inl (fun _ => 0))), (q_5, .inl (a_6, 60, .inl (fun _ => 0))), (q_7, .inl (a_8, 60, .inl (fun _ => 0))), (q_9, .inl (a_10, 60, .inl (fun _ => 0)))] H at hP
  change va_D A [(h0, .inr (0, [.ref q_1, .ref q_3, .ref q_5, .ref q_7, .null, .null, .int 0])), (q_1, .inl (a_2, 60, .inl (fun _ => 0))), (q_3, .inl (a_4, 60, .inl (fun _ => 0))), (q_5, .inl (a_6, 60, .inl (fun _ => 0))), (q_7, .inl (a_8, 60, .inl (fun _ => 0))), (q_9, .inl (a_10, 60, .inl (fun _ => 0)))] at hD
  change va_K (dC, dI) vwCl [(a_2, .int), (a_4, .int), (a_6, .int), (a_8, .int), (a_10, .boolean)] s at hK
  refine W.widen (k := 5) (n := 300) (Nat.le_of_ble_eq_true rfl) (Nat.le_of_ble_eq_true rfl) ?_
  refine va_putF (D := (dC, dI)) (ci := 0) (v := .ref q_9) (C := RX0) (T := TX0) (N := 7) hx hb htb iX0 tyX0 tyX0_ok nmX0 hown hK hP hD hS 0 rfl rfl 4 (Nat.le_of_ble_eq_true rfl) (htb _ m_194) (fun _ h9 => h9) rfl hin rfl (tyX0_ok 4 (Nat.le_of_ble_eq_true rfl)) rfl rfl (Nat.le_of_ble_eq_true rfl) dX0_init_41 ?_
  clear hP hD hS; intro H locs hP hD hS
  change va_P (dC, dI) vwCl [(h0, .inr (0, [.ref q_1, .ref q_3, .ref q_5, .ref q_7, .ref q_9, .null, .int 0])), (q_1, .inl (a_2, 60, .inl (fun _ => 0))), (q_3, .inl (a_4, 60, .inl (fun _ => 0))), (q_5, .inl (a_6, 60, .inl (fun _ => 0))), (q_7, .inl (a_8, 60, .inl (fun _ => 0))), (q_9, .inl (a_10, 60, .inl (fun _ => 0)))] H at hP
  change va_D A [(h0, .inr (0, [.ref q_1, .ref q_3, .ref q_5, .ref q_7, .ref q_9, .null, .int 0])), (q_1, .inl (a_2, 60, .inl (fun _ => 0))), (q_3, .inl (a_4, 60, .inl (fun _ => 0))), (q_5, .inl (a_6, 60, .inl (fun _ => 0))), (q_7, .inl (a_8, 60, .inl (fun _ => 0))), (q_9, .inl (a_10, 60, .inl (fun _ => 0)))] at hD
  refine lv_aload_n hx hb dX0_init_44 rfl (lv_at hl 0 rfl) ?_
  refine lv_iconst (v := 2) hx hb dX0_init_45 (by decide) ?_
  refine lv_bipush (v := 60) hx hb dX0_init_46 (by decide) ?_
  refine mna_2 hx hb hown (htb _ m_188) hN.2 (htb _ m_63) hK hP hD hS hA (Nat.le_of_ble_eq_true rfl) (Nat.le_of_ble_eq_true rfl) dX0_init_48 ?_
  clear hP hD hS hK; intro q_11 q_12 q_13 a_14 a_15 H hK hP hD hS
  change va_P (dC, dI) vwCl [(h0, .inr (0, [.ref q_1, .ref q_3, .ref q_5, .ref q_7, .ref q_9, .null, .int 0])), (q_1, .inl (a_2, 60, .inl (fun _ => 0))), (q_3, .inl (a_4, 60, .inl (fun _ => 0))), (q_5, .inl (a_6, 60, .inl (fun _ => 0))), (q_7, .inl (a_8, 60, .inl (fun _ => 0))), (q_9, .inl (a_10, 60, .inl (fun _ => 0))), (q_11, .inl (a_14, 2, .inr (.inr (.inr (.inr (mnF q_12 q_13)))))), (q_12, .inl (a_15, 60, .inl (fun _ => 0))), (q_13, .inl (a_15, 60, .inl (fun _ => 0)))] H at hP
  change va_D A [(h0, .inr (0, [.ref q_1, .ref q_3, .ref q_5, .ref q_7, .ref q_9, .null, .int 0])), (q_1, .inl (a_2, 60, .inl (fun _ => 0))), (q_3, .inl (a_4, 60, .inl (fun _ => 0))), (q_5, .inl (a_6, 60, .inl (fun _ => 0))), (q_7, .inl (a_8, 60, .inl (fun _ => 0))), (q_9, .inl (a_10, 60, .inl (fun _ => 0))), (q_11, .inl (a_14, 2, .inr (.inr (.inr (.inr (mnF q_12 q_13)))))), (q_12, .inl (a_15, 60, .inl (fun _ => 0))), (q_13, .inl (a_15, 60, .inl (fun _ => 0)))] at hD
  change va_K (dC, dI) vwCl [(a_2, .int), (a_4, .int), (a_6, .int), (a_8, .int), (a_10, .boolean), (a_14, .array .int), (a_15, .int)] s at hK
  refine W.widen (k := 8) (n := 422) (Nat.le_of_ble_eq_true rfl) (Nat.le_of_ble_eq_true rfl) ?_
  refine va_putF (D := (dC, dI)) (ci := 0) (v := .ref q_11) (C := RX0) (T := TX0) (N := 7) hx hb htb iX0 tyX0 tyX0_ok nmX0 hown hK hP hD hS 0 rfl rfl 5 (Nat.le_of_ble_eq_true rfl) (htb _ m_195) (fun _ h9 => h9) rfl hin rfl (tyX0_ok 5 (Nat.le_of_ble_eq_true rfl)) rfl rfl (Nat.le_of_ble_eq_true rfl) dX0_init_52 ?_
  clear hP hD hS; intro H locs hP hD hS
  change va_P (dC, dI) vwCl [(h0, .inr (0, [.ref q_1, .ref q_3, .ref q_5, .ref q_7, .ref q_9, .ref q_11, .int 0])), (q_1, .inl (a_2, 60, .inl (fun _ => 0))), (q_3, .inl (a_4, 60, .inl (fun _ => 0))), (q_5, .inl (a_6, 60, .inl (fun _ => 0))), (q_7, .inl (a_8, 60, .inl (fun _ => 0))), (q_9, .inl (a_10, 60, .inl (fun _ => 0))), (q_11, .inl (a_14, 2, .inr (.inr (.inr (.inr (mnF q_12 q_13)))))), (q_12, .inl (a_15, 60, .inl (fun _ => 0))), (q_13, .inl (a_15, 60, .inl (fun _ => 0)))] H at hP
  change va_D A [(h0, .inr (0, [.ref q_1, .ref q_3, .ref q_5, .ref q_7, .ref q_9, .ref q_11, .int 0])), (q_1, .inl (a_2, 60, .inl (fun _ => 0))), (q_3, .inl (a_4, 60, .inl (fun _ => 0))), (q_5, .inl (a_6, 60, .inl (fun _ => 0))), (q_7, .inl (a_8, 60, .inl (fun _ => 0))), (q_9, .inl (a_10, 60, .inl (fun _ => 0))), (q_11, .inl (a_14, 2, .inr (.inr (.inr (.inr (mnF q_12 q_13)))))), (q_12, .inl (a_15, 60, .inl (fun _ => 0))), (q_13, .inl (a_15, 60, .inl (fun _ => 0)))] at hD
  refine W.widen (k := 8) (n := 422) (Nat.le_of_ble_eq_true rfl) (Nat.le_of_ble_eq_true rfl) ?_
  have hP9 := hP.sub (ws' := [(h0, .inr (0, [.ref q_1, .ref q_3, .ref q_5, .ref q_7, .ref q_9, .ref q_11, .int 0])), (q_1, .inl (a_2, 60, .inl (fun _ => 0))), (q_3, .inl (a_4, 60, .inl (fun _ => 0))), (q_5, .inl (a_6, 60, .inl (fun _ => 0))), (q_7, .inl (a_8, 60, .inl (fun _ => 0))), (q_9, .inl (a_10, 60, .inl (fun _ => 0))), (q_11, .inl (a_14, 2, .inr (.inr (.inr (.inr (mnF q_12 q_13)))))), (q_12, .inl (a_15, 60, .inl (fun _ => 0))), (q_13, .inl (a_15, 60, .inl (fun _ => 0)))]) [0, 1, 2, 3, 4, 5, 6, 7, 8] rfl
  have hD9 := hD.sub (ws' := [(h0, .inr (0, [.ref q_1, .ref q_3, .ref q_5, .ref q_7, .ref q_9, .ref q_11, .int 0])), (q_1, .inl (a_2, 60, .inl (fun _ => 0))), (q_3, .inl (a_4, 60, .inl (fun _ => 0))), (q_5, .inl (a_6, 60, .inl (fun _ => 0))), (q_7, .inl (a_8, 60, .inl (fun _ => 0))), (q_9, .inl (a_10, 60, .inl (fun _ => 0))), (q_11, .inl (a_14, 2, .inr (.inr (.inr (.inr (mnF q_12 q_13)))))), (q_12, .inl (a_15, 60, .inl (fun _ => 0))), (q_13, .inl (a_15, 60, .inl (fun _ => 0)))]) [0, 1, 2, 3, 4, 5, 6, 7, 8] (by decide) rfl
  have hK9 := hK.sub (tys' := [(a_2, .int), (a_4, .int), (a_6, .int), (a_8, .int), (a_10, .boolean), (a_14, .array .int), (a_15, .int)]) [0, 1, 2, 3, 4, 5, 6] rfl
  exact W.vret hx hb hr (fun t ht hW => ⟨⟨(), rfl, trivial, ⟨q_1, q_3, q_5, q_7, q_9, q_11, a_2, a_4, a_6, a_8, a_10, a_14, q_12, q_13, a_15, by rw [ht]; exact hP9, va_K.moved hW.alike hK9, hD9⟩⟩, hS.F ht⟩) hS.2.2 dX0_init_55

set_option maxHeartbeats 4000000 in
set_option maxRecDepth 100000 in
theorem kX1_init (l : Launch) (dC : Nat → ClassId) (dI : Nat → Nat → Nat) (sz : Nat) (h0 : Nat) : Met l yX1_init (Cond.code yX1_init cX1_init 1 none :: bg) ({ frames := 1, cells := 3, slots := 30, locals := 12 }) (pcW dC dI [.ref h0] sz [(h0, .inr (1, [.null, .null, .null]))] []) (va_Qv (fun (u : Unit) => True) (fun (u : Unit) (t : State) => ∃ (o_came : Nat) (o_coins : Nat) (o_rem : Nat) (k_came : ClassId) (k_coins : ClassId) (k_rem : ClassId), va_P (dC, dI) vwCl [(h0, .inr (1, [.ref o_came, .ref o_coins, .ref o_rem])), (o_came, .inl (k_came, 10, .inl (fun _ => 0))), (o_coins, .inl (k_coins, 10, .inl (fun _ => 0))), (o_rem, .inl (k_rem, 10, .inr (.inl (fun _ => 0))))] t.heap ∧ va_K (dC, dI) vwCl [(k_came, .int), (k_coins, .int), (k_rem, .long)] t ∧ va_D (va_A [(h0, .inr (1, [.null, .null, .null]))] sz) [(h0, .inr (1, [.ref o_came, .ref o_coins, .ref o_rem])), (o_came, .inl (k_came, 10, .inl (fun _ => 0))), (o_coins, .inl (k_coins, 10, .inl (fun _ => 0))), (o_rem, .inl (k_rem, 10, .inr (.inl (fun _ => 0))))]) (va_A [(h0, .inr (1, [.null, .null, .null]))] sz)) 3 30 (va_A [(h0, .inr (1, [.null, .null, .null]))] sz) := by
  refine Met.ofW (cc := cX1_init) (maxL := 1) (ret := none) pnX1 rfl ?_
  intro p e s m args below meth c s₁ B hml hv
  obtain ⟨rfl, hsz, hP, hK, hD0, hN⟩ := hv
  have hx := B.exec
  have hb := B.bytes
  have hr := B.returns
  have htb : ∀ w ∈ bg, w.before [.ref h0].toArray s = true := fun w h => atoms_spec (ws := Cond.code yX1_init cX1_init 1 none :: bg) B.pre w (List.mem_cons_of_mem _ h)
  have hown : s.vm.findClass RX1 = some m.cls := findClass_of_methodNamed B.named
  have hlocks := B.notSynchronized
  have hin : meth.name = "<init>" := (name_of_methodNamed B.named B.method).1
  subst hsz
  have hD := hD0.self (sz := s.heap.size)
  generalize hAe : va_A [(h0, .inr (1, [.null, .null, .null]))] s.heap.size = A at hD ⊢
  have hA : ∀ q : Nat, s.heap.size ≤ q → A q := fun q h => by rw [← hAe]; exact Or.inr h
  have hS : va_S A s.heap s.heap [] := va_S.rf
  have hl := lv_entry ([.ref h0]) (n := 1) (Nat.le_of_ble_eq_true rfl)
  rw [lg_entry_eq]
  generalize (lg_sl ([.ref h0]) ++ List.replicate (1 - (lg_sl ([.ref h0])).length) Slot.unset).toArray = ls at hl ⊢
  change lv_has ls 1 [(0, .ref h0)] at hl
  clear hD0 hAe
  refine go0 (wsP := fun H => va_P (dC, dI) vwCl [(h0, .inr (1, [.null, .null, .null]))] H) hP hS ?_
  clear hP hS; intro H locs hP hS
  change va_P (dC, dI) vwCl [(h0, .inr (1, [.null, .null, .null]))] H at hP
  refine lv_aload_n hx hb dX1_init_0 rfl (lv_at hl 0 rfl) ?_
  refine W.objInit hx hb hown (htb _ m_218) (htb _ m_26) (htb _ m_27) rfl (by rw [hml]; exact hl.1) rfl dX1_init_1 (Nat.le_of_ble_eq_true rfl) (Nat.le_of_ble_eq_true rfl) ?_
  refine W.eq (g2 := F0 m 4 ls []) rfl ?_
  refine lv_aload_n hx hb dX1_init_4 rfl (lv_at hl 0 rfl) ?_
  refine lv_bipush (v := 10) hx hb dX1_init_5 (by decide) ?_
  refine va_newa (atype := .int) (a0 := (10, .inl (fun _ => 0))) (N' := 10) (ty := .int) hx hb (htb _ m_63) rfl hK hP hD hS hA (fun _ => rfl) (by decide) (by decide) (Nat.le_of_ble_eq_true rfl) (Nat.le_of_ble_eq_true rfl) (Nat.le_of_ble_eq_true rfl) dX1_init_7 ?_
  clear hP hD hS hK; intro q_1 a_2 H hK hP hD hS
  change va_P (dC, dI) vwCl [(h0, .inr (1, [.null, .null, .null])), (q_1, .inl (a_2, 10, .inl (fun _ => 0)))] H at hP
  change va_D A [(h0, .inr (1, [.null, .null, .null])), (q_1, .inl (a_2, 10, .inl (fun _ => 0)))] at hD
  change va_K (dC, dI) vwCl [(a_2, .int)] s at hK
  refine W.widen (k := 1) (n := 10) (Nat.le_of_ble_eq_true rfl) (Nat.le_of_ble_eq_true rfl) ?_
  refine va_putF (D := (dC, dI)) (ci := 1) (v := .ref q_1) (C := RX1) (T := TX1) (N := 3) hx hb htb iX1 tyX1 tyX1_ok nmX1 hown hK hP hD hS 0 rfl rfl 0 (Nat.le_of_ble_eq_true rfl) (htb _ m_219) (fun _ h9 => h9) rfl hin rfl (tyX1_ok 0 (Nat.le_of_ble_eq_true rfl)) rfl rfl (Nat.le_of_ble_eq_true rfl) dX1_init_9 ?_
  clear hP hD hS; intro H locs hP hD hS
  change va_P (dC, dI) vwCl [(h0, .inr (1, [.ref q_1, .null, .null])), (q_1, .inl (a_2, 10, .inl (fun _ => 0)))] H at hP
  change va_D A [(h0, .inr (1, [.ref q_1, .null, .null])), (q_1, .inl (a_2, 10, .inl (fun _ => 0)))] at hD
  refine lv_aload_n hx hb dX1_init_12 rfl (lv_at hl 0 rfl) ?_
  refine lv_bipush (v := 10) hx hb dX1_init_13 (by decide) ?_
  refine va_newa (atype := .int) (a0 := (10, .inl (fun _ => 0))) (N' := 10) (ty := .int) hx hb (htb _ m_63) rfl hK hP hD hS hA (fun _ => rfl) (by decide) (by decide) (Nat.le_of_ble_eq_true rfl) (Nat.le_of_ble_eq_true rfl) (Nat.le_of_ble_eq_true rfl) dX1_init_15 ?_
  clear hP hD hS hK; intro q_3 a_4 H hK hP hD hS
  change va_P (dC, dI) vwCl [(h0, .inr (1, [.ref q_1, .null, .null])), (q_1, .inl (a_2, 10, .inl (fun _ => 0))), (q_3, .inl (a_4, 10, .inl (fun _ => 0)))] H at hP
  change va_D A [(h0, .inr (1, [.ref q_1, .null, .null])), (q_1, .inl (a_2, 10, .inl (fun _ => 0))), (q_3, .inl (a_4, 10, .inl (fun _ => 0)))] at hD
  change va_K (dC, dI) vwCl [(a_2, .int), (a_4, .int)] s at hK
  refine W.widen (k := 2) (n := 20) (Nat.le_of_ble_eq_true rfl) (Nat.le_of_ble_eq_true rfl) ?_
  refine va_putF (D := (dC, dI)) (ci := 1) (v := .ref q_3) (C := RX1) (T := TX1) (N := 3) hx hb htb iX1 tyX1 tyX1_ok nmX1 hown hK hP hD hS 0 rfl rfl 1 (Nat.le_of_ble_eq_true rfl) (htb _ m_220) (fun _ h9 => h9) rfl hin rfl (tyX1_ok 1 (Nat.le_of_ble_eq_true rfl)) rfl rfl (Nat.le_of_ble_eq_true rfl) dX1_init_17 ?_
  clear hP hD hS; intro H locs hP hD hS
  change va_P (dC, dI) vwCl [(h0, .inr (1, [.ref q_1, .ref q_3, .null])), (q_1, .inl (a_2, 10, .inl (fun _ => 0))), (q_3, .inl (a_4, 10, .inl (fun _ => 0)))] H at hP
  change va_D A [(h0, .inr (1, [.ref q_1, .ref q_3, .null])), (q_1, .inl (a_2, 10, .inl (fun _ => 0))), (q_3, .inl (a_4, 10, .inl (fun _ => 0)))] at hD
  refine lv_aload_n hx hb dX1_init_20 rfl (lv_at hl 0 rfl) ?_
  refine lv_bipush (v := 10) hx hb dX1_init_21 (by decide) ?_
  refine va_newa (atype := .long) (a0 := (10, .inr (.inl (fun _ => 0)))) (N' := 10) (ty := .long) hx hb (htb _ m_229) rfl hK hP hD hS hA (fun _ => rfl) (by decide) (by decide) (Nat.le_of_ble_eq_true rfl) (Nat.le_of_ble_eq_true rfl) (Nat.le_of_ble_eq_true rfl) dX1_init_23 ?_
  clear hP hD hS hK; intro q_5 a_6 H hK hP hD hS
  change va_P (dC, dI) vwCl [(h0, .inr (1, [.ref q_1, .ref q_3, .null])), (q_1, .inl (a_2, 10, .inl (fun _ => 0))), (q_3, .inl (a_4, 10, .inl (fun _ => 0))), (q_5, .inl (a_6, 10, .inr (.inl (fun _ => 0))))] H at hP
  change va_D A [(h0, .inr (1, [.ref q_1, .ref q_3, .null])), (q_1, .inl (a_2, 10, .inl (fun _ => 0))), (q_3, .inl (a_4, 10, .inl (fun _ => 0))), (q_5, .inl (a_6, 10, .inr (.inl (fun _ => 0))))] at hD
  change va_K (dC, dI) vwCl [(a_2, .int), (a_4, .int), (a_6, .long)] s at hK
  refine W.widen (k := 3) (n := 30) (Nat.le_of_ble_eq_true rfl) (Nat.le_of_ble_eq_true rfl) ?_
  refine va_putF (D := (dC, dI)) (ci := 1) (v := .ref q_5) (C := RX1) (T := TX1) (N := 3) hx hb htb iX1 tyX1 tyX1_ok nmX1 hown hK hP hD hS 0 rfl rfl 2 (Nat.le_of_ble_eq_true rfl) (htb _ m_221) (fun _ h9 => h9) rfl hin rfl (tyX1_ok 2 (Nat.le_of_ble_eq_true rfl)) rfl rfl (Nat.le_of_ble_eq_true rfl) dX1_init_25 ?_
  clear hP hD hS; intro H locs hP hD hS
  change va_P (dC, dI) vwCl [(h0, .inr (1, [.ref q_1, .ref q_3, .ref q_5])), (q_1, .inl (a_2, 10, .inl (fun _ => 0))), (q_3, .inl (a_4, 10, .inl (fun _ => 0))), (q_5, .inl (a_6, 10, .inr (.inl (fun _ => 0))))] H at hP
  change va_D A [(h0, .inr (1, [.ref q_1, .ref q_3, .ref q_5])), (q_1, .inl (a_2, 10, .inl (fun _ => 0))), (q_3, .inl (a_4, 10, .inl (fun _ => 0))), (q_5, .inl (a_6, 10, .inr (.inl (fun _ => 0))))] at hD
  refine W.widen (k := 3) (n := 30) (Nat.le_of_ble_eq_true rfl) (Nat.le_of_ble_eq_true rfl) ?_
  have hP9 := hP.sub (ws' := [(h0, .inr (1, [.ref q_1, .ref q_3, .ref q_5])), (q_1, .inl (a_2, 10, .inl (fun _ => 0))), (q_3, .inl (a_4, 10, .inl (fun _ => 0))), (q_5, .inl (a_6, 10, .inr (.inl (fun _ => 0))))]) [0, 1, 2, 3] rfl
  have hD9 := hD.sub (ws' := [(h0, .inr (1, [.ref q_1, .ref q_3, .ref q_5])), (q_1, .inl (a_2, 10, .inl (fun _ => 0))), (q_3, .inl (a_4, 10, .inl (fun _ => 0))), (q_5, .inl (a_6, 10, .inr (.inl (fun _ => 0))))]) [0, 1, 2, 3] (by decide) rfl
  have hK9 := hK.sub (tys' := [(a_2, .int), (a_4, .int), (a_6, .long)]) [0, 1, 2] rfl
  exact W.vret hx hb hr (fun t ht hW => ⟨⟨(), rfl, trivial, ⟨q_1, q_3, q_5, a_2, a_4, a_6, by rw [ht]; exact hP9, va_K.moved hW.alike hK9, hD9⟩⟩, hS.F ht⟩) hS.2.2 dX1_init_28

set_option maxHeartbeats 4000000 in
set_option maxRecDepth 100000 in
theorem kX9_init (l : Launch) (dC : Nat → ClassId) (dI : Nat → Nat → Nat) (sz : Nat) (h0 : Nat) : Met l yX9_init (Cond.code yX9_init cX9_init 1 none :: bg) ({ frames := 1, cells := 3, slots := 1800, locals := 12 }) (pcW dC dI [.ref h0] sz [(h0, .inr (9, [.null, .null, .null, .int 0, .int 0, .int 0]))] []) (va_Qv (fun (u : Unit) => True) (fun (u : Unit) (t : State) => ∃ (p_bytes : Nat) (p_ts : Nat) (p_tc : Nat) (k_bytes : ClassId) (k_ts : ClassId) (k_tc : ClassId), va_P (dC, dI) vwCl [(h0, .inr (9, [.ref p_bytes, .ref p_ts, .ref p_tc, .int 0, .int 0, .int 0])), (p_bytes, .inl (k_bytes, 600, .inl (fun _ => 0))), (p_ts, .inl (k_ts, 600, .inl (fun _ => 0))), (p_tc, .inl (k_tc, 600, .inl (fun _ => 0)))] t.heap ∧ va_K (dC, dI) vwCl [(k_bytes, .byte), (k_ts, .int), (k_tc, .int)] t ∧ va_D (va_A [(h0, .inr (9, [.null, .null, .null, .int 0, .int 0, .int 0]))] sz) [(h0, .inr (9, [.ref p_bytes, .ref p_ts, .ref p_tc, .int 0, .int 0, .int 0])), (p_bytes, .inl (k_bytes, 600, .inl (fun _ => 0))), (p_ts, .inl (k_ts, 600, .inl (fun _ => 0))), (p_tc, .inl (k_tc, 600, .inl (fun _ => 0)))]) (va_A [(h0, .inr (9, [.null, .null, .null, .int 0, .int 0, .int 0]))] sz)) 3 1800 (va_A [(h0, .inr (9, [.null, .null, .null, .int 0, .int 0, .int 0]))] sz) := by
  refine Met.ofW (cc := cX9_init) (maxL := 1) (ret := none) pnX9 rfl ?_
  intro p e s m args below meth c s₁ B hml hv
  obtain ⟨rfl, hsz, hP, hK, hD0, hN⟩ := hv
  have hx := B.exec
  have hb := B.bytes
  have hr := B.returns
  have htb : ∀ w ∈ bg, w.before [.ref h0].toArray s = true := fun w h => atoms_spec (ws := Cond.code yX9_init cX9_init 1 none :: bg) B.pre w (List.mem_cons_of_mem _ h)
  have hown : s.vm.findClass RX9 = some m.cls := findClass_of_methodNamed B.named
  have hlocks := B.notSynchronized
  have hin : meth.name = "<init>" := (name_of_methodNamed B.named B.method).1
  subst hsz
  have hD := hD0.self (sz := s.heap.size)
  generalize hAe : va_A [(h0, .inr (9, [.null, .null, .null, .int 0, .int 0, .int 0]))] s.heap.size = A at hD ⊢
  have hA : ∀ q : Nat, s.heap.size ≤ q → A q := fun q h => by rw [← hAe]; exact Or.inr h
  have hS : va_S A s.heap s.heap [] := va_S.rf
  have hl := lv_entry ([.ref h0]) (n := 1) (Nat.le_of_ble_eq_true rfl)
  rw [lg_entry_eq]
  generalize (lg_sl ([.ref h0]) ++ List.replicate (1 - (lg_sl ([.ref h0])).length) Slot.unset).toArray = ls at hl ⊢
  change lv_has ls 1 [(0, .ref h0)] at hl
  clear hD0 hAe
  refine go0 (wsP := fun H => va_P (dC, dI) vwCl [(h0, .inr (9, [.null, .null, .null, .int 0, .int 0, .int 0]))] H) hP hS ?_
  clear hP hS; intro H locs hP hS
  change va_P (dC, dI) vwCl [(h0, .inr (9, [.null, .null, .null, .int 0, .int 0, .int 0]))] H at hP
  refine lv_aload_n hx hb dX9_init_0 rfl (lv_at hl 0 rfl) ?_
  refine W.objInit hx hb hown (htb _ m_235) (htb _ m_26) (htb _ m_27) rfl (by rw [hml]; exact hl.1) rfl dX9_init_1 (Nat.le_of_ble_eq_true rfl) (Nat.le_of_ble_eq_true rfl) ?_
  refine W.eq (g2 := F0 m 4 ls []) rfl ?_
  refine lv_aload_n hx hb dX9_init_4 rfl (lv_at hl 0 rfl) ?_
  refine lv_sipush (v := 600) hx hb dX9_init_5 (by decide) ?_
  refine va_newa (atype := .byte) (a0 := (600, .inl (fun _ => 0))) (N' := 600) (ty := .byte) hx hb (htb _ m_256) rfl hK hP hD hS hA (fun _ => rfl) (by decide) (by decide) (Nat.le_of_ble_eq_true rfl) (Nat.le_of_ble_eq_true rfl) (Nat.le_of_ble_eq_true rfl) dX9_init_8 ?_
  clear hP hD hS hK; intro q_1 a_2 H hK hP hD hS
  change va_P (dC, dI) vwCl [(h0, .inr (9, [.null, .null, .null, .int 0, .int 0, .int 0])), (q_1, .inl (a_2, 600, .inl (fun _ => 0)))] H at hP
  change va_D A [(h0, .inr (9, [.null, .null, .null, .int 0, .int 0, .int 0])), (q_1, .inl (a_2, 600, .inl (fun _ => 0)))] at hD
  change va_K (dC, dI) vwCl [(a_2, .byte)] s at hK
  refine W.widen (k := 1) (n := 600) (Nat.le_of_ble_eq_true rfl) (Nat.le_of_ble_eq_true rfl) ?_
  refine va_putF (D := (dC, dI)) (ci := 9) (v := .ref q_1) (C := RX9) (T := TX9) (N := 6) hx hb htb iX9 tyX9 tyX9_ok nmX9 hown hK hP hD hS 0 rfl rfl 0 (Nat.le_of_ble_eq_true rfl) (htb _ m_236) (fun _ h9 => h9) rfl hin rfl (tyX9_ok 0 (Nat.le_of_ble_eq_true rfl)) rfl rfl (Nat.le_of_ble_eq_true rfl) dX9_init_10 ?_
  clear hP hD hS; intro H locs hP hD hS
  change va_P (dC, dI) vwCl [(h0, .inr (9, [.ref q_1, .null, .null, .int 0, .int 0, .int 0])), (q_1, .inl (a_2, 600, .inl (fun _ => 0)))] H at hP
  change va_D A [(h0, .inr (9, [.ref q_1, .null, .null, .int 0, .int 0, .int 0])), (q_1, .inl (a_2, 600, .inl (fun _ => 0)))] at hD
  refine lv_aload_n hx hb dX9_init_13 rfl (lv_at hl 0 rfl) ?_
  refine lv_sipush (v := 600) hx hb dX9_init_14 (by decide) ?_
  refine va_newa (atype := .int) (a0 := (600, .inl (fun _ => 0))) (N' := 600) (ty := .int) hx hb (htb _ m_63) rfl hK hP hD hS hA (fun _ => rfl) (by decide) (by decide) (Nat.le_of_ble_eq_true rfl) (Nat.le_of_ble_eq_true rfl) (Nat.le_of_ble_eq_true rfl) dX9_init_17 ?_
  clear hP hD hS hK; intro q_3 a_4 H hK hP hD hS
  change va_P (dC, dI) vwCl [(h0, .inr (9, [.ref q_1, .null, .null, .int 0, .int 0, .int 0])), (q_1, .inl (a_2, 600, .inl (fun _ => 0))), (q_3, .inl (a_4, 600, .inl (fun _ => 0)))] H at hP
  change va_D A [(h0, .inr (9, [.ref q_1, .null, .null, .int 0, .int 0, .int 0])), (q_1, .inl (a_2, 600, .inl (fun _ => 0))), (q_3, .inl (a_4, 600, .inl (fun _ => 0)))] at hD
  change va_K (dC, dI) vwCl [(a_2, .byte), (a_4, .int)] s at hK
  refine W.widen (k := 2) (n := 1200) (Nat.le_of_ble_eq_true rfl) (Nat.le_of_ble_eq_true rfl) ?_
  refine va_putF (D := (dC, dI)) (ci := 9) (v := .ref q_3) (C := RX9) (T := TX9) (N := 6) hx hb htb iX9 tyX9 tyX9_ok nmX9 hown hK hP hD hS 0 rfl rfl 1 (Nat.le_of_ble_eq_true rfl) (htb _ m_237) (fun _ h9 => h9) rfl hin rfl (tyX9_ok 1 (Nat.le_of_ble_eq_true rfl)) rfl rfl (Nat.le_of_ble_eq_true rfl) dX9_init_19 ?_
  clear hP hD hS; intro H locs hP hD hS
  change va_P (dC, dI) vwCl [(h0, .inr (9, [.ref q_1, .ref q_3, .null, .int 0, .int 0, .int 0])), (q_1, .inl (a_2, 600, .inl (fun _ => 0))), (q_3, .inl (a_4, 600, .inl (fun _ => 0)))] H at hP
  change va_D A [(h0, .inr (9, [.ref q_1, .ref q_3, .null, .int 0, .int 0, .int 0])), (q_1, .inl (a_2, 600, .inl (fun _ => 0))), (q_3, .inl (a_4, 600, .inl (fun _ => 0)))] at hD
  refine lv_aload_n hx hb dX9_init_22 rfl (lv_at hl 0 rfl) ?_
  refine lv_sipush (v := 600) hx hb dX9_init_23 (by decide) ?_
  refine va_newa (atype := .int) (a0 := (600, .inl (fun _ => 0))) (N' := 600) (ty := .int) hx hb (htb _ m_63) rfl hK hP hD hS hA (fun _ => rfl) (by decide) (by decide) (Nat.le_of_ble_eq_true rfl) (Nat.le_of_ble_eq_true rfl) (Nat.le_of_ble_eq_true rfl) dX9_init_26 ?_
  clear hP hD hS hK; intro q_5 a_6 H hK hP hD hS
  change va_P (dC, dI) vwCl [(h0, .inr (9, [.ref q_1, .ref q_3, .null, .int 0, .int 0, .int 0])), (q_1, .inl (a_2, 600, .inl (fun _ => 0))), (q_3, .inl (a_4, 600, .inl (fun _ => 0))), (q_5, .inl (a_6, 600, .inl (fun _ => 0)))] H at hP
  change va_D A [(h0, .inr (9, [.ref q_1, .ref q_3, .null, .int 0, .int 0, .int 0])), (q_1, .inl (a_2, 600, .inl (fun _ => 0))), (q_3, .inl (a_4, 600, .inl (fun _ => 0))), (q_5, .inl (a_6, 600, .inl (fun _ => 0)))] at hD
  change va_K (dC, dI) vwCl [(a_2, .byte), (a_4, .int), (a_6, .int)] s at hK
  refine W.widen (k := 3) (n := 1800) (Nat.le_of_ble_eq_true rfl) (Nat.le_of_ble_eq_true rfl) ?_
  refine va_putF (D := (dC, dI)) (ci := 9) (v := .ref q_5) (C := RX9) (T := TX9) (N := 6) hx hb htb iX9 tyX9 tyX9_ok nmX9 hown hK hP hD hS 0 rfl rfl 2 (Nat.le_of_ble_eq_true rfl) (htb _ m_238) (fun _ h9 => h9) rfl hin rfl (tyX9_ok 2 (Nat.le_of_ble_eq_true rfl)) rfl rfl (Nat.le_of_ble_eq_true rfl) dX9_init_28 ?_
  clear hP hD hS; intro H locs hP hD hS
  change va_P (dC, dI) vwCl [(h0, .inr (9, [.ref q_1, .ref q_3, .ref q_5, .int 0, .int 0, .int 0])), (q_1, .inl (a_2, 600, .inl (fun _ => 0))), (q_3, .inl (a_4, 600, .inl (fun _ => 0))), (q_5, .inl (a_6, 600, .inl (fun _ => 0)))] H at hP
  change va_D A [(h0, .inr (9, [.ref q_1, .ref q_3, .ref q_5, .int 0, .int 0, .int 0])), (q_1, .inl (a_2, 600, .inl (fun _ => 0))), (q_3, .inl (a_4, 600, .inl (fun _ => 0))), (q_5, .inl (a_6, 600, .inl (fun _ => 0)))] at hD
  refine W.widen (k := 3) (n := 1800) (Nat.le_of_ble_eq_true rfl) (Nat.le_of_ble_eq_true rfl) ?_
  have hP9 := hP.sub (ws' := [(h0, .inr (9, [.ref q_1, .ref q_3, .ref q_5, .int 0, .int 0, .int 0])), (q_1, .inl (a_2, 600, .inl (fun _ => 0))), (q_3, .inl (a_4, 600, .inl (fun _ => 0))), (q_5, .inl (a_6, 600, .inl (fun _ => 0)))]) [0, 1, 2, 3] rfl
  have hD9 := hD.sub (ws' := [(h0, .inr (9, [.ref q_1, .ref q_3, .ref q_5, .int 0, .int 0, .int 0])), (q_1, .inl (a_2, 600, .inl (fun _ => 0))), (q_3, .inl (a_4, 600, .inl (fun _ => 0))), (q_5, .inl (a_6, 600, .inl (fun _ => 0)))]) [0, 1, 2, 3] (by decide) rfl
  have hK9 := hK.sub (tys' := [(a_2, .byte), (a_4, .int), (a_6, .int)]) [0, 1, 2] rfl
  exact W.vret hx hb hr (fun t ht hW => ⟨⟨(), rfl, trivial, ⟨q_1, q_3, q_5, a_2, a_4, a_6, by rw [ht]; exact hP9, va_K.moved hW.alike hK9, hD9⟩⟩, hS.F ht⟩) hS.2.2 dX9_init_31

set_option maxHeartbeats 4000000 in
set_option maxRecDepth 100000 in
theorem kX5_init (l : Launch) (dC : Nat → ClassId) (dI : Nat → Nat → Nat) (sz : Nat) (h0 : Nat) : Met l yX5_init (Cond.code yX5_init cX5_init 1 none :: bg) ({ frames := 1, cells := 6, slots := 192, locals := 12 }) (pcW dC dI [.ref h0] sz [(h0, .inr (5, [.null, .null, .null, .null, .null, .null, .int 0]))] []) (va_Qv (fun (u : Unit) => True) (fun (u : Unit) (t : State) => ∃ (b_deed : Nat) (b_value : Nat) (b_tests : Nat) (b_thing : Nat) (b_sign : Nat) (b_number : Nat) (k_deed : ClassId) (k_value : ClassId) (k_tests : ClassId) (k_thing : ClassId) (k_sign : ClassId) (k_number : ClassId), va_P (dC, dI) vwCl [(h0, .inr (5, [.ref b_deed, .ref b_value, .ref b_tests, .ref b_thing, .ref b_sign, .ref b_number, .int 0])), (b_deed, .inl (k_deed, 16, .inl (fun _ => 0))), (b_value, .inl (k_value, 16, .inl (fun _ => 0))), (b_tests, .inl (k_tests, 16, .inl (fun _ => 0))), (b_thing, .inl (k_thing, 48, .inl (fun _ => 0))), (b_sign, .inl (k_sign, 48, .inl (fun _ => 0))), (b_number, .inl (k_number, 48, .inl (fun _ => 0)))] t.heap ∧ va_K (dC, dI) vwCl [(k_deed, .int), (k_value, .int), (k_tests, .int), (k_thing, .int), (k_sign, .int), (k_number, .int)] t ∧ va_D (va_A [(h0, .inr (5, [.null, .null, .null, .null, .null, .null, .int 0]))] sz) [(h0, .inr (5, [.ref b_deed, .ref b_value, .ref b_tests, .ref b_thing, .ref b_sign, .ref b_number, .int 0])), (b_deed, .inl (k_deed, 16, .inl (fun _ => 0))), (b_value, .inl (k_value, 16, .inl (fun _ => 0))), (b_tests, .inl (k_tests, 16, .inl (fun _ => 0))), (b_thing, .inl (k_thing, 48, .inl (fun _ => 0))), (b_sign, .inl (k_sign, 48, .inl (fun _ => 0))), (b_number, .inl (k_number, 48, .inl (fun _ => 0)))]) (va_A [(h0, .inr (5, [.null, .null, .null, .null, .null, .null, .int 0]))] sz)) 6 192 (va_A [(h0, .inr (5, [.null, .null, .null, .null, .null, .null, .int 0]))] sz) := by
  refine Met.ofW (cc := cX5_init) (maxL := 1) (ret := none) pnX5 rfl ?_
  intro p e s m args below meth c s₁ B hml hv
  obtain ⟨rfl, hsz, hP, hK, hD0, hN⟩ := hv
  have hx := B.exec
  have hb := B.bytes
  have hr := B.returns
  have htb : ∀ w ∈ bg, w.before [.ref h0].toArray s = true := fun w h => atoms_spec (ws := Cond.code yX5_init cX5_init 1 none :: bg) B.pre w (List.mem_cons_of_mem _ h)
  have hown : s.vm.findClass RX5 = some m.cls := findClass_of_methodNamed B.named
  have hlocks := B.notSynchronized
  have hin : meth.name = "<init>" := (name_of_methodNamed B.named B.method).1
  subst hsz
  have hD := hD0.self (sz := s.heap.size)
  generalize hAe : va_A [(h0, .inr (5, [.null, .null, .null, .null, .null, .null, .int 0]))] s.heap.size = A at hD ⊢
  have hA : ∀ q : Nat, s.heap.size ≤ q → A q := fun q h => by rw [← hAe]; exact Or.inr h
  have hS : va_S A s.heap s.heap [] := va_S.rf
  have hl := lv_entry ([.ref h0]) (n := 1) (Nat.le_of_ble_eq_true rfl)
  rw [lg_entry_eq]
  generalize (lg_sl ([.ref h0]) ++ List.replicate (1 - (lg_sl ([.ref h0])).length) Slot.unset).toArray = ls at hl ⊢
  change lv_has ls 1 [(0, .ref h0)] at hl
  clear hD0 hAe
  refine go0 (wsP := fun H => va_P (dC, dI) vwCl [(h0, .inr (5, [.null, .null, .null, .null, .null, .null, .int 0]))] H) hP hS ?_
  clear hP hS; intro H locs hP hS
  change va_P (dC, dI) vwCl [(h0, .inr (5, [.null, .null, .null, .null, .null, .null, .int 0]))] H at hP
  refine lv_aload_n hx hb dX5_init_0 rfl (lv_at hl 0 rfl) ?_
  refine W.objInit hx hb hown (htb _ m_278) (htb _ m_26) (htb _ m_27) rfl (by rw [hml]; exact hl.1) rfl dX5_init_1 (Nat.le_of_ble_eq_true rfl) (Nat.le_of_ble_eq_true rfl) ?_
  refine W.eq (g2 := F0 m 4 ls []) rfl ?_
  refine lv_aload_n hx hb dX5_init_4 rfl (lv_at hl 0 rfl) ?_
  refine lv_bipush (v := 16) hx hb dX5_init_5 (by decide) ?_
  refine va_newa (atype := .int) (a0 := (16, .inl (fun _ => 0))) (N' := 16) (ty := .int) hx hb (htb _ m_63) rfl hK hP hD hS hA (fun _ => rfl) (by decide) (by decide) (Nat.le_of_ble_eq_true rfl) (Nat.le_of_ble_eq_true rfl) (Nat.le_of_ble_eq_true rfl) dX5_init_7 ?_
  clear hP hD hS hK; intro q_1 a_2 H hK hP hD hS
  change va_P (dC, dI) vwCl [(h0, .inr (5, [.null, .null, .null, .null, .null, .null, .int 0])), (q_1, .inl (a_2, 16, .inl (fun _ => 0)))] H at hP
  change va_D A [(h0, .inr (5, [.null, .null, .null, .null, .null, .null, .int 0])), (q_1, .inl (a_2, 16, .inl (fun _ => 0)))] at hD
  change va_K (dC, dI) vwCl [(a_2, .int)] s at hK
  refine W.widen (k := 1) (n := 16) (Nat.le_of_ble_eq_true rfl) (Nat.le_of_ble_eq_true rfl) ?_
  refine va_putF (D := (dC, dI)) (ci := 5) (v := .ref q_1) (C := RX5) (T := TX5) (N := 7) hx hb htb iX5 tyX5 tyX5_ok nmX5 hown hK hP hD hS 0 rfl rfl 0 (Nat.le_of_ble_eq_true rfl) (htb _ m_279) (fun _ h9 => h9) rfl hin rfl (tyX5_ok 0 (Nat.le_of_ble_eq_true rfl)) rfl rfl (Nat.le_of_ble_eq_true rfl) dX5_init_9 ?_
  clear hP hD hS; intro H locs hP hD hS
  change va_P (dC, dI) vwCl [(h0, .inr (5, [.ref q_1, .null, .null, .null, .null, .null, .int 0])), (q_1, .inl (a_2, 16, .inl (fun _ => 0)))] H at hP
  change va_D A [(h0, .inr (5, [.ref q_1, .null, .null, .null, .null, .null, .int 0])), (q_1, .inl (a_2, 16, .inl (fun _ => 0)))] at hD
  refine lv_aload_n hx hb dX5_init_12 rfl (lv_at hl 0 rfl) ?_
  refine lv_bipush (v := 16) hx hb dX5_init_13 (by decide) ?_
  refine va_newa (atype := .int) (a0 := (16, .inl (fun _ => 0))) (N' := 16) (ty := .int) hx hb (htb _ m_63) rfl hK hP hD hS hA (fun _ => rfl) (by decide) (by decide) (Nat.le_of_ble_eq_true rfl) (Nat.le_of_ble_eq_true rfl) (Nat.le_of_ble_eq_true rfl) dX5_init_15 ?_
  clear hP hD hS hK; intro q_3 a_4 H hK hP hD hS
  change va_P (dC, dI) vwCl [(h0, .inr (5, [.ref q_1, .null, .null, .null, .null, .null, .int 0])), (q_1, .inl (a_2, 16, .inl (fun _ => 0))), (q_3, .inl (a_4, 16, .inl (fun _ => 0)))] H at hP
  change va_D A [(h0, .inr (5, [.ref q_1, .null, .null, .null, .null, .null, .int 0])), (q_1, .inl (a_2, 16, .inl (fun _ => 0))), (q_3, .inl (a_4, 16, .inl (fun _ => 0)))] at hD
  change va_K (dC, dI) vwCl [(a_2, .int), (a_4, .int)] s at hK
  refine W.widen (k := 2) (n := 32) (Nat.le_of_ble_eq_true rfl) (Nat.le_of_ble_eq_true rfl) ?_
  refine va_putF (D := (dC, dI)) (ci := 5) (v := .ref q_3) (C := RX5) (T := TX5) (N := 7) hx hb htb iX5 tyX5 tyX5_ok nmX5 hown hK hP hD hS 0 rfl rfl 1 (Nat.le_of_ble_eq_true rfl) (htb _ m_280) (fun _ h9 => h9) rfl hin rfl (tyX5_ok 1 (Nat.le_of_ble_eq_true rfl)) rfl rfl (Nat.le_of_ble_eq_true rfl) dX5_init_17 ?_
  clear hP hD hS; intro H locs hP hD hS
  change va_P (dC, dI) vwCl [(h0, .inr (5, [.ref q_1, .ref q_3, .null, .null, .null, .null, .int 0])), (q_1, .inl (a_2, 16, .inl (fun _ => 0))), (q_3, .inl (a_4, 16, .inl (fun _ => 0)))] H at hP
  change va_D A [(h0, .inr (5, [.ref q_1, .ref q_3, .null, .null, .null, .null, .int 0])), (q_1, .inl (a_2, 16, .inl (fun _ => 0))), (q_3, .inl (a_4, 16, .inl (fun _ => 0)))] at hD
  refine lv_aload_n hx hb dX5_init_20 rfl (lv_at hl 0 rfl) ?_
  refine lv_bipush (v := 16) hx hb dX5_init_21 (by decide) ?_
  refine va_newa (atype := .int) (a0 := (16, .inl (fun _ => 0))) (N' := 16) (ty := .int) hx hb (htb _ m_63) rfl hK hP hD hS hA (fun _ => rfl) (by decide) (by decide) (Nat.le_of_ble_eq_true rfl) (Nat.le_of_ble_eq_true rfl) (Nat.le_of_ble_eq_true rfl) dX5_init_23 ?_
  clear hP hD hS hK; intro q_5 a_6 H hK hP hD hS
  change va_P (dC, dI) vwCl [(h0, .inr (5, [.ref q_1, .ref q_3, .null, .null, .null, .null, .int 0])), (q_1, .inl (a_2, 16, .inl (fun _ => 0))), (q_3, .inl (a_4, 16, .inl (fun _ => 0))), (q_5, .inl (a_6, 16, .inl (fun _ => 0)))] H at hP
  change va_D A [(h0, .inr (5, [.ref q_1, .ref q_3, .null, .null, .null, .null, .int 0])), (q_1, .inl (a_2, 16, .inl (fun _ => 0))), (q_3, .inl (a_4, 16, .inl (fun _ => 0))), (q_5, .inl (a_6, 16, .inl (fun _ => 0)))] at hD
  change va_K (dC, dI) vwCl [(a_2, .int), (a_4, .int), (a_6, .int)] s at hK
  refine W.widen (k := 3) (n := 48) (Nat.le_of_ble_eq_true rfl) (Nat.le_of_ble_eq_true rfl) ?_
  refine va_putF (D := (dC, dI)) (ci := 5) (v := .ref q_5) (C := RX5) (T := TX5) (N := 7) hx hb htb iX5 tyX5 tyX5_ok nmX5 hown hK hP hD hS 0 rfl rfl 2 (Nat.le_of_ble_eq_true rfl) (htb _ m_281) (fun _ h9 => h9) rfl hin rfl (tyX5_ok 2 (Nat.le_of_ble_eq_true rfl)) rfl rfl (Nat.le_of_ble_eq_true rfl) dX5_init_25 ?_
  clear hP hD hS; intro H locs hP hD hS
  change va_P (dC, dI) vwCl [(h0, .inr (5, [.ref q_1, .ref q_3, .ref q_5, .null, .null, .null, .int 0])), (q_1, .inl (a_2, 16, .inl (fun _ => 0))), (q_3, .inl (a_4, 16, .inl (fun _ => 0))), (q_5, .inl (a_6, 16, .inl (fun _ => 0)))] H at hP
  change va_D A [(h0, .inr (5, [.ref q_1, .ref q_3, .ref q_5, .null, .null, .null, .int 0])), (q_1, .inl (a_2, 16, .inl (fun _ => 0))), (q_3, .inl (a_4, 16, .inl (fun _ => 0))), (q_5, .inl (a_6, 16, .inl (fun _ => 0)))] at hD
  refine lv_aload_n hx hb dX5_init_28 rfl (lv_at hl 0 rfl) ?_
  refine lv_bipush (v := 48) hx hb dX5_init_29 (by decide) ?_
  refine va_newa (atype := .int) (a0 := (48, .inl (fun _ => 0))) (N' := 48) (ty := .int) hx hb (htb _ m_63) rfl hK hP hD hS hA (fun _ => rfl) (by decide) (by decide) (Nat.le_of_ble_eq_true rfl) (Nat.le_of_ble_eq_true rfl) (Nat.le_of_ble_eq_true rfl) dX5_init_31 ?_
  clear hP hD hS hK; intro q_7 a_8 H hK hP hD hS
  change va_P (dC, dI) vwCl [(h0, .inr (5, [.ref q_1, .ref q_3, .ref q_5, .null, .null, .null, .int 0])), (q_1, .inl (a_2, 16, .inl (fun _ => 0))), (q_3, .inl (a_4, 16, .inl (fun _ => 0))), (q_5, .inl (a_6, 16, .inl (fun _ => 0))), (q_7, .inl (a_8, 48, .inl (fun _ => 0)))] H at hP
  change va_D A [(h0, .inr (5, [.ref q_1, .ref q_3, .ref q_5, .null, .null, .null, .int 0])), (q_1, .inl (a_2, 16, .inl (fun _ => 0))), (q_3, .inl (a_4, 16, .inl (fun _ => 0))), (q_5, .inl (a_6, 16, .inl (fun _ => 0))), (q_7, .inl (a_8, 48, .inl (fun _ => 0)))] at hD
  change va_K (dC, dI) vwCl [(a_2, .int), (a_4, .int), (a_6, .int), (a_8, .int)] s at hK
  refine W.widen (k := 4) (n := 96) (Nat.le_of_ble_eq_true rfl) (Nat.le_of_ble_eq_true rfl) ?_
  refine va_putF (D := (dC, dI)) (ci := 5) (v := .ref q_7) (C := RX5) (T := TX5) (N := 7) hx hb htb iX5 tyX5 tyX5_ok nmX5 hown hK hP hD hS 0 rfl rfl 3 (Nat.le_of_ble_eq_true rfl) (htb _ m_282) (fun _ h9 => h9) rfl hin rfl (tyX5_ok 3 (Nat.le_of_ble_eq_true rfl)) rfl rfl (Nat.le_of_ble_eq_true rfl) dX5_init_33 ?_
  clear hP hD hS; intro H locs hP hD hS
  change va_P (dC, dI) vwCl [(h0, .inr (5, [.ref q_1, .ref q_3, .ref q_5, .ref q_7, .null, .null, .int 0])), (q_1, .inl (a_2, 16, .inl (fun _ => 0))), (q_3, .inl (a_4, 16, .inl (fun _ => 0))), (q_5, .inl (a_6, 16, .inl (fun _ => 0))), (q_7, .inl (a_8, 48, .inl (fun _ => 0)))] H at hP
  change va_D A [(h0, .inr (5, [.ref q_1, .ref q_3, .ref q_5, .ref q_7, .null, .null, .int 0])), (q_1, .inl (a_2, 16, .inl (fun _ => 0))), (q_3, .inl (a_4, 16, .inl (fun _ => 0))), (q_5, .inl (a_6, 16, .inl (fun _ => 0))), (q_7, .inl (a_8, 48, .inl (fun _ => 0)))] at hD
  refine lv_aload_n hx hb dX5_init_36 rfl (lv_at hl 0 rfl) ?_
  refine lv_bipush (v := 48) hx hb dX5_init_37 (by decide) ?_
  refine va_newa (atype := .int) (a0 := (48, .inl (fun _ => 0))) (N' := 48) (ty := .int) hx hb (htb _ m_63) rfl hK hP hD hS hA (fun _ => rfl) (by decide) (by decide) (Nat.le_of_ble_eq_true rfl) (Nat.le_of_ble_eq_true rfl) (Nat.le_of_ble_eq_true rfl) dX5_init_39 ?_
  clear hP hD hS hK; intro q_9 a_10 H hK hP hD hS
  change va_P (dC, dI) vwCl [(h0, .inr (5, [.ref q_1, .ref q_3, .ref q_5, .ref q_7, .null, .null, .int 0])), (q_1, .inl (a_2, 16, .inl (fun _ => 0))), (q_3, .inl (a_4, 16, .inl (fun _ => 0))), (q_5, .inl (a_6, 16, .inl (fun _ => 0))), (q_7, .inl (a_8, 48, .inl (fun _ => 0))), (q_9, .inl (a_10, 48, .inl (fun _ => 0)))] H at hP
  change va_D A [(h0, .inr (5, [.ref q_1, .ref q_3, .ref q_5, .ref q_7, .null, .null, .int 0])), (q_1, .inl (a_2, 16, .inl (fun _ => 0))), (q_3, .inl (a_4, 16, .inl (fun _ => 0))), (q_5, .inl (a_6, 16, .inl (fun _ => 0))), (q_7, .inl (a_8, 48, .inl (fun _ => 0))), (q_9, .inl (a_10, 48, .inl (fun _ => 0)))] at hD
  change va_K (dC, dI) vwCl [(a_2, .int), (a_4, .int), (a_6, .int), (a_8, .int), (a_10, .int)] s at hK
  refine W.widen (k := 5) (n := 144) (Nat.le_of_ble_eq_true rfl) (Nat.le_of_ble_eq_true rfl) ?_
  refine va_putF (D := (dC, dI)) (ci := 5) (v := .ref q_9) (C := RX5) (T := TX5) (N := 7) hx hb htb iX5 tyX5 tyX5_ok nmX5 hown hK hP hD hS 0 rfl rfl 4 (Nat.le_of_ble_eq_true rfl) (htb _ m_283) (fun _ h9 => h9) rfl hin rfl (tyX5_ok 4 (Nat.le_of_ble_eq_true rfl)) rfl rfl (Nat.le_of_ble_eq_true rfl) dX5_init_41 ?_
  clear hP hD hS; intro H locs hP hD hS
  change va_P (dC, dI) vwCl [(h0, .inr (5, [.ref q_1, .ref q_3, .ref q_5, .ref q_7, .ref q_9, .null, .int 0])), (q_1, .inl (a_2, 16, .inl (fun _ => 0))), (q_3, .inl (a_4, 16, .inl (fun _ => 0))), (q_5, .inl (a_6, 16, .inl (fun _ => 0))), (q_7, .inl (a_8, 48, .inl (fun _ => 0))), (q_9, .inl (a_10, 48, .inl (fun _ => 0)))] H at hP
  change va_D A [(h0, .inr (5, [.ref q_1, .ref q_3, .ref q_5, .ref q_7, .ref q_9, .null, .int 0])), (q_1, .inl (a_2, 16, .inl (fun _ => 0))), (q_3, .inl (a_4, 16, .inl (fun _ => 0))), (q_5, .inl (a_6, 16, .inl (fun _ => 0))), (q_7, .inl (a_8, 48, .inl (fun _ => 0))), (q_9, .inl (a_10, 48, .inl (fun _ => 0)))] at hD
  refine lv_aload_n hx hb dX5_init_44 rfl (lv_at hl 0 rfl) ?_
  refine lv_bipush (v := 48) hx hb dX5_init_45 (by decide) ?_
  refine va_newa (atype := .int) (a0 := (48, .inl (fun _ => 0))) (N' := 48) (ty := .int) hx hb (htb _ m_63) rfl hK hP hD hS hA (fun _ => rfl) (by decide) (by decide) (Nat.le_of_ble_eq_true rfl) (Nat.le_of_ble_eq_true rfl) (Nat.le_of_ble_eq_true rfl) dX5_init_47 ?_
  clear hP hD hS hK; intro q_11 a_12 H hK hP hD hS
  change va_P (dC, dI) vwCl [(h0, .inr (5, [.ref q_1, .ref q_3, .ref q_5, .ref q_7, .ref q_9, .null, .int 0])), (q_1, .inl (a_2, 16, .inl (fun _ => 0))), (q_3, .inl (a_4, 16, .inl (fun _ => 0))), (q_5, .inl (a_6, 16, .inl (fun _ => 0))), (q_7, .inl (a_8, 48, .inl (fun _ => 0))), (q_9, .inl (a_10, 48, .inl (fun _ => 0))), (q_11, .inl (a_12, 48, .inl (fun _ => 0)))] H at hP
  change va_D A [(h0, .inr (5, [.ref q_1, .ref q_3, .ref q_5, .ref q_7, .ref q_9, .null, .int 0])), (q_1, .inl (a_2, 16, .inl (fun _ => 0))), (q_3, .inl (a_4, 16, .inl (fun _ => 0))), (q_5, .inl (a_6, 16, .inl (fun _ => 0))), (q_7, .inl (a_8, 48, .inl (fun _ => 0))), (q_9, .inl (a_10, 48, .inl (fun _ => 0))), (q_11, .inl (a_12, 48, .inl (fun _ => 0)))] at hD
  change va_K (dC, dI) vwCl [(a_2, .int), (a_4, .int), (a_6, .int), (a_8, .int), (a_10, .int), (a_12, .int)] s at hK
  refine W.widen (k := 6) (n := 192) (Nat.le_of_ble_eq_true rfl) (Nat.le_of_ble_eq_true rfl) ?_
  refine va_putF (D := (dC, dI)) (ci := 5) (v := .ref q_11) (C := RX5) (T := TX5) (N := 7) hx hb htb iX5 tyX5 tyX5_ok nmX5 hown hK hP hD hS 0 rfl rfl 5 (Nat.le_of_ble_eq_true rfl) (htb _ m_284) (fun _ h9 => h9) rfl hin rfl (tyX5_ok 5 (Nat.le_of_ble_eq_true rfl)) rfl rfl (Nat.le_of_ble_eq_true rfl) dX5_init_49 ?_
  clear hP hD hS; intro H locs hP hD hS
  change va_P (dC, dI) vwCl [(h0, .inr (5, [.ref q_1, .ref q_3, .ref q_5, .ref q_7, .ref q_9, .ref q_11, .int 0])), (q_1, .inl (a_2, 16, .inl (fun _ => 0))), (q_3, .inl (a_4, 16, .inl (fun _ => 0))), (q_5, .inl (a_6, 16, .inl (fun _ => 0))), (q_7, .inl (a_8, 48, .inl (fun _ => 0))), (q_9, .inl (a_10, 48, .inl (fun _ => 0))), (q_11, .inl (a_12, 48, .inl (fun _ => 0)))] H at hP
  change va_D A [(h0, .inr (5, [.ref q_1, .ref q_3, .ref q_5, .ref q_7, .ref q_9, .ref q_11, .int 0])), (q_1, .inl (a_2, 16, .inl (fun _ => 0))), (q_3, .inl (a_4, 16, .inl (fun _ => 0))), (q_5, .inl (a_6, 16, .inl (fun _ => 0))), (q_7, .inl (a_8, 48, .inl (fun _ => 0))), (q_9, .inl (a_10, 48, .inl (fun _ => 0))), (q_11, .inl (a_12, 48, .inl (fun _ => 0)))] at hD
  refine W.widen (k := 6) (n := 192) (Nat.le_of_ble_eq_true rfl) (Nat.le_of_ble_eq_true rfl) ?_
  have hP9 := hP.sub (ws' := [(h0, .inr (5, [.ref q_1, .ref q_3, .ref q_5, .ref q_7, .ref q_9, .ref q_11, .int 0])), (q_1, .inl (a_2, 16, .inl (fun _ => 0))), (q_3, .inl (a_4, 16, .inl (fun _ => 0))), (q_5, .inl (a_6, 16, .inl (fun _ => 0))), (q_7, .inl (a_8, 48, .inl (fun _ => 0))), (q_9, .inl (a_10, 48, .inl (fun _ => 0))), (q_11, .inl (a_12, 48, .inl (fun _ => 0)))]) [0, 1, 2, 3, 4, 5, 6] rfl
  have hD9 := hD.sub (ws' := [(h0, .inr (5, [.ref q_1, .ref q_3, .ref q_5, .ref q_7, .ref q_9, .ref q_11, .int 0])), (q_1, .inl (a_2, 16, .inl (fun _ => 0))), (q_3, .inl (a_4, 16, .inl (fun _ => 0))), (q_5, .inl (a_6, 16, .inl (fun _ => 0))), (q_7, .inl (a_8, 48, .inl (fun _ => 0))), (q_9, .inl (a_10, 48, .inl (fun _ => 0))), (q_11, .inl (a_12, 48, .inl (fun _ => 0)))]) [0, 1, 2, 3, 4, 5, 6] (by decide) rfl
  have hK9 := hK.sub (tys' := [(a_2, .int), (a_4, .int), (a_6, .int), (a_8, .int), (a_10, .int), (a_12, .int)]) [0, 1, 2, 3, 4, 5] rfl
  exact W.vret hx hb hr (fun t ht hW => ⟨⟨(), rfl, trivial, ⟨q_1, q_3, q_5, q_7, q_9, q_11, a_2, a_4, a_6, a_8, a_10, a_12, by rw [ht]; exact hP9, va_K.moved hW.alike hK9, hD9⟩⟩, hS.F ht⟩) hS.2.2 dX5_init_52

set_option maxHeartbeats 4000000 in
set_option maxRecDepth 100000 in
theorem kX6_init (l : Launch) (dC : Nat → ClassId) (dI : Nat → Nat → Nat) (sz : Nat) (h0 : Nat) (d_tape : Nat) : Met l yX6_init (Cond.code yX6_init cX6_init 2 none :: bg) ({ frames := 1, cells := 0, slots := 0, locals := 12 }) (pcW dC dI [.ref h0, .ref d_tape] sz [(h0, .inr (6, [.null, .int 0, .int 0]))] []) (va_Qv (fun (u : Unit) => True) (fun (u : Unit) (t : State) => va_P (dC, dI) vwCl [(h0, .inr (6, [.ref d_tape, .int 0, .int 0]))] t.heap ∧ va_K (dC, dI) vwCl [] t ∧ va_D (va_A [(h0, .inr (6, [.null, .int 0, .int 0]))] sz) [(h0, .inr (6, [.ref d_tape, .int 0, .int 0]))]) (va_A [(h0, .inr (6, [.null, .int 0, .int 0]))] sz)) 0 0 (va_A [(h0, .inr (6, [.null, .int 0, .int 0]))] sz) := by
  refine Met.ofW (cc := cX6_init) (maxL := 2) (ret := none) pnX6 rfl ?_
  intro p e s m args below meth c s₁ B hml hv
  obtain ⟨rfl, hsz, hP, hK, hD0, hN⟩ := hv
  have hx := B.exec
  have hb := B.bytes
  have hr := B.returns
  have htb : ∀ w ∈ bg, w.before [.ref h0, .ref d_tape].toArray s = true := fun w h => atoms_spec (ws := Cond.code yX6_init cX6_init 2 none :: bg) B.pre w (List.mem_cons_of_mem _ h)
  have hown : s.vm.findClass RX6 = some m.cls := findClass_of_methodNamed B.named
  have hlocks := B.notSynchronized
  have hin : meth.name = "<init>" := (name_of_methodNamed B.named B.method).1
  subst hsz
  have hD := hD0.self (sz := s.heap.size)
  generalize hAe : va_A [(h0, .inr (6, [.null, .int 0, .int 0]))] s.heap.size = A at hD ⊢
  have hA : ∀ q : Nat, s.heap.size ≤ q → A q := fun q h => by rw [← hAe]; exact Or.inr h
  have hS : va_S A s.heap s.heap [] := va_S.rf
  have hl := lv_entry ([.ref h0, .ref d_tape]) (n := 2) (Nat.le_of_ble_eq_true rfl)
  rw [lg_entry_eq]
  generalize (lg_sl ([.ref h0, .ref d_tape]) ++ List.replicate (2 - (lg_sl ([.ref h0, .ref d_tape])).length) Slot.unset).toArray = ls at hl ⊢
  change lv_has ls 2 [(0, .ref h0), (1, .ref d_tape)] at hl
  clear hD0 hAe
  refine go0 (wsP := fun H => va_P (dC, dI) vwCl [(h0, .inr (6, [.null, .int 0, .int 0]))] H) hP hS ?_
  clear hP hS; intro H locs hP hS
  change va_P (dC, dI) vwCl [(h0, .inr (6, [.null, .int 0, .int 0]))] H at hP
  refine lv_aload_n hx hb dX6_init_0 rfl (lv_at hl 0 rfl) ?_
  refine W.objInit hx hb hown (htb _ m_262) (htb _ m_26) (htb _ m_27) rfl (by rw [hml]; exact hl.1) rfl dX6_init_1 (Nat.le_of_ble_eq_true rfl) (Nat.le_of_ble_eq_true rfl) ?_
  refine W.eq (g2 := F0 m 4 ls []) rfl ?_
  refine lv_aload_n hx hb dX6_init_4 rfl (lv_at hl 0 rfl) ?_
  refine lv_aload_n hx hb dX6_init_5 rfl (lv_at hl 1 rfl) ?_
  refine va_putF (D := (dC, dI)) (ci := 6) (v := .ref d_tape) (C := RX6) (T := TX6) (N := 3) hx hb htb iX6 tyX6 tyX6_ok nmX6 hown hK hP hD hS 0 rfl rfl 0 (Nat.le_of_ble_eq_true rfl) (htb _ m_263) (fun _ h9 => h9) rfl hin rfl (tyX6_ok 0 (Nat.le_of_ble_eq_true rfl)) rfl rfl (Nat.le_of_ble_eq_true rfl) dX6_init_6 ?_
  clear hP hD hS; intro H locs hP hD hS
  change va_P (dC, dI) vwCl [(h0, .inr (6, [.ref d_tape, .int 0, .int 0]))] H at hP
  change va_D A [(h0, .inr (6, [.ref d_tape, .int 0, .int 0]))] at hD
  refine W.widen (k := 0) (n := 0) (Nat.le_of_ble_eq_true rfl) (Nat.le_of_ble_eq_true rfl) ?_
  have hP9 := hP.sub (ws' := [(h0, .inr (6, [.ref d_tape, .int 0, .int 0]))]) [0] rfl
  have hD9 := hD.sub (ws' := [(h0, .inr (6, [.ref d_tape, .int 0, .int 0]))]) [0] (by decide) rfl
  have hK9 := hK.sub (tys' := []) [] rfl
  exact W.vret hx hb hr (fun t ht hW => ⟨⟨(), rfl, trivial, ⟨by rw [ht]; exact hP9, va_K.moved hW.alike hK9, hD9⟩⟩, hS.F ht⟩) hS.2.2 dX6_init_9
