set_option maxHeartbeats 4000000 in
set_option maxRecDepth 100000 in
theorem kX3_fill (l : Launch) (dC : Nat → ClassId) (dI : Nat → Nat → Nat) (sz : Nat) (h0 : Nat) (n_su : Int64) (n_pa : Int32) (n_he : Int32) (n_mi : Int32) (n_wo : Int32) (v1 : Int32) : Met l yX3_fill (Cond.code yX3_fill cX3_fill 2 none :: bg) ({ frames := 0, cells := 0, slots := 0, locals := 0 }) (pcW dC dI [.ref h0, .int v1] sz [(h0, .inr (3, [.long n_su, .int n_pa, .int n_he, .int n_mi, .int n_wo]))] []) (va_Qv (fun (u : Unit) => True) (fun (u : Unit) (t : State) => ∃ (w_su : Int64) (w_pa : Int32) (w_he : Int32) (w_mi : Int32) (w_wo : Int32), va_P (dC, dI) vwCl [(h0, .inr (3, [.long w_su, .int w_pa, .int w_he, .int w_mi, .int w_wo]))] t.heap ∧ va_K (dC, dI) vwCl [] t ∧ va_D (va_A [(h0, .inr (3, [.long n_su, .int n_pa, .int n_he, .int n_mi, .int n_wo]))] sz) [(h0, .inr (3, [.long w_su, .int w_pa, .int w_he, .int w_mi, .int w_wo]))]) (va_A [(h0, .inr (3, [.long n_su, .int n_pa, .int n_he, .int n_mi, .int n_wo]))] sz)) 0 0 (va_A [(h0, .inr (3, [.long n_su, .int n_pa, .int n_he, .int n_mi, .int n_wo]))] sz) := by
  refine Met.ofW (cc := cX3_fill) (maxL := 2) (ret := none) pnX3 rfl ?_
  intro p e s m args below meth c s₁ B hml hv
  obtain ⟨rfl, hsz, hP, hK, hD0, hN⟩ := hv
  have hx := B.exec
  have hb := B.bytes
  have hr := B.returns
  have htb : ∀ w ∈ bg, w.before [.ref h0, .int v1].toArray s = true := fun w h => atoms_spec (ws := Cond.code yX3_fill cX3_fill 2 none :: bg) B.pre w (List.mem_cons_of_mem _ h)
  have hown : s.vm.findClass RX3 = some m.cls := findClass_of_methodNamed B.named
  have hlocks := B.notSynchronized
  subst hsz
  have hD := hD0.self (sz := s.heap.size)
  generalize hAe : va_A [(h0, .inr (3, [.long n_su, .int n_pa, .int n_he, .int n_mi, .int n_wo]))] s.heap.size = A at hD ⊢
  have hA : ∀ q : Nat, s.heap.size ≤ q → A q := fun q h => by rw [← hAe]; exact Or.inr h
  have hS : va_S A s.heap s.heap [] := va_S.rf
  have hl := lv_entry ([.ref h0, .int v1]) (n := 2) (Nat.le_of_ble_eq_true rfl)
  rw [lg_entry_eq]
  generalize (lg_sl ([.ref h0, .int v1]) ++ List.replicate (2 - (lg_sl ([.ref h0, .int v1])).length) Slot.unset).toArray = ls at hl ⊢
  change lv_has ls 2 [(0, .ref h0), (1, .int v1)] at hl
  clear hD0 hAe
  refine go0 (wsP := fun H => va_P (dC, dI) vwCl [(h0, .inr (3, [.long n_su, .int n_pa, .int n_he, .int n_mi, .int n_wo]))] H) hP hS ?_
  clear hP hS; intro H locs hP hS
  change va_P (dC, dI) vwCl [(h0, .inr (3, [.long n_su, .int n_pa, .int n_he, .int n_mi, .int n_wo]))] H at hP
  refine lv_aload_n hx hb dX3_fill_0 rfl (lv_at hl 0 rfl) ?_
  refine lv_dup hx hb dX3_fill_1 rfl ?_
  refine va_get (D := (dC, dI)) (ci := 3) (v := .int n_pa) (C := RX3) (T := TX3) (N := 5) hx hb htb iX3 hown hK hP 0 rfl rfl 1 (Nat.le_of_ble_eq_true rfl) (htb _ m_163) (fun _ h9 => h9) rfl dX3_fill_2 ?_
  refine lv_iload_n hx hb dX3_fill_5 rfl (lv_at hl 1 rfl) ?_
  refine lv_iadd hx hb dX3_fill_6 ?_
  refine lv_topi (fun x_1 ex_2 => ?_)
  refine va_put (D := (dC, dI)) (ci := 3) (v := .int x_1) (C := RX3) (T := TX3) (N := 5) hx hb htb iX3 tyX3 tyX3_ok nmX3 hown hK hP hD hS 0 rfl rfl 1 (Nat.le_of_ble_eq_true rfl) (htb _ m_163) (fun _ h9 => h9) rfl (tyX3_ok 1 (Nat.le_of_ble_eq_true rfl)) rfl rfl (Nat.le_of_ble_eq_true rfl) dX3_fill_7 ?_
  clear hP hD hS; intro H locs hP hD hS
  change va_P (dC, dI) vwCl [(h0, .inr (3, [.long n_su, .int x_1, .int n_he, .int n_mi, .int n_wo]))] H at hP
  change va_D A [(h0, .inr (3, [.long n_su, .int x_1, .int n_he, .int n_mi, .int n_wo]))] at hD
  refine lv_aload_n hx hb dX3_fill_10 rfl (lv_at hl 0 rfl) ?_
  refine lv_dup hx hb dX3_fill_11 rfl ?_
  refine va_get (D := (dC, dI)) (ci := 3) (v := .long n_su) (C := RX3) (T := TX3) (N := 5) hx hb htb iX3 hown hK hP 0 rfl rfl 0 (Nat.le_of_ble_eq_true rfl) (htb _ m_162) (fun _ h9 => h9) rfl dX3_fill_12 ?_
  refine lv_iload_n hx hb dX3_fill_15 rfl (lv_at hl 1 rfl) ?_
  refine lv_i2l hx hb dX3_fill_16 rfl ?_
  refine lv_topl (fun x_4 ex_5 => ?_)
  refine lv_ldc2 hx hb hown (htb _ m_621) dX3_fill_17 ?_
  refine lv_lmul hx hb dX3_fill_20 ?_
  refine lv_topl (fun x_6 ex_7 => ?_)
  refine lv_ladd hx hb dX3_fill_21 ?_
  refine lv_topl (fun x_8 ex_9 => ?_)
  refine va_put (D := (dC, dI)) (ci := 3) (v := .long x_8) (C := RX3) (T := TX3) (N := 5) hx hb htb iX3 tyX3 tyX3_ok nmX3 hown hK hP hD hS 0 rfl rfl 0 (Nat.le_of_ble_eq_true rfl) (htb _ m_162) (fun _ h9 => h9) rfl (tyX3_ok 0 (Nat.le_of_ble_eq_true rfl)) rfl rfl (Nat.le_of_ble_eq_true rfl) dX3_fill_22 ?_
  clear hP hD hS; intro H locs hP hD hS
  change va_P (dC, dI) vwCl [(h0, .inr (3, [.long x_8, .int x_1, .int n_he, .int n_mi, .int n_wo]))] H at hP
  change va_D A [(h0, .inr (3, [.long x_8, .int x_1, .int n_he, .int n_mi, .int n_wo]))] at hD
  refine W.widen (k := 0) (n := 0) (Nat.le_of_ble_eq_true rfl) (Nat.le_of_ble_eq_true rfl) ?_
  have hP9 := hP.sub (ws' := [(h0, .inr (3, [.long x_8, .int x_1, .int n_he, .int n_mi, .int n_wo]))]) [0] rfl
  have hD9 := hD.sub (ws' := [(h0, .inr (3, [.long x_8, .int x_1, .int n_he, .int n_mi, .int n_wo]))]) [0] (by decide) rfl
  have hK9 := hK.sub (tys' := []) [] rfl
  exact W.vret hx hb hr (fun t ht hW => ⟨⟨(), rfl, trivial, ⟨x_8, x_1, n_he, n_mi, n_wo, by rw [ht]; exact hP9, va_K.moved hW.alike hK9, hD9⟩⟩, hS.F ht⟩) hS.2.2 dX3_fill_25

set_option maxHeartbeats 4000000 in
set_option maxRecDepth 100000 in
theorem kX3_empty (l : Launch) (dC : Nat → ClassId) (dI : Nat → Nat → Nat) (sz : Nat) (h0 : Nat) (n_su : Int64) (n_pa : Int32) (n_he : Int32) (n_mi : Int32) (n_wo : Int32) : Met l yX3_empty (Cond.code yX3_empty cX3_empty 1 none :: bg) ({ frames := 0, cells := 0, slots := 0, locals := 0 }) (pcW dC dI [.ref h0] sz [(h0, .inr (3, [.long n_su, .int n_pa, .int n_he, .int n_mi, .int n_wo]))] []) (va_Qv (fun (u : Unit) => True) (fun (u : Unit) (t : State) => ∃ (w_su : Int64) (w_pa : Int32) (w_he : Int32) (w_mi : Int32) (w_wo : Int32), va_P (dC, dI) vwCl [(h0, .inr (3, [.long w_su, .int w_pa, .int w_he, .int w_mi, .int w_wo]))] t.heap ∧ va_K (dC, dI) vwCl [] t ∧ va_D (va_A [(h0, .inr (3, [.long n_su, .int n_pa, .int n_he, .int n_mi, .int n_wo]))] sz) [(h0, .inr (3, [.long w_su, .int w_pa, .int w_he, .int w_mi, .int w_wo]))]) (va_A [(h0, .inr (3, [.long n_su, .int n_pa, .int n_he, .int n_mi, .int n_wo]))] sz)) 0 0 (va_A [(h0, .inr (3, [.long n_su, .int n_pa, .int n_he, .int n_mi, .int n_wo]))] sz) := by
  refine Met.ofW (cc := cX3_empty) (maxL := 1) (ret := none) pnX3 rfl ?_
  intro p e s m args below meth c s₁ B hml hv
  obtain ⟨rfl, hsz, hP, hK, hD0, hN⟩ := hv
  have hx := B.exec
  have hb := B.bytes
  have hr := B.returns
  have htb : ∀ w ∈ bg, w.before [.ref h0].toArray s = true := fun w h => atoms_spec (ws := Cond.code yX3_empty cX3_empty 1 none :: bg) B.pre w (List.mem_cons_of_mem _ h)
  have hown : s.vm.findClass RX3 = some m.cls := findClass_of_methodNamed B.named
  have hlocks := B.notSynchronized
  subst hsz
  have hD := hD0.self (sz := s.heap.size)
  generalize hAe : va_A [(h0, .inr (3, [.long n_su, .int n_pa, .int n_he, .int n_mi, .int n_wo]))] s.heap.size = A at hD ⊢
  have hA : ∀ q : Nat, s.heap.size ≤ q → A q := fun q h => by rw [← hAe]; exact Or.inr h
  have hS : va_S A s.heap s.heap [] := va_S.rf
  have hl := lv_entry ([.ref h0]) (n := 1) (Nat.le_of_ble_eq_true rfl)
  rw [lg_entry_eq]
  generalize (lg_sl ([.ref h0]) ++ List.replicate (1 - (lg_sl ([.ref h0])).length) Slot.unset).toArray = ls at hl ⊢
  change lv_has ls 1 [(0, .ref h0)] at hl
  clear hD0 hAe
  refine go0 (wsP := fun H => va_P (dC, dI) vwCl [(h0, .inr (3, [.long n_su, .int n_pa, .int n_he, .int n_mi, .int n_wo]))] H) hP hS ?_
  clear hP hS; intro H locs hP hS
  change va_P (dC, dI) vwCl [(h0, .inr (3, [.long n_su, .int n_pa, .int n_he, .int n_mi, .int n_wo]))] H at hP
  refine lv_aload_n hx hb dX3_empty_0 rfl (lv_at hl 0 rfl) ?_
  refine lv_iconst (v := 0) hx hb dX3_empty_1 (by decide) ?_
  refine va_put (D := (dC, dI)) (ci := 3) (v := .int 0) (C := RX3) (T := TX3) (N := 5) hx hb htb iX3 tyX3 tyX3_ok nmX3 hown hK hP hD hS 0 rfl rfl 1 (Nat.le_of_ble_eq_true rfl) (htb _ m_163) (fun _ h9 => h9) rfl (tyX3_ok 1 (Nat.le_of_ble_eq_true rfl)) rfl rfl (Nat.le_of_ble_eq_true rfl) dX3_empty_2 ?_
  clear hP hD hS; intro H locs hP hD hS
  change va_P (dC, dI) vwCl [(h0, .inr (3, [.long n_su, .int 0, .int n_he, .int n_mi, .int n_wo]))] H at hP
  change va_D A [(h0, .inr (3, [.long n_su, .int 0, .int n_he, .int n_mi, .int n_wo]))] at hD
  refine lv_aload_n hx hb dX3_empty_5 rfl (lv_at hl 0 rfl) ?_
  refine lv_lconst (v := 0) hx hb dX3_empty_6 (by decide) ?_
  refine va_put (D := (dC, dI)) (ci := 3) (v := .long 0) (C := RX3) (T := TX3) (N := 5) hx hb htb iX3 tyX3 tyX3_ok nmX3 hown hK hP hD hS 0 rfl rfl 0 (Nat.le_of_ble_eq_true rfl) (htb _ m_162) (fun _ h9 => h9) rfl (tyX3_ok 0 (Nat.le_of_ble_eq_true rfl)) rfl rfl (Nat.le_of_ble_eq_true rfl) dX3_empty_7 ?_
  clear hP hD hS; intro H locs hP hD hS
  change va_P (dC, dI) vwCl [(h0, .inr (3, [.long 0, .int 0, .int n_he, .int n_mi, .int n_wo]))] H at hP
  change va_D A [(h0, .inr (3, [.long 0, .int 0, .int n_he, .int n_mi, .int n_wo]))] at hD
  refine lv_aload_n hx hb dX3_empty_10 rfl (lv_at hl 0 rfl) ?_
  refine lv_iconst (v := 0) hx hb dX3_empty_11 (by decide) ?_
  refine va_put (D := (dC, dI)) (ci := 3) (v := .int 0) (C := RX3) (T := TX3) (N := 5) hx hb htb iX3 tyX3 tyX3_ok nmX3 hown hK hP hD hS 0 rfl rfl 3 (Nat.le_of_ble_eq_true rfl) (htb _ m_167) (fun _ h9 => h9) rfl (tyX3_ok 3 (Nat.le_of_ble_eq_true rfl)) rfl rfl (Nat.le_of_ble_eq_true rfl) dX3_empty_12 ?_
  clear hP hD hS; intro H locs hP hD hS
  change va_P (dC, dI) vwCl [(h0, .inr (3, [.long 0, .int 0, .int n_he, .int 0, .int n_wo]))] H at hP
  change va_D A [(h0, .inr (3, [.long 0, .int 0, .int n_he, .int 0, .int n_wo]))] at hD
  refine W.widen (k := 0) (n := 0) (Nat.le_of_ble_eq_true rfl) (Nat.le_of_ble_eq_true rfl) ?_
  have hP9 := hP.sub (ws' := [(h0, .inr (3, [.long 0, .int 0, .int n_he, .int 0, .int n_wo]))]) [0] rfl
  have hD9 := hD.sub (ws' := [(h0, .inr (3, [.long 0, .int 0, .int n_he, .int 0, .int n_wo]))]) [0] (by decide) rfl
  have hK9 := hK.sub (tys' := []) [] rfl
  exact W.vret hx hb hr (fun t ht hW => ⟨⟨(), rfl, trivial, ⟨0, 0, n_he, 0, n_wo, by rw [ht]; exact hP9, va_K.moved hW.alike hK9, hD9⟩⟩, hS.F ht⟩) hS.2.2 dX3_empty_15

theorem lg_X3_stack_0 (n_wo : Int32) (x_1 : Int32) (t_5 : n_wo.toInt ≤ x_1.toInt) : True := by
  have := rg_rng n_wo; have := rg_rng x_1; trivial
theorem lg_X3_stack_1 (n_wo : Int32) (x_1 : Int32) (t_5 : x_1.toInt < n_wo.toInt) : True := by
  have := rg_rng n_wo; have := rg_rng x_1; trivial
set_option maxHeartbeats 4000000 in
set_option maxRecDepth 100000 in
theorem kX3_stack (l : Launch) (dC : Nat → ClassId) (dI : Nat → Nat → Nat) (sz : Nat) (h0 : Nat) (n_su : Int64) (n_pa : Int32) (n_he : Int32) (n_mi : Int32) (n_wo : Int32) (v1 : Int32) : Met l yX3_stack (Cond.code yX3_stack cX3_stack 2 (some .int) :: bg) ({ frames := 0, cells := 0, slots := 0, locals := 0 }) (pcW dC dI [.ref h0, .int v1] sz [(h0, .inr (3, [.long n_su, .int n_pa, .int n_he, .int n_mi, .int n_wo]))] []) (va_Qi (fun (r : Int32) (u : Unit) => True) (fun (u : Unit) (t : State) => ∃ (w_su : Int64) (w_pa : Int32) (w_he : Int32) (w_mi : Int32) (w_wo : Int32), va_P (dC, dI) vwCl [(h0, .inr (3, [.long w_su, .int w_pa, .int w_he, .int w_mi, .int w_wo]))] t.heap ∧ va_K (dC, dI) vwCl [] t ∧ va_D (va_A [(h0, .inr (3, [.long n_su, .int n_pa, .int n_he, .int n_mi, .int n_wo]))] sz) [(h0, .inr (3, [.long w_su, .int w_pa, .int w_he, .int w_mi, .int w_wo]))]) (va_A [(h0, .inr (3, [.long n_su, .int n_pa, .int n_he, .int n_mi, .int n_wo]))] sz)) 0 0 (va_A [(h0, .inr (3, [.long n_su, .int n_pa, .int n_he, .int n_mi, .int n_wo]))] sz) := by
  refine Met.ofW (cc := cX3_stack) (maxL := 2) (ret := (some .int)) pnX3 rfl ?_
  intro p e s m args below meth c s₁ B hml hv
  obtain ⟨rfl, hsz, hP, hK, hD0, hN⟩ := hv
  have hx := B.exec
  have hb := B.bytes
  have hr := B.returns
  have htb : ∀ w ∈ bg, w.before [.ref h0, .int v1].toArray s = true := fun w h => atoms_spec (ws := Cond.code yX3_stack cX3_stack 2 (some .int) :: bg) B.pre w (List.mem_cons_of_mem _ h)
  have hown : s.vm.findClass RX3 = some m.cls := findClass_of_methodNamed B.named
  have hlocks := B.notSynchronized
  subst hsz
  have hD := hD0.self (sz := s.heap.size)
  generalize hAe : va_A [(h0, .inr (3, [.long n_su, .int n_pa, .int n_he, .int n_mi, .int n_wo]))] s.heap.size = A at hD ⊢
  have hA : ∀ q : Nat, s.heap.size ≤ q → A q := fun q h => by rw [← hAe]; exact Or.inr h
  have hS : va_S A s.heap s.heap [] := va_S.rf
  have hl := lv_entry ([.ref h0, .int v1]) (n := 2) (Nat.le_of_ble_eq_true rfl)
  rw [lg_entry_eq]
  generalize (lg_sl ([.ref h0, .int v1]) ++ List.replicate (2 - (lg_sl ([.ref h0, .int v1])).length) Slot.unset).toArray = ls at hl ⊢
  change lv_has ls 2 [(0, .ref h0), (1, .int v1)] at hl
  clear hD0 hAe
  refine go0 (wsP := fun H => va_P (dC, dI) vwCl [(h0, .inr (3, [.long n_su, .int n_pa, .int n_he, .int n_mi, .int n_wo]))] H) hP hS ?_
  clear hP hS; intro H locs hP hS
  change va_P (dC, dI) vwCl [(h0, .inr (3, [.long n_su, .int n_pa, .int n_he, .int n_mi, .int n_wo]))] H at hP
  refine lv_aload_n hx hb dX3_stack_0 rfl (lv_at hl 0 rfl) ?_
  refine va_get (D := (dC, dI)) (ci := 3) (v := .int n_wo) (C := RX3) (T := TX3) (N := 5) hx hb htb iX3 hown hK hP 0 rfl rfl 4 (Nat.le_of_ble_eq_true rfl) (htb _ m_169) (fun _ h9 => h9) rfl dX3_stack_1 ?_
  refine lv_ldc hx hb hown (htb _ m_634) dX3_stack_4 ?_
  refine lv_iload_n hx hb dX3_stack_6 rfl (lv_at hl 1 rfl) ?_
  refine lv_isub hx hb dX3_stack_7 ?_
  refine lv_topi (fun x_1 ex_2 => ?_)
  refine lv_icmp_le (tgt := 13) hx hb dX3_stack_8 (by decide) (fun c_4 => ?_) (fun c_4 => ?_)
  · have t_5 : n_wo.toInt ≤ x_1.toInt := i_le rfl rfl c_4
    refine lv_aload_n hx hb dX3_stack_13 rfl (lv_at hl 0 rfl) ?_
    refine lv_dup hx hb dX3_stack_14 rfl ?_
    refine va_get (D := (dC, dI)) (ci := 3) (v := .int n_wo) (C := RX3) (T := TX3) (N := 5) hx hb htb iX3 hown hK hP 0 rfl rfl 4 (Nat.le_of_ble_eq_true rfl) (htb _ m_169) (fun _ h9 => h9) rfl dX3_stack_15 ?_
    refine lv_iload_n hx hb dX3_stack_18 rfl (lv_at hl 1 rfl) ?_
    refine lv_iadd hx hb dX3_stack_19 ?_
    refine lv_topi (fun x_6 ex_7 => ?_)
    refine va_put (D := (dC, dI)) (ci := 3) (v := .int x_6) (C := RX3) (T := TX3) (N := 5) hx hb htb iX3 tyX3 tyX3_ok nmX3 hown hK hP hD hS 0 rfl rfl 4 (Nat.le_of_ble_eq_true rfl) (htb _ m_169) (fun _ h9 => h9) rfl (tyX3_ok 4 (Nat.le_of_ble_eq_true rfl)) rfl rfl (Nat.le_of_ble_eq_true rfl) dX3_stack_20 ?_
    clear hP hD hS; intro H locs hP hD hS
    change va_P (dC, dI) vwCl [(h0, .inr (3, [.long n_su, .int n_pa, .int n_he, .int n_mi, .int x_6]))] H at hP
    change va_D A [(h0, .inr (3, [.long n_su, .int n_pa, .int n_he, .int n_mi, .int x_6]))] at hD
    refine lv_aload_n hx hb dX3_stack_23 rfl (lv_at hl 0 rfl) ?_
    refine va_get (D := (dC, dI)) (ci := 3) (v := .int x_6) (C := RX3) (T := TX3) (N := 5) hx hb htb iX3 hown hK hP 0 rfl rfl 4 (Nat.le_of_ble_eq_true rfl) (htb _ m_169) (fun _ h9 => h9) rfl dX3_stack_24 ?_
    refine W.widen (k := 0) (n := 0) (Nat.le_of_ble_eq_true rfl) (Nat.le_of_ble_eq_true rfl) ?_
    have hP9 := hP.sub (ws' := [(h0, .inr (3, [.long n_su, .int n_pa, .int n_he, .int n_mi, .int x_6]))]) [0] rfl
    have hD9 := hD.sub (ws' := [(h0, .inr (3, [.long n_su, .int n_pa, .int n_he, .int n_mi, .int x_6]))]) [0] (by decide) rfl
    have hK9 := hK.sub (tys' := []) [] rfl
    exact W.iret (v := x_6) hx hb hr (fun t ht hW => ⟨⟨x_6, (), rfl, (lg_X3_stack_0 n_wo x_1 t_5), ⟨n_su, n_pa, n_he, n_mi, x_6, by rw [ht]; exact hP9, va_K.moved hW.alike hK9, hD9⟩⟩, hS.F ht⟩) hS.2.2 dX3_stack_27
  · have t_5 : x_1.toInt < n_wo.toInt := i_nle rfl rfl c_4
    refine lv_iconst (v := (-1)) hx hb dX3_stack_11 (by decide) ?_
    refine W.widen (k := 0) (n := 0) (Nat.le_of_ble_eq_true rfl) (Nat.le_of_ble_eq_true rfl) ?_
    have hP9 := hP.sub (ws' := [(h0, .inr (3, [.long n_su, .int n_pa, .int n_he, .int n_mi, .int n_wo]))]) [0] rfl
    have hD9 := hD.sub (ws' := [(h0, .inr (3, [.long n_su, .int n_pa, .int n_he, .int n_mi, .int n_wo]))]) [0] (by decide) rfl
    have hK9 := hK.sub (tys' := []) [] rfl
    exact W.iret (v := (-1)) hx hb hr (fun t ht hW => ⟨⟨(-1), (), rfl, (lg_X3_stack_1 n_wo x_1 t_5), ⟨n_su, n_pa, n_he, n_mi, n_wo, by rw [ht]; exact hP9, va_K.moved hW.alike hK9, hD9⟩⟩, hS.F ht⟩) hS.2.2 dX3_stack_12

theorem lg_X3_strength_0 (n_pa : Int32) (t_2 : (1 : Int) ≤ n_pa.toInt) : ¬ n_pa.toInt = 0 := by
  have := rg_rng n_pa; omega
theorem lg_X3_strength_1 (n_pa : Int32) (t_2 : (1 : Int) ≤ n_pa.toInt) : True := by
  have := rg_rng n_pa; first | trivial | omega
theorem lg_X3_strength_2 (n_pa : Int32) (t_2 : n_pa.toInt < (1 : Int)) : True := by
  have := rg_rng n_pa; first | trivial | omega
set_option maxHeartbeats 4000000 in
set_option maxRecDepth 100000 in
theorem kX3_strength (l : Launch) (dC : Nat → ClassId) (dI : Nat → Nat → Nat) (sz : Nat) (h0 : Nat) (n_su : Int64) (n_pa : Int32) (n_he : Int32) (n_mi : Int32) (n_wo : Int32) : Met l yX3_strength (Cond.code yX3_strength cX3_strength 1 (some .int) :: bg) ({ frames := 0, cells := 0, slots := 0, locals := 0 }) (pcW dC dI [.ref h0] sz [(h0, .inr (3, [.long n_su, .int n_pa, .int n_he, .int n_mi, .int n_wo]))] []) (va_Qi (fun (r : Int32) (u : Unit) => True) (fun (u : Unit) (t : State) => va_P (dC, dI) vwCl [(h0, .inr (3, [.long n_su, .int n_pa, .int n_he, .int n_mi, .int n_wo]))] t.heap ∧ va_K (dC, dI) vwCl [] t ∧ va_D (va_A [(h0, .inr (3, [.long n_su, .int n_pa, .int n_he, .int n_mi, .int n_wo]))] sz) [(h0, .inr (3, [.long n_su, .int n_pa, .int n_he, .int n_mi, .int n_wo]))]) (va_A [(h0, .inr (3, [.long n_su, .int n_pa, .int n_he, .int n_mi, .int n_wo]))] sz)) 0 0 (va_A [(h0, .inr (3, [.long n_su, .int n_pa, .int n_he, .int n_mi, .int n_wo]))] sz) := by
  refine Met.ofW (cc := cX3_strength) (maxL := 1) (ret := (some .int)) pnX3 rfl ?_
  intro p e s m args below meth c s₁ B hml hv
  obtain ⟨rfl, hsz, hP, hK, hD0, hN⟩ := hv
  have hx := B.exec
  have hb := B.bytes
  have hr := B.returns
  have htb : ∀ w ∈ bg, w.before [.ref h0].toArray s = true := fun w h => atoms_spec (ws := Cond.code yX3_strength cX3_strength 1 (some .int) :: bg) B.pre w (List.mem_cons_of_mem _ h)
  have hown : s.vm.findClass RX3 = some m.cls := findClass_of_methodNamed B.named
  have hlocks := B.notSynchronized
  subst hsz
  have hD := hD0.self (sz := s.heap.size)
  generalize hAe : va_A [(h0, .inr (3, [.long n_su, .int n_pa, .int n_he, .int n_mi, .int n_wo]))] s.heap.size = A at hD ⊢
  have hA : ∀ q : Nat, s.heap.size ≤ q → A q := fun q h => by rw [← hAe]; exact Or.inr h
  have hS : va_S A s.heap s.heap [] := va_S.rf
  have hl := lv_entry ([.ref h0]) (n := 1) (Nat.le_of_ble_eq_true rfl)
  rw [lg_entry_eq]
  generalize (lg_sl ([.ref h0]) ++ List.replicate (1 - (lg_sl ([.ref h0])).length) Slot.unset).toArray = ls at hl ⊢
  change lv_has ls 1 [(0, .ref h0)] at hl
  clear hD0 hAe
  refine go0 (wsP := fun H => va_P (dC, dI) vwCl [(h0, .inr (3, [.long n_su, .int n_pa, .int n_he, .int n_mi, .int n_wo]))] H) hP hS ?_
  clear hP hS; intro H locs hP hS
  change va_P (dC, dI) vwCl [(h0, .inr (3, [.long n_su, .int n_pa, .int n_he, .int n_mi, .int n_wo]))] H at hP
  refine lv_aload_n hx hb dX3_strength_0 rfl (lv_at hl 0 rfl) ?_
  refine va_get (D := (dC, dI)) (ci := 3) (v := .int n_pa) (C := RX3) (T := TX3) (N := 5) hx hb htb iX3 hown hK hP 0 rfl rfl 1 (Nat.le_of_ble_eq_true rfl) (htb _ m_163) (fun _ h9 => h9) rfl dX3_strength_1 ?_
  refine lv_iconst (v := 1) hx hb dX3_strength_4 (by decide) ?_
  refine lv_icmp_ge (tgt := 12) hx hb dX3_strength_5 (by decide) (fun c_1 => ?_) (fun c_1 => ?_)
  · have t_2 : (1 : Int) ≤ n_pa.toInt := i_le (by decide) rfl c_1
    refine lv_aload_n hx hb dX3_strength_12 rfl (lv_at hl 0 rfl) ?_
    refine va_get (D := (dC, dI)) (ci := 3) (v := .long n_su) (C := RX3) (T := TX3) (N := 5) hx hb htb iX3 hown hK hP 0 rfl rfl 0 (Nat.le_of_ble_eq_true rfl) (htb _ m_162) (fun _ h9 => h9) rfl dX3_strength_13 ?_
    refine lv_aload_n hx hb dX3_strength_16 rfl (lv_at hl 0 rfl) ?_
    refine va_get (D := (dC, dI)) (ci := 3) (v := .int n_pa) (C := RX3) (T := TX3) (N := 5) hx hb htb iX3 hown hK hP 0 rfl rfl 1 (Nat.le_of_ble_eq_true rfl) (htb _ m_163) (fun _ h9 => h9) rfl dX3_strength_17 ?_
    refine lv_i2l hx hb dX3_strength_20 rfl ?_
    refine lv_topl (fun x_3 ex_4 => ?_)
    refine lv_ldiv hx hb dX3_strength_21 (i_lne ex_4 (lg_X3_strength_0 n_pa t_2)) ?_
    refine lv_topl (fun x_5 ex_6 => ?_)
    refine lv_ldc2 hx hb hown (htb _ m_651) dX3_strength_22 ?_
    refine lv_ldiv hx hb dX3_strength_25 (by decide) ?_
    refine lv_topl (fun x_7 ex_8 => ?_)
    refine lv_l2i hx hb dX3_strength_26 rfl ?_
    refine lv_topi (fun x_9 ex_10 => ?_)
    refine W.widen (k := 0) (n := 0) (Nat.le_of_ble_eq_true rfl) (Nat.le_of_ble_eq_true rfl) ?_
    have hP9 := hP.sub (ws' := [(h0, .inr (3, [.long n_su, .int n_pa, .int n_he, .int n_mi, .int n_wo]))]) [0] rfl
    have hD9 := hD.sub (ws' := [(h0, .inr (3, [.long n_su, .int n_pa, .int n_he, .int n_mi, .int n_wo]))]) [0] (by decide) rfl
    have hK9 := hK.sub (tys' := []) [] rfl
    exact W.iret (v := x_9) hx hb hr (fun t ht hW => ⟨⟨x_9, (), rfl, (lg_X3_strength_1 n_pa t_2), ⟨by rw [ht]; exact hP9, va_K.moved hW.alike hK9, hD9⟩⟩, hS.F ht⟩) hS.2.2 dX3_strength_27
  · have t_2 : n_pa.toInt < (1 : Int) := i_nle (by decide) rfl c_1
    refine lv_iconst (v := 0) hx hb dX3_strength_8 (by decide) ?_
    refine lv_goto (tgt := 27) hx hb dX3_strength_9 (by decide) ?_
    refine W.widen (k := 0) (n := 0) (Nat.le_of_ble_eq_true rfl) (Nat.le_of_ble_eq_true rfl) ?_
    have hP9 := hP.sub (ws' := [(h0, .inr (3, [.long n_su, .int n_pa, .int n_he, .int n_mi, .int n_wo]))]) [0] rfl
    have hD9 := hD.sub (ws' := [(h0, .inr (3, [.long n_su, .int n_pa, .int n_he, .int n_mi, .int n_wo]))]) [0] (by decide) rfl
    have hK9 := hK.sub (tys' := []) [] rfl
    exact W.iret (v := 0) hx hb hr (fun t ht hW => ⟨⟨0, (), rfl, (lg_X3_strength_2 n_pa t_2), ⟨by rw [ht]; exact hP9, va_K.moved hW.alike hK9, hD9⟩⟩, hS.F ht⟩) hS.2.2 dX3_strength_27

theorem lg_X3_isBurnt_0 (r_1 : Int32) (h_2 : True) (t_4 : r_1.toInt < (900 : Int)) : True := by
  have := rg_rng r_1; trivial
theorem lg_X3_isBurnt_1 (r_1 : Int32) (h_2 : True) (t_4 : (900 : Int) ≤ r_1.toInt) : True := by
  have := rg_rng r_1; trivial
set_option maxHeartbeats 4000000 in
set_option maxRecDepth 100000 in
theorem kX3_isBurnt (l : Launch) (dC : Nat → ClassId) (dI : Nat → Nat → Nat) (sz : Nat) (h0 : Nat) (n_su : Int64) (n_pa : Int32) (n_he : Int32) (n_mi : Int32) (n_wo : Int32) : Met l yX3_isBurnt (Cond.code yX3_isBurnt cX3_isBurnt 1 (some .boolean) :: bg) ({ frames := 1, cells := 0, slots := 0, locals := 20 }) (pcW dC dI [.ref h0] sz [(h0, .inr (3, [.long n_su, .int n_pa, .int n_he, .int n_mi, .int n_wo]))] []) (va_Qi (fun (r : Int32) (u : Unit) => (r = 1 ∧ True) ∨ (r = 0 ∧ True)) (fun (u : Unit) (t : State) => va_P (dC, dI) vwCl [(h0, .inr (3, [.long n_su, .int n_pa, .int n_he, .int n_mi, .int n_wo]))] t.heap ∧ va_K (dC, dI) vwCl [] t ∧ va_D (va_A [(h0, .inr (3, [.long n_su, .int n_pa, .int n_he, .int n_mi, .int n_wo]))] sz) [(h0, .inr (3, [.long n_su, .int n_pa, .int n_he, .int n_mi, .int n_wo]))]) (va_A [(h0, .inr (3, [.long n_su, .int n_pa, .int n_he, .int n_mi, .int n_wo]))] sz)) 0 0 (va_A [(h0, .inr (3, [.long n_su, .int n_pa, .int n_he, .int n_mi, .int n_wo]))] sz) := by
  refine Met.ofW (cc := cX3_isBurnt) (maxL := 1) (ret := (some .boolean)) pnX3 rfl ?_
  intro p e s m args below meth c s₁ B hml hv
  obtain ⟨rfl, hsz, hP, hK, hD0, hN⟩ := hv
  have hx := B.exec
  have hb := B.bytes
  have hr := B.returns
  have htb : ∀ w ∈ bg, w.before [.ref h0].toArray s = true := fun w h => atoms_spec (ws := Cond.code yX3_isBurnt cX3_isBurnt 1 (some .boolean) :: bg) B.pre w (List.mem_cons_of_mem _ h)
  have hown : s.vm.findClass RX3 = some m.cls := findClass_of_methodNamed B.named
  have hlocks := B.notSynchronized
  subst hsz
  have hD := hD0.self (sz := s.heap.size)
  generalize hAe : va_A [(h0, .inr (3, [.long n_su, .int n_pa, .int n_he, .int n_mi, .int n_wo]))] s.heap.size = A at hD ⊢
  have hA : ∀ q : Nat, s.heap.size ≤ q → A q := fun q h => by rw [← hAe]; exact Or.inr h
  have hS : va_S A s.heap s.heap [] := va_S.rf
  have hl := lv_entry ([.ref h0]) (n := 1) (Nat.le_of_ble_eq_true rfl)
  rw [lg_entry_eq]
  generalize (lg_sl ([.ref h0]) ++ List.replicate (1 - (lg_sl ([.ref h0])).length) Slot.unset).toArray = ls at hl ⊢
  change lv_has ls 1 [(0, .ref h0)] at hl
  clear hD0 hAe
  refine go0 (wsP := fun H => va_P (dC, dI) vwCl [(h0, .inr (3, [.long n_su, .int n_pa, .int n_he, .int n_mi, .int n_wo]))] H) hP hS ?_
  clear hP hS; intro H locs hP hS
  change va_P (dC, dI) vwCl [(h0, .inr (3, [.long n_su, .int n_pa, .int n_he, .int n_mi, .int n_wo]))] H at hP
  refine lv_aload_n hx hb dX3_isBurnt_0 rfl (lv_at hl 0 rfl) ?_
  have hPc := hP.sub (ws' := [(h0, .inr (3, [.long n_su, .int n_pa, .int n_he, .int n_mi, .int n_wo]))]) [0] rfl
  have hDc := hD.sub (ws' := [(h0, .inr (3, [.long n_su, .int n_pa, .int n_he, .int n_mi, .int n_wo]))]) [0] (by decide) rfl
  have hKc := hK.sub (tys' := []) [] rfl
  have hFc := va_free (wc := [(h0, .inr (3, [.long n_su, .int n_pa, .int n_he, .int n_mi, .int n_wo]))]) hD hS hA [0] rfl
  refine va_calli (va_runV (C := RX3) (As := []) (rest := []) ⟨hx, hb, hml, hown, htb⟩ (kX3_strength l dC dI H.size h0 n_su n_pa n_he n_mi n_wo ) ⟨callB_of 0 htb (gd_c m_650) rfl rfl rfl (htb _ m_7) (htb _ m_679) hdX3_strength ⟨(Nat.le_of_ble_eq_true rfl), (Nat.le_of_ble_eq_true rfl)⟩, htb _ m_648, htb _ m_649⟩ ⟨pcW_blind, va_recv hKc hPc (ci := 3) (q0 := 0) rfl rfl, pcW_at hPc hKc hDc hN⟩ rfl rfl hl.1 rfl (lv_room (Nat.le_of_ble_eq_true rfl)) dX3_isBurnt_1 ⟨(Nat.le_of_ble_eq_true rfl), (Nat.le_of_ble_eq_true rfl)⟩) hS (fun q _ h => hFc q h) hFc (fun r_1 u t H1 locs1 ht hvm h_2 hB hz1 hk1 hS1 => ?_)
  obtain ⟨hP1, hK1, hD1⟩ := hB
  rw [ht] at hP1
  obtain ⟨hPn, hDn⟩ := va_join (wr := []) (w1 := [(h0, .inr (3, [.long n_su, .int n_pa, .int n_he, .int n_mi, .int n_wo]))]) hP hD [0] [] rfl rfl (by decide) (by decide) hk1 hFc hP1 hD1
  clear hP1 hD1 hK1
  clear hP hD hS hPc hDc hKc hFc hk1 hz1 ht hvm
  clear t
  revert hS1 hPn hDn; generalize H1 = H; generalize locs1 = locs; intro hS hP hD
  change va_P (dC, dI) vwCl [(h0, .inr (3, [.long n_su, .int n_pa, .int n_he, .int n_mi, .int n_wo]))] H at hP
  change va_D A [(h0, .inr (3, [.long n_su, .int n_pa, .int n_he, .int n_mi, .int n_wo]))] at hD
  refine lv_sipush (v := 900) hx hb dX3_isBurnt_4 (by decide) ?_
  refine lv_icmp_lt (tgt := 14) hx hb dX3_isBurnt_7 (by decide) (fun c_3 => ?_) (fun c_3 => ?_)
  · have t_4 : r_1.toInt < (900 : Int) := i_lt rfl (by decide) c_3
    refine lv_iconst (v := 0) hx hb dX3_isBurnt_14 (by decide) ?_
    refine W.widen (k := 0) (n := 0) (Nat.le_of_ble_eq_true rfl) (Nat.le_of_ble_eq_true rfl) ?_
    have hP9 := hP.sub (ws' := [(h0, .inr (3, [.long n_su, .int n_pa, .int n_he, .int n_mi, .int n_wo]))]) [0] rfl
    have hD9 := hD.sub (ws' := [(h0, .inr (3, [.long n_su, .int n_pa, .int n_he, .int n_mi, .int n_wo]))]) [0] (by decide) rfl
    have hK9 := hK.sub (tys' := []) [] rfl
    exact W.zret (ty := .boolean) (v := 0) hx hb hr rfl (fun t ht hW => ⟨⟨0, (), rfl, (Or.inr (⟨rfl, (lg_X3_isBurnt_0 r_1 h_2 t_4)⟩)), ⟨by rw [ht]; exact hP9, va_K.moved hW.alike hK9, hD9⟩⟩, hS.F ht⟩) hS.2.2 dX3_isBurnt_15
  · have t_4 : (900 : Int) ≤ r_1.toInt := i_nlt rfl (by decide) c_3
    refine lv_iconst (v := 1) hx hb dX3_isBurnt_10 (by decide) ?_
    refine lv_goto (tgt := 15) hx hb dX3_isBurnt_11 (by decide) ?_
    refine W.widen (k := 0) (n := 0) (Nat.le_of_ble_eq_true rfl) (Nat.le_of_ble_eq_true rfl) ?_
    have hP9 := hP.sub (ws' := [(h0, .inr (3, [.long n_su, .int n_pa, .int n_he, .int n_mi, .int n_wo]))]) [0] rfl
    have hD9 := hD.sub (ws' := [(h0, .inr (3, [.long n_su, .int n_pa, .int n_he, .int n_mi, .int n_wo]))]) [0] (by decide) rfl
    have hK9 := hK.sub (tys' := []) [] rfl
    exact W.zret (ty := .boolean) (v := 1) hx hb hr rfl (fun t ht hW => ⟨⟨1, (), rfl, (Or.inl ⟨rfl, (lg_X3_isBurnt_1 r_1 h_2 t_4)⟩), ⟨by rw [ht]; exact hP9, va_K.moved hW.alike hK9, hD9⟩⟩, hS.F ht⟩) hS.2.2 dX3_isBurnt_15

set_option maxHeartbeats 4000000 in
set_option maxRecDepth 100000 in
theorem kX3_boilMinute (l : Launch) (dC : Nat → ClassId) (dI : Nat → Nat → Nat) (sz : Nat) (h0 : Nat) (n_su : Int64) (n_pa : Int32) (n_he : Int32) (n_mi : Int32) (n_wo : Int32) : Met l yX3_boilMinute (Cond.code yX3_boilMinute cX3_boilMinute 2 none :: bg) ({ frames := 1, cells := 0, slots := 0, locals := 16 }) (pcW dC dI [.ref h0] sz [(h0, .inr (3, [.long n_su, .int n_pa, .int n_he, .int n_mi, .int n_wo]))] []) (va_Qv (fun (u : Unit) => True) (fun (u : Unit) (t : State) => ∃ (w_su : Int64) (w_pa : Int32) (w_he : Int32) (w_mi : Int32) (w_wo : Int32), va_P (dC, dI) vwCl [(h0, .inr (3, [.long w_su, .int w_pa, .int w_he, .int w_mi, .int w_wo]))] t.heap ∧ va_K (dC, dI) vwCl [] t ∧ va_D (va_A [(h0, .inr (3, [.long n_su, .int n_pa, .int n_he, .int n_mi, .int n_wo]))] sz) [(h0, .inr (3, [.long w_su, .int w_pa, .int w_he, .int w_mi, .int w_wo]))]) (va_A [(h0, .inr (3, [.long n_su, .int n_pa, .int n_he, .int n_mi, .int n_wo]))] sz)) 0 0 (va_A [(h0, .inr (3, [.long n_su, .int n_pa, .int n_he, .int n_mi, .int n_wo]))] sz) := by
  refine Met.ofW (cc := cX3_boilMinute) (maxL := 2) (ret := none) pnX3 rfl ?_
  intro p e s m args below meth c s₁ B hml hv
  obtain ⟨rfl, hsz, hP, hK, hD0, hN⟩ := hv
  have hx := B.exec
  have hb := B.bytes
  have hr := B.returns
  have htb : ∀ w ∈ bg, w.before [.ref h0].toArray s = true := fun w h => atoms_spec (ws := Cond.code yX3_boilMinute cX3_boilMinute 2 none :: bg) B.pre w (List.mem_cons_of_mem _ h)
  have hown : s.vm.findClass RX3 = some m.cls := findClass_of_methodNamed B.named
  have hlocks := B.notSynchronized
  subst hsz
  have hD := hD0.self (sz := s.heap.size)
  generalize hAe : va_A [(h0, .inr (3, [.long n_su, .int n_pa, .int n_he, .int n_mi, .int n_wo]))] s.heap.size = A at hD ⊢
  have hA : ∀ q : Nat, s.heap.size ≤ q → A q := fun q h => by rw [← hAe]; exact Or.inr h
  have hS : va_S A s.heap s.heap [] := va_S.rf
  have hl := lv_entry ([.ref h0]) (n := 2) (Nat.le_of_ble_eq_true rfl)
  rw [lg_entry_eq]
  generalize (lg_sl ([.ref h0]) ++ List.replicate (2 - (lg_sl ([.ref h0])).length) Slot.unset).toArray = ls at hl ⊢
  change lv_has ls 2 [(0, .ref h0)] at hl
  clear hD0 hAe
  refine go0 (wsP := fun H => va_P (dC, dI) vwCl [(h0, .inr (3, [.long n_su, .int n_pa, .int n_he, .int n_mi, .int n_wo]))] H) hP hS ?_
  clear hP hS; intro H locs hP hS
  change va_P (dC, dI) vwCl [(h0, .inr (3, [.long n_su, .int n_pa, .int n_he, .int n_mi, .int n_wo]))] H at hP
  refine lv_aload_n hx hb dX3_boilMinute_0 rfl (lv_at hl 0 rfl) ?_
  refine va_get (D := (dC, dI)) (ci := 3) (v := .int n_wo) (C := RX3) (T := TX3) (N := 5) hx hb htb iX3 hown hK hP 0 rfl rfl 4 (Nat.le_of_ble_eq_true rfl) (htb _ m_169) (fun _ h9 => h9) rfl dX3_boilMinute_1 ?_
  refine lv_aload_n hx hb dX3_boilMinute_4 rfl (lv_at hl 0 rfl) ?_
  refine va_get (D := (dC, dI)) (ci := 3) (v := .int n_he) (C := RX3) (T := TX3) (N := 5) hx hb htb iX3 hown hK hP 0 rfl rfl 2 (Nat.le_of_ble_eq_true rfl) (htb _ m_165) (fun _ h9 => h9) rfl dX3_boilMinute_5 ?_
  refine lv_icmp_ge (tgt := 15) hx hb dX3_boilMinute_8 (by decide) (fun c_1 => ?_) (fun c_1 => ?_)
  · have t_2 : n_he.toInt ≤ n_wo.toInt := i_le rfl rfl c_1
    refine lv_aload_n hx hb dX3_boilMinute_15 rfl (lv_at hl 0 rfl) ?_
    refine va_get (D := (dC, dI)) (ci := 3) (v := .int n_he) (C := RX3) (T := TX3) (N := 5) hx hb htb iX3 hown hK hP 0 rfl rfl 2 (Nat.le_of_ble_eq_true rfl) (htb _ m_165) (fun _ h9 => h9) rfl dX3_boilMinute_16 ?_
    refine lv_istore_n (lv' := [(1, .int n_he), (0, .ref h0)]) hx hb dX3_boilMinute_19 rfl hl (by decide) rfl ?_
    clear hl; intro ls hl
    refine lv_aload_n hx hb dX3_boilMinute_20 rfl (lv_at hl 1 rfl) ?_
    refine lv_dup hx hb dX3_boilMinute_21 rfl ?_
    refine va_get (D := (dC, dI)) (ci := 3) (v := .int n_wo) (C := RX3) (T := TX3) (N := 5) hx hb htb iX3 hown hK hP 0 rfl rfl 4 (Nat.le_of_ble_eq_true rfl) (htb _ m_169) (fun _ h9 => h9) rfl dX3_boilMinute_22 ?_
    refine lv_iload_n hx hb dX3_boilMinute_25 rfl (lv_at hl 0 rfl) ?_
    refine lv_isub hx hb dX3_boilMinute_26 ?_
    refine lv_topi (fun x_3 ex_4 => ?_)
    refine va_put (D := (dC, dI)) (ci := 3) (v := .int x_3) (C := RX3) (T := TX3) (N := 5) hx hb htb iX3 tyX3 tyX3_ok nmX3 hown hK hP hD hS 0 rfl rfl 4 (Nat.le_of_ble_eq_true rfl) (htb _ m_169) (fun _ h9 => h9) rfl (tyX3_ok 4 (Nat.le_of_ble_eq_true rfl)) rfl rfl (Nat.le_of_ble_eq_true rfl) dX3_boilMinute_27 ?_
    clear hP hD hS; intro H locs hP hD hS
    change va_P (dC, dI) vwCl [(h0, .inr (3, [.long n_su, .int n_pa, .int n_he, .int n_mi, .int x_3]))] H at hP
    change va_D A [(h0, .inr (3, [.long n_su, .int n_pa, .int n_he, .int n_mi, .int x_3]))] at hD
    refine lv_aload_n hx hb dX3_boilMinute_30 rfl (lv_at hl 1 rfl) ?_
    refine lv_dup hx hb dX3_boilMinute_31 rfl ?_
    refine va_get (D := (dC, dI)) (ci := 3) (v := .int n_pa) (C := RX3) (T := TX3) (N := 5) hx hb htb iX3 hown hK hP 0 rfl rfl 1 (Nat.le_of_ble_eq_true rfl) (htb _ m_163) (fun _ h9 => h9) rfl dX3_boilMinute_32 ?_
    refine lv_iconst (v := 0) hx hb dX3_boilMinute_35 (by decide) ?_
    refine lv_iload_n hx hb dX3_boilMinute_36 rfl (lv_at hl 0 rfl) ?_
    refine lv_iconst (v := 4) hx hb dX3_boilMinute_37 (by decide) ?_
    refine lv_imul hx hb dX3_boilMinute_38 ?_
    refine lv_topi (fun x_6 ex_7 => ?_)
    refine lv_aload_n hx hb dX3_boilMinute_39 rfl (lv_at hl 1 rfl) ?_
    refine va_get (D := (dC, dI)) (ci := 3) (v := .int n_pa) (C := RX3) (T := TX3) (N := 5) hx hb htb iX3 hown hK hP 0 rfl rfl 1 (Nat.le_of_ble_eq_true rfl) (htb _ m_163) (fun _ h9 => h9) rfl dX3_boilMinute_40 ?_
    refine lv_iconst (v := 1) hx hb dX3_boilMinute_43 (by decide) ?_
    refine lv_isub hx hb dX3_boilMinute_44 ?_
    refine lv_topi (fun x_9 ex_10 => ?_)
    refine va_mmin hx hb (hml.trans hl.1.symm) hown (htb _ m_692) (htb _ m_408) (htb _ m_14) (htb _ m_409) (Nat.le_of_ble_eq_true rfl) (Nat.le_of_ble_eq_true rfl) (Nat.le_of_ble_eq_true rfl) (Nat.le_of_ble_eq_true rfl) dX3_boilMinute_45 ?_
    refine lv_topi (fun x_12 ex_13 => ?_)
    refine va_mmax hx hb (hml.trans hl.1.symm) hown (htb _ m_693) (htb _ m_436) (htb _ m_14) (htb _ m_437) (Nat.le_of_ble_eq_true rfl) (Nat.le_of_ble_eq_true rfl) (Nat.le_of_ble_eq_true rfl) (Nat.le_of_ble_eq_true rfl) dX3_boilMinute_48 ?_
    refine lv_topi (fun x_15 ex_16 => ?_)
    refine lv_isub hx hb dX3_boilMinute_51 ?_
    refine lv_topi (fun x_18 ex_19 => ?_)
    refine va_put (D := (dC, dI)) (ci := 3) (v := .int x_18) (C := RX3) (T := TX3) (N := 5) hx hb htb iX3 tyX3 tyX3_ok nmX3 hown hK hP hD hS 0 rfl rfl 1 (Nat.le_of_ble_eq_true rfl) (htb _ m_163) (fun _ h9 => h9) rfl (tyX3_ok 1 (Nat.le_of_ble_eq_true rfl)) rfl rfl (Nat.le_of_ble_eq_true rfl) dX3_boilMinute_52 ?_
    clear hP hD hS; intro H locs hP hD hS
    change va_P (dC, dI) vwCl [(h0, .inr (3, [.long n_su, .int x_18, .int n_he, .int n_mi, .int x_3]))] H at hP
    change va_D A [(h0, .inr (3, [.long n_su, .int x_18, .int n_he, .int n_mi, .int x_3]))] at hD
    refine lv_aload_n hx hb dX3_boilMinute_55 rfl (lv_at hl 1 rfl) ?_
    refine lv_dup hx hb dX3_boilMinute_56 rfl ?_
    refine va_get (D := (dC, dI)) (ci := 3) (v := .int n_mi) (C := RX3) (T := TX3) (N := 5) hx hb htb iX3 hown hK hP 0 rfl rfl 3 (Nat.le_of_ble_eq_true rfl) (htb _ m_167) (fun _ h9 => h9) rfl dX3_boilMinute_57 ?_
    refine lv_iconst (v := 1) hx hb dX3_boilMinute_60 (by decide) ?_
    refine lv_iadd hx hb dX3_boilMinute_61 ?_
    refine lv_topi (fun x_21 ex_22 => ?_)
    refine va_put (D := (dC, dI)) (ci := 3) (v := .int x_21) (C := RX3) (T := TX3) (N := 5) hx hb htb iX3 tyX3 tyX3_ok nmX3 hown hK hP hD hS 0 rfl rfl 3 (Nat.le_of_ble_eq_true rfl) (htb _ m_167) (fun _ h9 => h9) rfl (tyX3_ok 3 (Nat.le_of_ble_eq_true rfl)) rfl rfl (Nat.le_of_ble_eq_true rfl) dX3_boilMinute_62 ?_
    clear hP hD hS; intro H locs hP hD hS
    change va_P (dC, dI) vwCl [(h0, .inr (3, [.long n_su, .int x_18, .int n_he, .int x_21, .int x_3]))] H at hP
    change va_D A [(h0, .inr (3, [.long n_su, .int x_18, .int n_he, .int x_21, .int x_3]))] at hD
    refine W.widen (k := 0) (n := 0) (Nat.le_of_ble_eq_true rfl) (Nat.le_of_ble_eq_true rfl) ?_
    have hP9 := hP.sub (ws' := [(h0, .inr (3, [.long n_su, .int x_18, .int n_he, .int x_21, .int x_3]))]) [0] rfl
    have hD9 := hD.sub (ws' := [(h0, .inr (3, [.long n_su, .int x_18, .int n_he, .int x_21, .int x_3]))]) [0] (by decide) rfl
    have hK9 := hK.sub (tys' := []) [] rfl
    exact W.vret hx hb hr (fun t ht hW => ⟨⟨(), rfl, trivial, ⟨n_su, x_18, n_he, x_21, x_3, by rw [ht]; exact hP9, va_K.moved hW.alike hK9, hD9⟩⟩, hS.F ht⟩) hS.2.2 dX3_boilMinute_65
  · have t_2 : n_wo.toInt < n_he.toInt := i_nle rfl rfl c_1
    refine lv_iconst (v := 0) hx hb dX3_boilMinute_11 (by decide) ?_
    refine lv_goto (tgt := 19) hx hb dX3_boilMinute_12 (by decide) ?_
    refine lv_istore_n (lv' := [(1, .int 0), (0, .ref h0)]) hx hb dX3_boilMinute_19 rfl hl (by decide) rfl ?_
    clear hl; intro ls hl
    refine lv_aload_n hx hb dX3_boilMinute_20 rfl (lv_at hl 1 rfl) ?_
    refine lv_dup hx hb dX3_boilMinute_21 rfl ?_
    refine va_get (D := (dC, dI)) (ci := 3) (v := .int n_wo) (C := RX3) (T := TX3) (N := 5) hx hb htb iX3 hown hK hP 0 rfl rfl 4 (Nat.le_of_ble_eq_true rfl) (htb _ m_169) (fun _ h9 => h9) rfl dX3_boilMinute_22 ?_
    refine lv_iload_n hx hb dX3_boilMinute_25 rfl (lv_at hl 0 rfl) ?_
    refine lv_isub hx hb dX3_boilMinute_26 ?_
    refine lv_topi (fun x_24 ex_25 => ?_)
    refine va_put (D := (dC, dI)) (ci := 3) (v := .int x_24) (C := RX3) (T := TX3) (N := 5) hx hb htb iX3 tyX3 tyX3_ok nmX3 hown hK hP hD hS 0 rfl rfl 4 (Nat.le_of_ble_eq_true rfl) (htb _ m_169) (fun _ h9 => h9) rfl (tyX3_ok 4 (Nat.le_of_ble_eq_true rfl)) rfl rfl (Nat.le_of_ble_eq_true rfl) dX3_boilMinute_27 ?_
    clear hP hD hS; intro H locs hP hD hS
    change va_P (dC, dI) vwCl [(h0, .inr (3, [.long n_su, .int n_pa, .int n_he, .int n_mi, .int x_24]))] H at hP
    change va_D A [(h0, .inr (3, [.long n_su, .int n_pa, .int n_he, .int n_mi, .int x_24]))] at hD
    refine lv_aload_n hx hb dX3_boilMinute_30 rfl (lv_at hl 1 rfl) ?_
    refine lv_dup hx hb dX3_boilMinute_31 rfl ?_
    refine va_get (D := (dC, dI)) (ci := 3) (v := .int n_pa) (C := RX3) (T := TX3) (N := 5) hx hb htb iX3 hown hK hP 0 rfl rfl 1 (Nat.le_of_ble_eq_true rfl) (htb _ m_163) (fun _ h9 => h9) rfl dX3_boilMinute_32 ?_
    refine lv_iconst (v := 0) hx hb dX3_boilMinute_35 (by decide) ?_
    refine lv_iload_n hx hb dX3_boilMinute_36 rfl (lv_at hl 0 rfl) ?_
    refine lv_iconst (v := 4) hx hb dX3_boilMinute_37 (by decide) ?_
    refine lv_imul hx hb dX3_boilMinute_38 ?_
    refine lv_tope (y := 0) (by decide) ?_
    refine lv_aload_n hx hb dX3_boilMinute_39 rfl (lv_at hl 1 rfl) ?_
    refine va_get (D := (dC, dI)) (ci := 3) (v := .int n_pa) (C := RX3) (T := TX3) (N := 5) hx hb htb iX3 hown hK hP 0 rfl rfl 1 (Nat.le_of_ble_eq_true rfl) (htb _ m_163) (fun _ h9 => h9) rfl dX3_boilMinute_40 ?_
    refine lv_iconst (v := 1) hx hb dX3_boilMinute_43 (by decide) ?_
    refine lv_isub hx hb dX3_boilMinute_44 ?_
    refine lv_topi (fun x_27 ex_28 => ?_)
    refine va_mmin hx hb (hml.trans hl.1.symm) hown (htb _ m_692) (htb _ m_408) (htb _ m_14) (htb _ m_409) (Nat.le_of_ble_eq_true rfl) (Nat.le_of_ble_eq_true rfl) (Nat.le_of_ble_eq_true rfl) (Nat.le_of_ble_eq_true rfl) dX3_boilMinute_45 ?_
    refine lv_topi (fun x_30 ex_31 => ?_)
    refine va_mmax hx hb (hml.trans hl.1.symm) hown (htb _ m_693) (htb _ m_436) (htb _ m_14) (htb _ m_437) (Nat.le_of_ble_eq_true rfl) (Nat.le_of_ble_eq_true rfl) (Nat.le_of_ble_eq_true rfl) (Nat.le_of_ble_eq_true rfl) dX3_boilMinute_48 ?_
    refine lv_topi (fun x_33 ex_34 => ?_)
    refine lv_isub hx hb dX3_boilMinute_51 ?_
    refine lv_topi (fun x_36 ex_37 => ?_)
    refine va_put (D := (dC, dI)) (ci := 3) (v := .int x_36) (C := RX3) (T := TX3) (N := 5) hx hb htb iX3 tyX3 tyX3_ok nmX3 hown hK hP hD hS 0 rfl rfl 1 (Nat.le_of_ble_eq_true rfl) (htb _ m_163) (fun _ h9 => h9) rfl (tyX3_ok 1 (Nat.le_of_ble_eq_true rfl)) rfl rfl (Nat.le_of_ble_eq_true rfl) dX3_boilMinute_52 ?_
    clear hP hD hS; intro H locs hP hD hS
    change va_P (dC, dI) vwCl [(h0, .inr (3, [.long n_su, .int x_36, .int n_he, .int n_mi, .int x_24]))] H at hP
    change va_D A [(h0, .inr (3, [.long n_su, .int x_36, .int n_he, .int n_mi, .int x_24]))] at hD
    refine lv_aload_n hx hb dX3_boilMinute_55 rfl (lv_at hl 1 rfl) ?_
    refine lv_dup hx hb dX3_boilMinute_56 rfl ?_
    refine va_get (D := (dC, dI)) (ci := 3) (v := .int n_mi) (C := RX3) (T := TX3) (N := 5) hx hb htb iX3 hown hK hP 0 rfl rfl 3 (Nat.le_of_ble_eq_true rfl) (htb _ m_167) (fun _ h9 => h9) rfl dX3_boilMinute_57 ?_
    refine lv_iconst (v := 1) hx hb dX3_boilMinute_60 (by decide) ?_
    refine lv_iadd hx hb dX3_boilMinute_61 ?_
    refine lv_topi (fun x_39 ex_40 => ?_)
    refine va_put (D := (dC, dI)) (ci := 3) (v := .int x_39) (C := RX3) (T := TX3) (N := 5) hx hb htb iX3 tyX3 tyX3_ok nmX3 hown hK hP hD hS 0 rfl rfl 3 (Nat.le_of_ble_eq_true rfl) (htb _ m_167) (fun _ h9 => h9) rfl (tyX3_ok 3 (Nat.le_of_ble_eq_true rfl)) rfl rfl (Nat.le_of_ble_eq_true rfl) dX3_boilMinute_62 ?_
    clear hP hD hS; intro H locs hP hD hS
    change va_P (dC, dI) vwCl [(h0, .inr (3, [.long n_su, .int x_36, .int n_he, .int x_39, .int x_24]))] H at hP
    change va_D A [(h0, .inr (3, [.long n_su, .int x_36, .int n_he, .int x_39, .int x_24]))] at hD
    refine W.widen (k := 0) (n := 0) (Nat.le_of_ble_eq_true rfl) (Nat.le_of_ble_eq_true rfl) ?_
    have hP9 := hP.sub (ws' := [(h0, .inr (3, [.long n_su, .int x_36, .int n_he, .int x_39, .int x_24]))]) [0] rfl
    have hD9 := hD.sub (ws' := [(h0, .inr (3, [.long n_su, .int x_36, .int n_he, .int x_39, .int x_24]))]) [0] (by decide) rfl
    have hK9 := hK.sub (tys' := []) [] rfl
    exact W.vret hx hb hr (fun t ht hW => ⟨⟨(), rfl, trivial, ⟨n_su, x_36, n_he, x_39, x_24, by rw [ht]; exact hP9, va_K.moved hW.alike hK9, hD9⟩⟩, hS.F ht⟩) hS.2.2 dX3_boilMinute_65

theorem lg_X3_tell_0 (v1 : Int32) (e_1 : v1 = 0) : True := by
  trivial
theorem lg_X3_tell_1 (v1 : Int32) (e_1 : ¬ v1 = 0) (e_2 : v1 = 1) (h_4 : True) : True := by
  trivial
theorem lg_X3_tell_2 (v1 : Int32) (e_1 : ¬ v1 = 0) (e_2 : ¬ v1 = 1) (e_5 : v1 = 2) : True := by
  trivial
theorem lg_X3_tell_3 (v1 : Int32) (e_1 : ¬ v1 = 0) (e_2 : ¬ v1 = 1) (e_5 : ¬ v1 = 2) (e_6 : v1 = 3) : True := by
  trivial
theorem lg_X3_tell_4 (v1 : Int32) (e_1 : ¬ v1 = 0) (e_2 : ¬ v1 = 1) (e_5 : ¬ v1 = 2) (e_6 : ¬ v1 = 3) (e_7 : v1 = 4) (h_9 : True) : True := by
  trivial
theorem lg_X3_tell_5 (v1 : Int32) (e_1 : ¬ v1 = 0) (e_2 : ¬ v1 = 1) (e_5 : ¬ v1 = 2) (e_6 : ¬ v1 = 3) (e_7 : ¬ v1 = 4) (e_12 : v1 = 5) : True := by
  trivial
theorem lg_X3_tell_6 (v1 : Int32) (e_1 : ¬ v1 = 0) (e_2 : ¬ v1 = 1) (e_5 : ¬ v1 = 2) (e_6 : ¬ v1 = 3) (e_7 : ¬ v1 = 4) (e_12 : ¬ v1 = 5) : True := by
  trivial
set_option maxHeartbeats 4000000 in
set_option maxRecDepth 100000 in
theorem kX3_tell (l : Launch) (dC : Nat → ClassId) (dI : Nat → Nat → Nat) (sz : Nat) (h0 : Nat) (n_su : Int64) (n_pa : Int32) (n_he : Int32) (n_mi : Int32) (n_wo : Int32) (v1 : Int32) : Met l yX3_tell (Cond.code yX3_tell cX3_tell 2 (some .int) :: bg) ({ frames := 2, cells := 0, slots := 0, locals := 40 }) (pcW dC dI [.ref h0, .int v1] sz [(h0, .inr (3, [.long n_su, .int n_pa, .int n_he, .int n_mi, .int n_wo]))] []) (va_Qi (fun (r : Int32) (u : Unit) => True) (fun (u : Unit) (t : State) => va_P (dC, dI) vwCl [(h0, .inr (3, [.long n_su, .int n_pa, .int n_he, .int n_mi, .int n_wo]))] t.heap ∧ va_K (dC, dI) vwCl [] t ∧ va_D (va_A [(h0, .inr (3, [.long n_su, .int n_pa, .int n_he, .int n_mi, .int n_wo]))] sz) [(h0, .inr (3, [.long n_su, .int n_pa, .int n_he, .int n_mi, .int n_wo]))]) (va_A [(h0, .inr (3, [.long n_su, .int n_pa, .int n_he, .int n_mi, .int n_wo]))] sz)) 0 0 (va_A [(h0, .inr (3, [.long n_su, .int n_pa, .int n_he, .int n_mi, .int n_wo]))] sz) := by
  refine Met.ofW (cc := cX3_tell) (maxL := 2) (ret := (some .int)) pnX3 rfl ?_
  intro p e s m args below meth c s₁ B hml hv
  obtain ⟨rfl, hsz, hP, hK, hD0, hN⟩ := hv
  have hx := B.exec
  have hb := B.bytes
  have hr := B.returns
  have htb : ∀ w ∈ bg, w.before [.ref h0, .int v1].toArray s = true := fun w h => atoms_spec (ws := Cond.code yX3_tell cX3_tell 2 (some .int) :: bg) B.pre w (List.mem_cons_of_mem _ h)
  have hown : s.vm.findClass RX3 = some m.cls := findClass_of_methodNamed B.named
  have hlocks := B.notSynchronized
  subst hsz
  have hD := hD0.self (sz := s.heap.size)
  generalize hAe : va_A [(h0, .inr (3, [.long n_su, .int n_pa, .int n_he, .int n_mi, .int n_wo]))] s.heap.size = A at hD ⊢
  have hA : ∀ q : Nat, s.heap.size ≤ q → A q := fun q h => by rw [← hAe]; exact Or.inr h
  have hS : va_S A s.heap s.heap [] := va_S.rf
  have hl := lv_entry ([.ref h0, .int v1]) (n := 2) (Nat.le_of_ble_eq_true rfl)
  rw [lg_entry_eq]
  generalize (lg_sl ([.ref h0, .int v1]) ++ List.replicate (2 - (lg_sl ([.ref h0, .int v1])).length) Slot.unset).toArray = ls at hl ⊢
  change lv_has ls 2 [(0, .ref h0), (1, .int v1)] at hl
  clear hD0 hAe
  refine go0 (wsP := fun H => va_P (dC, dI) vwCl [(h0, .inr (3, [.long n_su, .int n_pa, .int n_he, .int n_mi, .int n_wo]))] H) hP hS ?_
  clear hP hS; intro H locs hP hS
  change va_P (dC, dI) vwCl [(h0, .inr (3, [.long n_su, .int n_pa, .int n_he, .int n_mi, .int n_wo]))] H at hP
  refine lv_iload_n hx hb dX3_tell_0 rfl (lv_at hl 1 rfl) ?_
  by_cases e_1 : v1 = 0
  · refine lv_tableIn (tgt := 40) (off := 39) hx hb dX3_tell_1 (by rw [e_1]; decide) (by rw [e_1]; decide) (by rw [e_1]; rfl) (by decide) ?_
    refine lv_aload_n hx hb dX3_tell_40 rfl (lv_at hl 0 rfl) ?_
    refine va_get (D := (dC, dI)) (ci := 3) (v := .int n_pa) (C := RX3) (T := TX3) (N := 5) hx hb htb iX3 hown hK hP 0 rfl rfl 1 (Nat.le_of_ble_eq_true rfl) (htb _ m_163) (fun _ h9 => h9) rfl dX3_tell_41 ?_
    refine W.widen (k := 0) (n := 0) (Nat.le_of_ble_eq_true rfl) (Nat.le_of_ble_eq_true rfl) ?_
    have hP9 := hP.sub (ws' := [(h0, .inr (3, [.long n_su, .int n_pa, .int n_he, .int n_mi, .int n_wo]))]) [0] rfl
    have hD9 := hD.sub (ws' := [(h0, .inr (3, [.long n_su, .int n_pa, .int n_he, .int n_mi, .int n_wo]))]) [0] (by decide) rfl
    have hK9 := hK.sub (tys' := []) [] rfl
    exact W.iret (v := n_pa) hx hb hr (fun t ht hW => ⟨⟨n_pa, (), rfl, (lg_X3_tell_0 v1 e_1), ⟨by rw [ht]; exact hP9, va_K.moved hW.alike hK9, hD9⟩⟩, hS.F ht⟩) hS.2.2 dX3_tell_44
  by_cases e_2 : v1 = 1
  · refine lv_tableIn (tgt := 45) (off := 44) hx hb dX3_tell_1 (by rw [e_2]; decide) (by rw [e_2]; decide) (by rw [e_2]; rfl) (by decide) ?_
    refine lv_aload_n hx hb dX3_tell_45 rfl (lv_at hl 0 rfl) ?_
    have hPc := hP.sub (ws' := [(h0, .inr (3, [.long n_su, .int n_pa, .int n_he, .int n_mi, .int n_wo]))]) [0] rfl
    have hDc := hD.sub (ws' := [(h0, .inr (3, [.long n_su, .int n_pa, .int n_he, .int n_mi, .int n_wo]))]) [0] (by decide) rfl
    have hKc := hK.sub (tys' := []) [] rfl
    have hFc := va_free (wc := [(h0, .inr (3, [.long n_su, .int n_pa, .int n_he, .int n_mi, .int n_wo]))]) hD hS hA [0] rfl
    refine va_calli (va_runV (C := RX3) (As := []) (rest := []) ⟨hx, hb, hml, hown, htb⟩ (kX3_strength l dC dI H.size h0 n_su n_pa n_he n_mi n_wo ) ⟨callB_of 0 htb (gd_c m_650) rfl rfl rfl (htb _ m_7) (htb _ m_679) hdX3_strength ⟨(Nat.le_of_ble_eq_true rfl), (Nat.le_of_ble_eq_true rfl)⟩, htb _ m_648, htb _ m_649⟩ ⟨pcW_blind, va_recv hKc hPc (ci := 3) (q0 := 0) rfl rfl, pcW_at hPc hKc hDc hN⟩ rfl rfl hl.1 rfl (lv_room (Nat.le_of_ble_eq_true rfl)) dX3_tell_46 ⟨(Nat.le_of_ble_eq_true rfl), (Nat.le_of_ble_eq_true rfl)⟩) hS (fun q _ h => hFc q h) hFc (fun r_3 u t H1 locs1 ht hvm h_4 hB hz1 hk1 hS1 => ?_)
    obtain ⟨hP1, hK1, hD1⟩ := hB
    rw [ht] at hP1
    obtain ⟨hPn, hDn⟩ := va_join (wr := []) (w1 := [(h0, .inr (3, [.long n_su, .int n_pa, .int n_he, .int n_mi, .int n_wo]))]) hP hD [0] [] rfl rfl (by decide) (by decide) hk1 hFc hP1 hD1
    clear hP1 hD1 hK1
    clear hP hD hS hPc hDc hKc hFc hk1 hz1 ht hvm
    clear t
    revert hS1 hPn hDn; generalize H1 = H; generalize locs1 = locs; intro hS hP hD
    change va_P (dC, dI) vwCl [(h0, .inr (3, [.long n_su, .int n_pa, .int n_he, .int n_mi, .int n_wo]))] H at hP
    change va_D A [(h0, .inr (3, [.long n_su, .int n_pa, .int n_he, .int n_mi, .int n_wo]))] at hD
    refine W.widen (k := 0) (n := 0) (Nat.le_of_ble_eq_true rfl) (Nat.le_of_ble_eq_true rfl) ?_
    have hP9 := hP.sub (ws' := [(h0, .inr (3, [.long n_su, .int n_pa, .int n_he, .int n_mi, .int n_wo]))]) [0] rfl
    have hD9 := hD.sub (ws' := [(h0, .inr (3, [.long n_su, .int n_pa, .int n_he, .int n_mi, .int n_wo]))]) [0] (by decide) rfl
    have hK9 := hK.sub (tys' := []) [] rfl
    exact W.iret (v := r_3) hx hb hr (fun t ht hW => ⟨⟨r_3, (), rfl, (lg_X3_tell_1 v1 e_1 e_2 h_4), ⟨by rw [ht]; exact hP9, va_K.moved hW.alike hK9, hD9⟩⟩, hS.F ht⟩) hS.2.2 dX3_tell_49
  by_cases e_5 : v1 = 2
  · refine lv_tableIn (tgt := 50) (off := 49) hx hb dX3_tell_1 (by rw [e_5]; decide) (by rw [e_5]; decide) (by rw [e_5]; rfl) (by decide) ?_
    refine lv_aload_n hx hb dX3_tell_50 rfl (lv_at hl 0 rfl) ?_
    refine va_get (D := (dC, dI)) (ci := 3) (v := .int n_he) (C := RX3) (T := TX3) (N := 5) hx hb htb iX3 hown hK hP 0 rfl rfl 2 (Nat.le_of_ble_eq_true rfl) (htb _ m_165) (fun _ h9 => h9) rfl dX3_tell_51 ?_
    refine W.widen (k := 0) (n := 0) (Nat.le_of_ble_eq_true rfl) (Nat.le_of_ble_eq_true rfl) ?_
    have hP9 := hP.sub (ws' := [(h0, .inr (3, [.long n_su, .int n_pa, .int n_he, .int n_mi, .int n_wo]))]) [0] rfl
    have hD9 := hD.sub (ws' := [(h0, .inr (3, [.long n_su, .int n_pa, .int n_he, .int n_mi, .int n_wo]))]) [0] (by decide) rfl
    have hK9 := hK.sub (tys' := []) [] rfl
    exact W.iret (v := n_he) hx hb hr (fun t ht hW => ⟨⟨n_he, (), rfl, (lg_X3_tell_2 v1 e_1 e_2 e_5), ⟨by rw [ht]; exact hP9, va_K.moved hW.alike hK9, hD9⟩⟩, hS.F ht⟩) hS.2.2 dX3_tell_54
  by_cases e_6 : v1 = 3
  · refine lv_tableIn (tgt := 55) (off := 54) hx hb dX3_tell_1 (by rw [e_6]; decide) (by rw [e_6]; decide) (by rw [e_6]; rfl) (by decide) ?_
    refine lv_aload_n hx hb dX3_tell_55 rfl (lv_at hl 0 rfl) ?_
    refine va_get (D := (dC, dI)) (ci := 3) (v := .int n_mi) (C := RX3) (T := TX3) (N := 5) hx hb htb iX3 hown hK hP 0 rfl rfl 3 (Nat.le_of_ble_eq_true rfl) (htb _ m_167) (fun _ h9 => h9) rfl dX3_tell_56 ?_
    refine W.widen (k := 0) (n := 0) (Nat.le_of_ble_eq_true rfl) (Nat.le_of_ble_eq_true rfl) ?_
    have hP9 := hP.sub (ws' := [(h0, .inr (3, [.long n_su, .int n_pa, .int n_he, .int n_mi, .int n_wo]))]) [0] rfl
    have hD9 := hD.sub (ws' := [(h0, .inr (3, [.long n_su, .int n_pa, .int n_he, .int n_mi, .int n_wo]))]) [0] (by decide) rfl
    have hK9 := hK.sub (tys' := []) [] rfl
    exact W.iret (v := n_mi) hx hb hr (fun t ht hW => ⟨⟨n_mi, (), rfl, (lg_X3_tell_3 v1 e_1 e_2 e_5 e_6), ⟨by rw [ht]; exact hP9, va_K.moved hW.alike hK9, hD9⟩⟩, hS.F ht⟩) hS.2.2 dX3_tell_59
  by_cases e_7 : v1 = 4
  · refine lv_tableIn (tgt := 60) (off := 59) hx hb dX3_tell_1 (by rw [e_7]; decide) (by rw [e_7]; decide) (by rw [e_7]; rfl) (by decide) ?_
    refine lv_aload_n hx hb dX3_tell_60 rfl (lv_at hl 0 rfl) ?_
    have hPc := hP.sub (ws' := [(h0, .inr (3, [.long n_su, .int n_pa, .int n_he, .int n_mi, .int n_wo]))]) [0] rfl
    have hDc := hD.sub (ws' := [(h0, .inr (3, [.long n_su, .int n_pa, .int n_he, .int n_mi, .int n_wo]))]) [0] (by decide) rfl
    have hKc := hK.sub (tys' := []) [] rfl
    have hFc := va_free (wc := [(h0, .inr (3, [.long n_su, .int n_pa, .int n_he, .int n_mi, .int n_wo]))]) hD hS hA [0] rfl
    refine va_calli (va_runV (C := RX3) (As := []) (rest := []) ⟨hx, hb, hml, hown, htb⟩ (kX3_isBurnt l dC dI H.size h0 n_su n_pa n_he n_mi n_wo ) ⟨callB_of 0 htb (gd_c m_678) rfl rfl rfl (htb _ m_7) (htb _ m_702) hdX3_isBurnt ⟨(Nat.le_of_ble_eq_true rfl), (Nat.le_of_ble_eq_true rfl)⟩, htb _ m_676, htb _ m_677⟩ ⟨pcW_blind, va_recv hKc hPc (ci := 3) (q0 := 0) rfl rfl, pcW_at hPc hKc hDc hN⟩ rfl rfl hl.1 rfl (lv_room (Nat.le_of_ble_eq_true rfl)) dX3_tell_61 ⟨(Nat.le_of_ble_eq_true rfl), (Nat.le_of_ble_eq_true rfl)⟩) hS (fun q _ h => hFc q h) hFc (fun r_8 u t H1 locs1 ht hvm h_9 hB hz1 hk1 hS1 => ?_)
    obtain ⟨hP1, hK1, hD1⟩ := hB
    rw [ht] at hP1
    obtain ⟨hPn, hDn⟩ := va_join (wr := []) (w1 := [(h0, .inr (3, [.long n_su, .int n_pa, .int n_he, .int n_mi, .int n_wo]))]) hP hD [0] [] rfl rfl (by decide) (by decide) hk1 hFc hP1 hD1
    clear hP1 hD1 hK1
    clear hP hD hS hPc hDc hKc hFc hk1 hz1 ht hvm
    clear t
    revert hS1 hPn hDn; generalize H1 = H; generalize locs1 = locs; intro hS hP hD
    change va_P (dC, dI) vwCl [(h0, .inr (3, [.long n_su, .int n_pa, .int n_he, .int n_mi, .int n_wo]))] H at hP
    change va_D A [(h0, .inr (3, [.long n_su, .int n_pa, .int n_he, .int n_mi, .int n_wo]))] at hD
    rcases h_9 with ⟨rfl, h_9⟩ | ⟨rfl, h_9⟩
    · refine lv_if_eq (tgt := 71) hx hb dX3_tell_64 (by decide) (fun c_10 => absurd c_10 (by decide)) ?_
      intro _
      refine lv_iconst (v := 1) hx hb dX3_tell_67 (by decide) ?_
      refine lv_goto (tgt := 72) hx hb dX3_tell_68 (by decide) ?_
      refine W.widen (k := 0) (n := 0) (Nat.le_of_ble_eq_true rfl) (Nat.le_of_ble_eq_true rfl) ?_
      have hP9 := hP.sub (ws' := [(h0, .inr (3, [.long n_su, .int n_pa, .int n_he, .int n_mi, .int n_wo]))]) [0] rfl
      have hD9 := hD.sub (ws' := [(h0, .inr (3, [.long n_su, .int n_pa, .int n_he, .int n_mi, .int n_wo]))]) [0] (by decide) rfl
      have hK9 := hK.sub (tys' := []) [] rfl
      exact W.iret (v := 1) hx hb hr (fun t ht hW => ⟨⟨1, (), rfl, (lg_X3_tell_4 v1 e_1 e_2 e_5 e_6 e_7 h_9), ⟨by rw [ht]; exact hP9, va_K.moved hW.alike hK9, hD9⟩⟩, hS.F ht⟩) hS.2.2 dX3_tell_72
    · refine lv_if_eq (tgt := 71) hx hb dX3_tell_64 (by decide) ?_ (fun c_11 => absurd (by decide) c_11)
      intro _
      refine lv_iconst (v := 0) hx hb dX3_tell_71 (by decide) ?_
      refine W.widen (k := 0) (n := 0) (Nat.le_of_ble_eq_true rfl) (Nat.le_of_ble_eq_true rfl) ?_
      have hP9 := hP.sub (ws' := [(h0, .inr (3, [.long n_su, .int n_pa, .int n_he, .int n_mi, .int n_wo]))]) [0] rfl
      have hD9 := hD.sub (ws' := [(h0, .inr (3, [.long n_su, .int n_pa, .int n_he, .int n_mi, .int n_wo]))]) [0] (by decide) rfl
      have hK9 := hK.sub (tys' := []) [] rfl
      exact W.iret (v := 0) hx hb hr (fun t ht hW => ⟨⟨0, (), rfl, (lg_X3_tell_4 v1 e_1 e_2 e_5 e_6 e_7 h_9), ⟨by rw [ht]; exact hP9, va_K.moved hW.alike hK9, hD9⟩⟩, hS.F ht⟩) hS.2.2 dX3_tell_72
  by_cases e_12 : v1 = 5
  · refine lv_tableIn (tgt := 73) (off := 72) hx hb dX3_tell_1 (by rw [e_12]; decide) (by rw [e_12]; decide) (by rw [e_12]; rfl) (by decide) ?_
    refine lv_aload_n hx hb dX3_tell_73 rfl (lv_at hl 0 rfl) ?_
    refine va_get (D := (dC, dI)) (ci := 3) (v := .long n_su) (C := RX3) (T := TX3) (N := 5) hx hb htb iX3 hown hK hP 0 rfl rfl 0 (Nat.le_of_ble_eq_true rfl) (htb _ m_162) (fun _ h9 => h9) rfl dX3_tell_74 ?_
    refine lv_ldc2 hx hb hown (htb _ m_651) dX3_tell_77 ?_
    refine lv_ldiv hx hb dX3_tell_80 (by decide) ?_
    refine lv_topl (fun x_13 ex_14 => ?_)
    refine lv_l2i hx hb dX3_tell_81 rfl ?_
    refine lv_topi (fun x_15 ex_16 => ?_)
    refine W.widen (k := 0) (n := 0) (Nat.le_of_ble_eq_true rfl) (Nat.le_of_ble_eq_true rfl) ?_
    have hP9 := hP.sub (ws' := [(h0, .inr (3, [.long n_su, .int n_pa, .int n_he, .int n_mi, .int n_wo]))]) [0] rfl
    have hD9 := hD.sub (ws' := [(h0, .inr (3, [.long n_su, .int n_pa, .int n_he, .int n_mi, .int n_wo]))]) [0] (by decide) rfl
    have hK9 := hK.sub (tys' := []) [] rfl
    exact W.iret (v := x_15) hx hb hr (fun t ht hW => ⟨⟨x_15, (), rfl, (lg_X3_tell_5 v1 e_1 e_2 e_5 e_6 e_7 e_12), ⟨by rw [ht]; exact hP9, va_K.moved hW.alike hK9, hD9⟩⟩, hS.F ht⟩) hS.2.2 dX3_tell_82
  refine lv_tableOut (tgt := 83) hx hb dX3_tell_1 (by have := lv_neT e_1 (a := 0) (by decide); have := lv_neT e_2 (a := 1) (by decide); have := lv_neT e_5 (a := 2) (by decide); have := lv_neT e_6 (a := 3) (by decide); have := lv_neT e_7 (a := 4) (by decide); have := lv_neT e_12 (a := 5) (by decide); omega) (by decide) ?_
  refine lv_iconst (v := (-1)) hx hb dX3_tell_83 (by decide) ?_
  refine W.widen (k := 0) (n := 0) (Nat.le_of_ble_eq_true rfl) (Nat.le_of_ble_eq_true rfl) ?_
  have hP9 := hP.sub (ws' := [(h0, .inr (3, [.long n_su, .int n_pa, .int n_he, .int n_mi, .int n_wo]))]) [0] rfl
  have hD9 := hD.sub (ws' := [(h0, .inr (3, [.long n_su, .int n_pa, .int n_he, .int n_mi, .int n_wo]))]) [0] (by decide) rfl
  have hK9 := hK.sub (tys' := []) [] rfl
  exact W.iret (v := (-1)) hx hb hr (fun t ht hW => ⟨⟨(-1), (), rfl, (lg_X3_tell_6 v1 e_1 e_2 e_5 e_6 e_7 e_12), ⟨by rw [ht]; exact hP9, va_K.moved hW.alike hK9, hD9⟩⟩, hS.F ht⟩) hS.2.2 dX3_tell_84

theorem lg_X0_has_0 (n_ce : Int32) (v1 : Int32) (t_2 : v1.toInt < (0 : Int)) : ¬ (0 ≤ v1.toInt ∧ v1.toInt < n_ce.toInt) := by
  have := rg_rng n_ce; have := rg_rng v1; omega
theorem lg_X0_has_1 (n_ce : Int32) (v1 : Int32) (t_2 : (0 : Int) ≤ v1.toInt) (t_4 : n_ce.toInt ≤ v1.toInt) : ¬ (0 ≤ v1.toInt ∧ v1.toInt < n_ce.toInt) := by
  have := rg_rng n_ce; have := rg_rng v1; omega
theorem lg_X0_has_2 (n_ce : Int32) (v1 : Int32) (t_2 : (0 : Int) ≤ v1.toInt) (t_4 : v1.toInt < n_ce.toInt) : 0 ≤ v1.toInt ∧ v1.toInt < n_ce.toInt := by
  have := rg_rng n_ce; have := rg_rng v1; omega
set_option maxHeartbeats 4000000 in
set_option maxRecDepth 100000 in
theorem kX0_has (l : Launch) (dC : Nat → ClassId) (dI : Nat → Nat → Nat) (sz : Nat) (h0 : Nat) (c_parts : Nat) (c_strength : Nat) (c_drawnOn : Nat) (c_drawnIn : Nat) (c_sold : Nat) (c_looks : Nat) (n_ce : Int32) (v1 : Int32) : Met l yX0_has (Cond.code yX0_has cX0_has 2 (some .boolean) :: bg) ({ frames := 0, cells := 0, slots := 0, locals := 0 }) (pcW dC dI [.ref h0, .int v1] sz [(h0, .inr (0, [.ref c_parts, .ref c_strength, .ref c_drawnOn, .ref c_drawnIn, .ref c_sold, .ref c_looks, .int n_ce]))] []) (va_Qi (fun (r : Int32) (u : Unit) => (r = 1 ∧ 0 ≤ v1.toInt ∧ v1.toInt < n_ce.toInt) ∨ (r = 0 ∧ ¬ (0 ≤ v1.toInt ∧ v1.toInt < n_ce.toInt))) (fun (u : Unit) (t : State) => va_P (dC, dI) vwCl [(h0, .inr (0, [.ref c_parts, .ref c_strength, .ref c_drawnOn, .ref c_drawnIn, .ref c_sold, .ref c_looks, .int n_ce]))] t.heap ∧ va_K (dC, dI) vwCl [] t ∧ va_D (va_A [(h0, .inr (0, [.ref c_parts, .ref c_strength, .ref c_drawnOn, .ref c_drawnIn, .ref c_sold, .ref c_looks, .int n_ce]))] sz) [(h0, .inr (0, [.ref c_parts, .ref c_strength, .ref c_drawnOn, .ref c_drawnIn, .ref c_sold, .ref c_looks, .int n_ce]))]) (va_A [(h0, .inr (0, [.ref c_parts, .ref c_strength, .ref c_drawnOn, .ref c_drawnIn, .ref c_sold, .ref c_looks, .int n_ce]))] sz)) 0 0 (va_A [(h0, .inr (0, [.ref c_parts, .ref c_strength, .ref c_drawnOn, .ref c_drawnIn, .ref c_sold, .ref c_looks, .int n_ce]))] sz) := by
  refine Met.ofW (cc := cX0_has) (maxL := 2) (ret := (some .boolean)) pnX0 rfl ?_
  intro p e s m args below meth c s₁ B hml hv
  obtain ⟨rfl, hsz, hP, hK, hD0, hN⟩ := hv
  have hx := B.exec
  have hb := B.bytes
  have hr := B.returns
  have htb : ∀ w ∈ bg, w.before [.ref h0, .int v1].toArray s = true := fun w h => atoms_spec (ws := Cond.code yX0_has cX0_has 2 (some .boolean) :: bg) B.pre w (List.mem_cons_of_mem _ h)
  have hown : s.vm.findClass RX0 = some m.cls := findClass_of_methodNamed B.named
  have hlocks := B.notSynchronized
  subst hsz
  have hD := hD0.self (sz := s.heap.size)
  generalize hAe : va_A [(h0, .inr (0, [.ref c_parts, .ref c_strength, .ref c_drawnOn, .ref c_drawnIn, .ref c_sold, .ref c_looks, .int n_ce]))] s.heap.size = A at hD ⊢
  have hA : ∀ q : Nat, s.heap.size ≤ q → A q := fun q h => by rw [← hAe]; exact Or.inr h
  have hS : va_S A s.heap s.heap [] := va_S.rf
  have hl := lv_entry ([.ref h0, .int v1]) (n := 2) (Nat.le_of_ble_eq_true rfl)
  rw [lg_entry_eq]
  generalize (lg_sl ([.ref h0, .int v1]) ++ List.replicate (2 - (lg_sl ([.ref h0, .int v1])).length) Slot.unset).toArray = ls at hl ⊢
  change lv_has ls 2 [(0, .ref h0), (1, .int v1)] at hl
  clear hD0 hAe
  refine go0 (wsP := fun H => va_P (dC, dI) vwCl [(h0, .inr (0, [.ref c_parts, .ref c_strength, .ref c_drawnOn, .ref c_drawnIn, .ref c_sold, .ref c_looks, .int n_ce]))] H) hP hS ?_
  clear hP hS; intro H locs hP hS
  change va_P (dC, dI) vwCl [(h0, .inr (0, [.ref c_parts, .ref c_strength, .ref c_drawnOn, .ref c_drawnIn, .ref c_sold, .ref c_looks, .int n_ce]))] H at hP
  refine lv_iload_n hx hb dX0_has_0 rfl (lv_at hl 1 rfl) ?_
  refine lv_if_lt (tgt := 16) hx hb dX0_has_1 (by decide) (fun c_1 => ?_) (fun c_1 => ?_)
  · have t_2 : v1.toInt < (0 : Int) := i_lt rfl (by decide) c_1
    refine lv_iconst (v := 0) hx hb dX0_has_16 (by decide) ?_
    refine W.widen (k := 0) (n := 0) (Nat.le_of_ble_eq_true rfl) (Nat.le_of_ble_eq_true rfl) ?_
    have hP9 := hP.sub (ws' := [(h0, .inr (0, [.ref c_parts, .ref c_strength, .ref c_drawnOn, .ref c_drawnIn, .ref c_sold, .ref c_looks, .int n_ce]))]) [0] rfl
    have hD9 := hD.sub (ws' := [(h0, .inr (0, [.ref c_parts, .ref c_strength, .ref c_drawnOn, .ref c_drawnIn, .ref c_sold, .ref c_looks, .int n_ce]))]) [0] (by decide) rfl
    have hK9 := hK.sub (tys' := []) [] rfl
    exact W.zret (ty := .boolean) (v := 0) hx hb hr rfl (fun t ht hW => ⟨⟨0, (), rfl, (Or.inr (⟨rfl, (lg_X0_has_0 n_ce v1 t_2)⟩)), ⟨by rw [ht]; exact hP9, va_K.moved hW.alike hK9, hD9⟩⟩, hS.F ht⟩) hS.2.2 dX0_has_17
  · have t_2 : (0 : Int) ≤ v1.toInt := i_nlt rfl (by decide) c_1
    refine lv_iload_n hx hb dX0_has_4 rfl (lv_at hl 1 rfl) ?_
    refine lv_aload_n hx hb dX0_has_5 rfl (lv_at hl 0 rfl) ?_
    refine va_get (D := (dC, dI)) (ci := 0) (v := .int n_ce) (C := RX0) (T := TX0) (N := 7) hx hb htb iX0 hown hK hP 0 rfl rfl 6 (Nat.le_of_ble_eq_true rfl) (htb _ m_196) (fun _ h9 => h9) rfl dX0_has_6 ?_
    refine lv_icmp_ge (tgt := 16) hx hb dX0_has_9 (by decide) (fun c_3 => ?_) (fun c_3 => ?_)
    · have t_4 : n_ce.toInt ≤ v1.toInt := i_le rfl rfl c_3
      refine lv_iconst (v := 0) hx hb dX0_has_16 (by decide) ?_
      refine W.widen (k := 0) (n := 0) (Nat.le_of_ble_eq_true rfl) (Nat.le_of_ble_eq_true rfl) ?_
      have hP9 := hP.sub (ws' := [(h0, .inr (0, [.ref c_parts, .ref c_strength, .ref c_drawnOn, .ref c_drawnIn, .ref c_sold, .ref c_looks, .int n_ce]))]) [0] rfl
      have hD9 := hD.sub (ws' := [(h0, .inr (0, [.ref c_parts, .ref c_strength, .ref c_drawnOn, .ref c_drawnIn, .ref c_sold, .ref c_looks, .int n_ce]))]) [0] (by decide) rfl
      have hK9 := hK.sub (tys' := []) [] rfl
      exact W.zret (ty := .boolean) (v := 0) hx hb hr rfl (fun t ht hW => ⟨⟨0, (), rfl, (Or.inr (⟨rfl, (lg_X0_has_1 n_ce v1 t_2 t_4)⟩)), ⟨by rw [ht]; exact hP9, va_K.moved hW.alike hK9, hD9⟩⟩, hS.F ht⟩) hS.2.2 dX0_has_17
    · have t_4 : v1.toInt < n_ce.toInt := i_nle rfl rfl c_3
      refine lv_iconst (v := 1) hx hb dX0_has_12 (by decide) ?_
      refine lv_goto (tgt := 17) hx hb dX0_has_13 (by decide) ?_
      refine W.widen (k := 0) (n := 0) (Nat.le_of_ble_eq_true rfl) (Nat.le_of_ble_eq_true rfl) ?_
      have hP9 := hP.sub (ws' := [(h0, .inr (0, [.ref c_parts, .ref c_strength, .ref c_drawnOn, .ref c_drawnIn, .ref c_sold, .ref c_looks, .int n_ce]))]) [0] rfl
      have hD9 := hD.sub (ws' := [(h0, .inr (0, [.ref c_parts, .ref c_strength, .ref c_drawnOn, .ref c_drawnIn, .ref c_sold, .ref c_looks, .int n_ce]))]) [0] (by decide) rfl
      have hK9 := hK.sub (tys' := []) [] rfl
      exact W.zret (ty := .boolean) (v := 1) hx hb hr rfl (fun t ht hW => ⟨⟨1, (), rfl, (Or.inl ⟨rfl, (lg_X0_has_2 n_ce v1 t_2 t_4)⟩), ⟨by rw [ht]; exact hP9, va_K.moved hW.alike hK9, hD9⟩⟩, hS.F ht⟩) hS.2.2 dX0_has_17

theorem lg_X0_partsOf_0 (n_ce : Int32) (v1 : Int32) (yc : 0 ≤ n_ce.toInt ∧ n_ce.toInt ≤ 60) (h_2 : 0 ≤ v1.toInt ∧ v1.toInt < n_ce.toInt) : 0 ≤ v1.toInt ∧ v1.toInt < ((60 : Nat) : Int) := by
  have := rg_rng n_ce; have := rg_rng v1; omega
theorem lg_X0_partsOf_1 (n_ce : Int32) (v1 : Int32) (yc : 0 ≤ n_ce.toInt ∧ n_ce.toInt ≤ 60) (h_2 : 0 ≤ v1.toInt ∧ v1.toInt < n_ce.toInt) : True := by
  have := rg_rng n_ce; have := rg_rng v1; trivial
theorem lg_X0_partsOf_2 (n_ce : Int32) (v1 : Int32) (yc : 0 ≤ n_ce.toInt ∧ n_ce.toInt ≤ 60) (h_2 : ¬ (0 ≤ v1.toInt ∧ v1.toInt < n_ce.toInt)) : True := by
  have := rg_rng n_ce; have := rg_rng v1; trivial
set_option maxHeartbeats 4000000 in
set_option maxRecDepth 100000 in
theorem kX0_partsOf (l : Launch) (dC : Nat → ClassId) (dI : Nat → Nat → Nat) (sz : Nat) (h0 : Nat) (c_parts : Nat) (c_strength : Nat) (c_drawnOn : Nat) (c_drawnIn : Nat) (c_sold : Nat) (c_looks : Nat) (n_ce : Int32) (k_parts : ClassId) (f_parts : Nat → Int32) (v1 : Int32) (yc : 0 ≤ n_ce.toInt ∧ n_ce.toInt ≤ 60) : Met l yX0_partsOf (Cond.code yX0_partsOf cX0_partsOf 2 (some .int) :: bg) ({ frames := 1, cells := 0, slots := 0, locals := 21 }) (pcW dC dI [.ref h0, .int v1] sz [(h0, .inr (0, [.ref c_parts, .ref c_strength, .ref c_drawnOn, .ref c_drawnIn, .ref c_sold, .ref c_looks, .int n_ce])), (c_parts, .inl (k_parts, 60, .inl f_parts))] [(k_parts, .int)]) (va_Qi (fun (r : Int32) (u : Unit) => True) (fun (u : Unit) (t : State) => va_P (dC, dI) vwCl [(h0, .inr (0, [.ref c_parts, .ref c_strength, .ref c_drawnOn, .ref c_drawnIn, .ref c_sold, .ref c_looks, .int n_ce])), (c_parts, .inl (k_parts, 60, .inl f_parts))] t.heap ∧ va_K (dC, dI) vwCl [(k_parts, .int)] t ∧ va_D (va_A [(h0, .inr (0, [.ref c_parts, .ref c_strength, .ref c_drawnOn, .ref c_drawnIn, .ref c_sold, .ref c_looks, .int n_ce])), (c_parts, .inl (k_parts, 60, .inl f_parts))] sz) [(h0, .inr (0, [.ref c_parts, .ref c_strength, .ref c_drawnOn, .ref c_drawnIn, .ref c_sold, .ref c_looks, .int n_ce])), (c_parts, .inl (k_parts, 60, .inl f_parts))]) (va_A [(h0, .inr (0, [.ref c_parts, .ref c_strength, .ref c_drawnOn, .ref c_drawnIn, .ref c_sold, .ref c_looks, .int n_ce])), (c_parts, .inl (k_parts, 60, .inl f_parts))] sz)) 0 0 (va_A [(h0, .inr (0, [.ref c_parts, .ref c_strength, .ref c_drawnOn, .ref c_drawnIn, .ref c_sold, .ref c_looks, .int n_ce])), (c_parts, .inl (k_parts, 60, .inl f_parts))] sz) := by
  refine Met.ofW (cc := cX0_partsOf) (maxL := 2) (ret := (some .int)) pnX0 rfl ?_
  intro p e s m args below meth c s₁ B hml hv
  obtain ⟨rfl, hsz, hP, hK, hD0, hN⟩ := hv
  have hx := B.exec
  have hb := B.bytes
  have hr := B.returns
  have htb : ∀ w ∈ bg, w.before [.ref h0, .int v1].toArray s = true := fun w h => atoms_spec (ws := Cond.code yX0_partsOf cX0_partsOf 2 (some .int) :: bg) B.pre w (List.mem_cons_of_mem _ h)
  have hown : s.vm.findClass RX0 = some m.cls := findClass_of_methodNamed B.named
  have hlocks := B.notSynchronized
  subst hsz
  have hD := hD0.self (sz := s.heap.size)
  generalize hAe : va_A [(h0, .inr (0, [.ref c_parts, .ref c_strength, .ref c_drawnOn, .ref c_drawnIn, .ref c_sold, .ref c_looks, .int n_ce])), (c_parts, .inl (k_parts, 60, .inl f_parts))] s.heap.size = A at hD ⊢
  have hA : ∀ q : Nat, s.heap.size ≤ q → A q := fun q h => by rw [← hAe]; exact Or.inr h
  have hS : va_S A s.heap s.heap [] := va_S.rf
  have hl := lv_entry ([.ref h0, .int v1]) (n := 2) (Nat.le_of_ble_eq_true rfl)
  rw [lg_entry_eq]
  generalize (lg_sl ([.ref h0, .int v1]) ++ List.replicate (2 - (lg_sl ([.ref h0, .int v1])).length) Slot.unset).toArray = ls at hl ⊢
  change lv_has ls 2 [(0, .ref h0), (1, .int v1)] at hl
  clear hD0 hAe
  refine go0 (wsP := fun H => va_P (dC, dI) vwCl [(h0, .inr (0, [.ref c_parts, .ref c_strength, .ref c_drawnOn, .ref c_drawnIn, .ref c_sold, .ref c_looks, .int n_ce])), (c_parts, .inl (k_parts, 60, .inl f_parts))] H) hP hS ?_
  clear hP hS; intro H locs hP hS
  change va_P (dC, dI) vwCl [(h0, .inr (0, [.ref c_parts, .ref c_strength, .ref c_drawnOn, .ref c_drawnIn, .ref c_sold, .ref c_looks, .int n_ce])), (c_parts, .inl (k_parts, 60, .inl f_parts))] H at hP
  refine lv_aload_n hx hb dX0_partsOf_0 rfl (lv_at hl 0 rfl) ?_
  refine lv_iload_n hx hb dX0_partsOf_1 rfl (lv_at hl 1 rfl) ?_
  have hPc := hP.sub (ws' := [(h0, .inr (0, [.ref c_parts, .ref c_strength, .ref c_drawnOn, .ref c_drawnIn, .ref c_sold, .ref c_looks, .int n_ce]))]) [0] rfl
  have hDc := hD.sub (ws' := [(h0, .inr (0, [.ref c_parts, .ref c_strength, .ref c_drawnOn, .ref c_drawnIn, .ref c_sold, .ref c_looks, .int n_ce]))]) [0] (by decide) rfl
  have hKc := hK.sub (tys' := []) [] rfl
  have hFc := va_free (wc := [(h0, .inr (0, [.ref c_parts, .ref c_strength, .ref c_drawnOn, .ref c_drawnIn, .ref c_sold, .ref c_looks, .int n_ce]))]) hD hS hA [0] rfl
  refine va_calli (va_runV (C := RX0) (As := [.int v1]) (rest := []) ⟨hx, hb, hml, hown, htb⟩ (kX0_has l dC dI H.size h0 c_parts c_strength c_drawnOn c_drawnIn c_sold c_looks n_ce v1 ) ⟨callB_of 1 htb (gd_c m_710) rfl rfl rfl (htb _ m_8) (htb _ m_715) hdX0_has ⟨(Nat.le_of_ble_eq_true rfl), (Nat.le_of_ble_eq_true rfl)⟩, htb _ m_708, htb _ m_709⟩ ⟨pcW_blind, va_recv hKc hPc (ci := 0) (q0 := 0) rfl rfl, pcW_at hPc hKc hDc hN⟩ rfl rfl hl.1 rfl (lv_room (Nat.le_of_ble_eq_true rfl)) dX0_partsOf_2 ⟨(Nat.le_of_ble_eq_true rfl), (Nat.le_of_ble_eq_true rfl)⟩) hS (fun q _ h => hFc q h) hFc (fun r_1 u t H1 locs1 ht hvm h_2 hB hz1 hk1 hS1 => ?_)
  obtain ⟨hP1, hK1, hD1⟩ := hB
  rw [ht] at hP1
  obtain ⟨hPn, hDn⟩ := va_join (wr := [(c_parts, .inl (k_parts, 60, .inl f_parts))]) (w1 := [(h0, .inr (0, [.ref c_parts, .ref c_strength, .ref c_drawnOn, .ref c_drawnIn, .ref c_sold, .ref c_looks, .int n_ce]))]) hP hD [0] [1] rfl rfl (by decide) (by decide) hk1 hFc hP1 hD1
  clear hP1 hD1 hK1
  clear hP hD hS hPc hDc hKc hFc hk1 hz1 ht hvm
  clear t
  revert hS1 hPn hDn; generalize H1 = H; generalize locs1 = locs; intro hS hP hD
  change va_P (dC, dI) vwCl [(c_parts, .inl (k_parts, 60, .inl f_parts)), (h0, .inr (0, [.ref c_parts, .ref c_strength, .ref c_drawnOn, .ref c_drawnIn, .ref c_sold, .ref c_looks, .int n_ce]))] H at hP
  change va_D A [(c_parts, .inl (k_parts, 60, .inl f_parts)), (h0, .inr (0, [.ref c_parts, .ref c_strength, .ref c_drawnOn, .ref c_drawnIn, .ref c_sold, .ref c_looks, .int n_ce]))] at hD
  rcases h_2 with ⟨rfl, h_2⟩ | ⟨rfl, h_2⟩
  · refine lv_if_eq (tgt := 17) hx hb dX0_partsOf_5 (by decide) (fun c_3 => absurd c_3 (by decide)) ?_
    intro _
    refine lv_aload_n hx hb dX0_partsOf_8 rfl (lv_at hl 0 rfl) ?_
    refine va_get (D := (dC, dI)) (ci := 0) (v := .ref c_parts) (C := RX0) (T := TX0) (N := 7) hx hb htb iX0 hown hK hP 1 rfl rfl 0 (Nat.le_of_ble_eq_true rfl) (htb _ m_190) (fun _ h9 => h9) rfl dX0_partsOf_9 ?_
    refine lv_iload_n hx hb dX0_partsOf_12 rfl (lv_at hl 1 rfl) ?_
    refine va_iald hx hb hK hP 0 0 rfl rfl (i_in rfl (lg_X0_partsOf_0 n_ce v1 yc h_2)) dX0_partsOf_13 ?_
    refine lv_topi (fun x_4 ex_5 => ?_)
    refine lv_goto (tgt := 18) hx hb dX0_partsOf_14 (by decide) ?_
    refine W.widen (k := 0) (n := 0) (Nat.le_of_ble_eq_true rfl) (Nat.le_of_ble_eq_true rfl) ?_
    have hP9 := hP.sub (ws' := [(h0, .inr (0, [.ref c_parts, .ref c_strength, .ref c_drawnOn, .ref c_drawnIn, .ref c_sold, .ref c_looks, .int n_ce])), (c_parts, .inl (k_parts, 60, .inl f_parts))]) [1, 0] rfl
    have hD9 := hD.sub (ws' := [(h0, .inr (0, [.ref c_parts, .ref c_strength, .ref c_drawnOn, .ref c_drawnIn, .ref c_sold, .ref c_looks, .int n_ce])), (c_parts, .inl (k_parts, 60, .inl f_parts))]) [1, 0] (by decide) rfl
    have hK9 := hK.sub (tys' := [(k_parts, .int)]) [0] rfl
    exact W.iret (v := x_4) hx hb hr (fun t ht hW => ⟨⟨x_4, (), rfl, (lg_X0_partsOf_1 n_ce v1 yc h_2), ⟨by rw [ht]; exact hP9, va_K.moved hW.alike hK9, hD9⟩⟩, hS.F ht⟩) hS.2.2 dX0_partsOf_18
  · refine lv_if_eq (tgt := 17) hx hb dX0_partsOf_5 (by decide) ?_ (fun c_6 => absurd (by decide) c_6)
    intro _
    refine lv_iconst (v := (-1)) hx hb dX0_partsOf_17 (by decide) ?_
    refine W.widen (k := 0) (n := 0) (Nat.le_of_ble_eq_true rfl) (Nat.le_of_ble_eq_true rfl) ?_
    have hP9 := hP.sub (ws' := [(h0, .inr (0, [.ref c_parts, .ref c_strength, .ref c_drawnOn, .ref c_drawnIn, .ref c_sold, .ref c_looks, .int n_ce])), (c_parts, .inl (k_parts, 60, .inl f_parts))]) [1, 0] rfl
    have hD9 := hD.sub (ws' := [(h0, .inr (0, [.ref c_parts, .ref c_strength, .ref c_drawnOn, .ref c_drawnIn, .ref c_sold, .ref c_looks, .int n_ce])), (c_parts, .inl (k_parts, 60, .inl f_parts))]) [1, 0] (by decide) rfl
    have hK9 := hK.sub (tys' := [(k_parts, .int)]) [0] rfl
    exact W.iret (v := (-1)) hx hb hr (fun t ht hW => ⟨⟨(-1), (), rfl, (lg_X0_partsOf_2 n_ce v1 yc h_2), ⟨by rw [ht]; exact hP9, va_K.moved hW.alike hK9, hD9⟩⟩, hS.F ht⟩) hS.2.2 dX0_partsOf_18

theorem lg_X0_strengthOf_0 (n_ce : Int32) (v1 : Int32) (yc : 0 ≤ n_ce.toInt ∧ n_ce.toInt ≤ 60) (h_2 : 0 ≤ v1.toInt ∧ v1.toInt < n_ce.toInt) : 0 ≤ v1.toInt ∧ v1.toInt < ((60 : Nat) : Int) := by
  have := rg_rng n_ce; have := rg_rng v1; omega
theorem lg_X0_strengthOf_1 (n_ce : Int32) (v1 : Int32) (yc : 0 ≤ n_ce.toInt ∧ n_ce.toInt ≤ 60) (h_2 : 0 ≤ v1.toInt ∧ v1.toInt < n_ce.toInt) : True := by
  have := rg_rng n_ce; have := rg_rng v1; trivial
theorem lg_X0_strengthOf_2 (n_ce : Int32) (v1 : Int32) (yc : 0 ≤ n_ce.toInt ∧ n_ce.toInt ≤ 60) (h_2 : ¬ (0 ≤ v1.toInt ∧ v1.toInt < n_ce.toInt)) : True := by
  have := rg_rng n_ce; have := rg_rng v1; trivial
set_option maxHeartbeats 4000000 in
set_option maxRecDepth 100000 in
theorem kX0_strengthOf (l : Launch) (dC : Nat → ClassId) (dI : Nat → Nat → Nat) (sz : Nat) (h0 : Nat) (c_parts : Nat) (c_strength : Nat) (c_drawnOn : Nat) (c_drawnIn : Nat) (c_sold : Nat) (c_looks : Nat) (n_ce : Int32) (k_strength : ClassId) (f_strength : Nat → Int32) (v1 : Int32) (yc : 0 ≤ n_ce.toInt ∧ n_ce.toInt ≤ 60) : Met l yX0_strengthOf (Cond.code yX0_strengthOf cX0_strengthOf 2 (some .int) :: bg) ({ frames := 1, cells := 0, slots := 0, locals := 21 }) (pcW dC dI [.ref h0, .int v1] sz [(h0, .inr (0, [.ref c_parts, .ref c_strength, .ref c_drawnOn, .ref c_drawnIn, .ref c_sold, .ref c_looks, .int n_ce])), (c_strength, .inl (k_strength, 60, .inl f_strength))] [(k_strength, .int)]) (va_Qi (fun (r : Int32) (u : Unit) => True) (fun (u : Unit) (t : State) => va_P (dC, dI) vwCl [(h0, .inr (0, [.ref c_parts, .ref c_strength, .ref c_drawnOn, .ref c_drawnIn, .ref c_sold, .ref c_looks, .int n_ce])), (c_strength, .inl (k_strength, 60, .inl f_strength))] t.heap ∧ va_K (dC, dI) vwCl [(k_strength, .int)] t ∧ va_D (va_A [(h0, .inr (0, [.ref c_parts, .ref c_strength, .ref c_drawnOn, .ref c_drawnIn, .ref c_sold, .ref c_looks, .int n_ce])), (c_strength, .inl (k_strength, 60, .inl f_strength))] sz) [(h0, .inr (0, [.ref c_parts, .ref c_strength, .ref c_drawnOn, .ref c_drawnIn, .ref c_sold, .ref c_looks, .int n_ce])), (c_strength, .inl (k_strength, 60, .inl f_strength))]) (va_A [(h0, .inr (0, [.ref c_parts, .ref c_strength, .ref c_drawnOn, .ref c_drawnIn, .ref c_sold, .ref c_looks, .int n_ce])), (c_strength, .inl (k_strength, 60, .inl f_strength))] sz)) 0 0 (va_A [(h0, .inr (0, [.ref c_parts, .ref c_strength, .ref c_drawnOn, .ref c_drawnIn, .ref c_sold, .ref c_looks, .int n_ce])), (c_strength, .inl (k_strength, 60, .inl f_strength))] sz) := by
  refine Met.ofW (cc := cX0_strengthOf) (maxL := 2) (ret := (some .int)) pnX0 rfl ?_
  intro p e s m args below meth c s₁ B hml hv
  obtain ⟨rfl, hsz, hP, hK, hD0, hN⟩ := hv
  have hx := B.exec
  have hb := B.bytes
  have hr := B.returns
  have htb : ∀ w ∈ bg, w.before [.ref h0, .int v1].toArray s = true := fun w h => atoms_spec (ws := Cond.code yX0_strengthOf cX0_strengthOf 2 (some .int) :: bg) B.pre w (List.mem_cons_of_mem _ h)
  have hown : s.vm.findClass RX0 = some m.cls := findClass_of_methodNamed B.named
  have hlocks := B.notSynchronized
  subst hsz
  have hD := hD0.self (sz := s.heap.size)
  generalize hAe : va_A [(h0, .inr (0, [.ref c_parts, .ref c_strength, .ref c_drawnOn, .ref c_drawnIn, .ref c_sold, .ref c_looks, .int n_ce])), (c_strength, .inl (k_strength, 60, .inl f_strength))] s.heap.size = A at hD ⊢
  have hA : ∀ q : Nat, s.heap.size ≤ q → A q := fun q h => by rw [← hAe]; exact Or.inr h
  have hS : va_S A s.heap s.heap [] := va_S.rf
  have hl := lv_entry ([.ref h0, .int v1]) (n := 2) (Nat.le_of_ble_eq_true rfl)
  rw [lg_entry_eq]
  generalize (lg_sl ([.ref h0, .int v1]) ++ List.replicate (2 - (lg_sl ([.ref h0, .int v1])).length) Slot.unset).toArray = ls at hl ⊢
  change lv_has ls 2 [(0, .ref h0), (1, .int v1)] at hl
  clear hD0 hAe
  refine go0 (wsP := fun H => va_P (dC, dI) vwCl [(h0, .inr (0, [.ref c_parts, .ref c_strength, .ref c_drawnOn, .ref c_drawnIn, .ref c_sold, .ref c_looks, .int n_ce])), (c_strength, .inl (k_strength, 60, .inl f_strength))] H) hP hS ?_
  clear hP hS; intro H locs hP hS
  change va_P (dC, dI) vwCl [(h0, .inr (0, [.ref c_parts, .ref c_strength, .ref c_drawnOn, .ref c_drawnIn, .ref c_sold, .ref c_looks, .int n_ce])), (c_strength, .inl (k_strength, 60, .inl f_strength))] H at hP
  refine lv_aload_n hx hb dX0_strengthOf_0 rfl (lv_at hl 0 rfl) ?_
  refine lv_iload_n hx hb dX0_strengthOf_1 rfl (lv_at hl 1 rfl) ?_
  have hPc := hP.sub (ws' := [(h0, .inr (0, [.ref c_parts, .ref c_strength, .ref c_drawnOn, .ref c_drawnIn, .ref c_sold, .ref c_looks, .int n_ce]))]) [0] rfl
  have hDc := hD.sub (ws' := [(h0, .inr (0, [.ref c_parts, .ref c_strength, .ref c_drawnOn, .ref c_drawnIn, .ref c_sold, .ref c_looks, .int n_ce]))]) [0] (by decide) rfl
  have hKc := hK.sub (tys' := []) [] rfl
  have hFc := va_free (wc := [(h0, .inr (0, [.ref c_parts, .ref c_strength, .ref c_drawnOn, .ref c_drawnIn, .ref c_sold, .ref c_looks, .int n_ce]))]) hD hS hA [0] rfl
  refine va_calli (va_runV (C := RX0) (As := [.int v1]) (rest := []) ⟨hx, hb, hml, hown, htb⟩ (kX0_has l dC dI H.size h0 c_parts c_strength c_drawnOn c_drawnIn c_sold c_looks n_ce v1 ) ⟨callB_of 1 htb (gd_c m_710) rfl rfl rfl (htb _ m_8) (htb _ m_715) hdX0_has ⟨(Nat.le_of_ble_eq_true rfl), (Nat.le_of_ble_eq_true rfl)⟩, htb _ m_708, htb _ m_709⟩ ⟨pcW_blind, va_recv hKc hPc (ci := 0) (q0 := 0) rfl rfl, pcW_at hPc hKc hDc hN⟩ rfl rfl hl.1 rfl (lv_room (Nat.le_of_ble_eq_true rfl)) dX0_strengthOf_2 ⟨(Nat.le_of_ble_eq_true rfl), (Nat.le_of_ble_eq_true rfl)⟩) hS (fun q _ h => hFc q h) hFc (fun r_1 u t H1 locs1 ht hvm h_2 hB hz1 hk1 hS1 => ?_)
  obtain ⟨hP1, hK1, hD1⟩ := hB
  rw [ht] at hP1
  obtain ⟨hPn, hDn⟩ := va_join (wr := [(c_strength, .inl (k_strength, 60, .inl f_strength))]) (w1 := [(h0, .inr (0, [.ref c_parts, .ref c_strength, .ref c_drawnOn, .ref c_drawnIn, .ref c_sold, .ref c_looks, .int n_ce]))]) hP hD [0] [1] rfl rfl (by decide) (by decide) hk1 hFc hP1 hD1
  clear hP1 hD1 hK1
  clear hP hD hS hPc hDc hKc hFc hk1 hz1 ht hvm
  clear t
  revert hS1 hPn hDn; generalize H1 = H; generalize locs1 = locs; intro hS hP hD
  change va_P (dC, dI) vwCl [(c_strength, .inl (k_strength, 60, .inl f_strength)), (h0, .inr (0, [.ref c_parts, .ref c_strength, .ref c_drawnOn, .ref c_drawnIn, .ref c_sold, .ref c_looks, .int n_ce]))] H at hP
  change va_D A [(c_strength, .inl (k_strength, 60, .inl f_strength)), (h0, .inr (0, [.ref c_parts, .ref c_strength, .ref c_drawnOn, .ref c_drawnIn, .ref c_sold, .ref c_looks, .int n_ce]))] at hD
  rcases h_2 with ⟨rfl, h_2⟩ | ⟨rfl, h_2⟩
  · refine lv_if_eq (tgt := 17) hx hb dX0_strengthOf_5 (by decide) (fun c_3 => absurd c_3 (by decide)) ?_
    intro _
    refine lv_aload_n hx hb dX0_strengthOf_8 rfl (lv_at hl 0 rfl) ?_
    refine va_get (D := (dC, dI)) (ci := 0) (v := .ref c_strength) (C := RX0) (T := TX0) (N := 7) hx hb htb iX0 hown hK hP 1 rfl rfl 1 (Nat.le_of_ble_eq_true rfl) (htb _ m_191) (fun _ h9 => h9) rfl dX0_strengthOf_9 ?_
    refine lv_iload_n hx hb dX0_strengthOf_12 rfl (lv_at hl 1 rfl) ?_
    refine va_iald hx hb hK hP 0 0 rfl rfl (i_in rfl (lg_X0_strengthOf_0 n_ce v1 yc h_2)) dX0_strengthOf_13 ?_
    refine lv_topi (fun x_4 ex_5 => ?_)
    refine lv_goto (tgt := 18) hx hb dX0_strengthOf_14 (by decide) ?_
    refine W.widen (k := 0) (n := 0) (Nat.le_of_ble_eq_true rfl) (Nat.le_of_ble_eq_true rfl) ?_
    have hP9 := hP.sub (ws' := [(h0, .inr (0, [.ref c_parts, .ref c_strength, .ref c_drawnOn, .ref c_drawnIn, .ref c_sold, .ref c_looks, .int n_ce])), (c_strength, .inl (k_strength, 60, .inl f_strength))]) [1, 0] rfl
    have hD9 := hD.sub (ws' := [(h0, .inr (0, [.ref c_parts, .ref c_strength, .ref c_drawnOn, .ref c_drawnIn, .ref c_sold, .ref c_looks, .int n_ce])), (c_strength, .inl (k_strength, 60, .inl f_strength))]) [1, 0] (by decide) rfl
    have hK9 := hK.sub (tys' := [(k_strength, .int)]) [0] rfl
    exact W.iret (v := x_4) hx hb hr (fun t ht hW => ⟨⟨x_4, (), rfl, (lg_X0_strengthOf_1 n_ce v1 yc h_2), ⟨by rw [ht]; exact hP9, va_K.moved hW.alike hK9, hD9⟩⟩, hS.F ht⟩) hS.2.2 dX0_strengthOf_18
  · refine lv_if_eq (tgt := 17) hx hb dX0_strengthOf_5 (by decide) ?_ (fun c_6 => absurd (by decide) c_6)
    intro _
    refine lv_iconst (v := (-1)) hx hb dX0_strengthOf_17 (by decide) ?_
    refine W.widen (k := 0) (n := 0) (Nat.le_of_ble_eq_true rfl) (Nat.le_of_ble_eq_true rfl) ?_
    have hP9 := hP.sub (ws' := [(h0, .inr (0, [.ref c_parts, .ref c_strength, .ref c_drawnOn, .ref c_drawnIn, .ref c_sold, .ref c_looks, .int n_ce])), (c_strength, .inl (k_strength, 60, .inl f_strength))]) [1, 0] rfl
    have hD9 := hD.sub (ws' := [(h0, .inr (0, [.ref c_parts, .ref c_strength, .ref c_drawnOn, .ref c_drawnIn, .ref c_sold, .ref c_looks, .int n_ce])), (c_strength, .inl (k_strength, 60, .inl f_strength))]) [1, 0] (by decide) rfl
    have hK9 := hK.sub (tys' := [(k_strength, .int)]) [0] rfl
    exact W.iret (v := (-1)) hx hb hr (fun t ht hW => ⟨⟨(-1), (), rfl, (lg_X0_strengthOf_2 n_ce v1 yc h_2), ⟨by rw [ht]; exact hP9, va_K.moved hW.alike hK9, hD9⟩⟩, hS.F ht⟩) hS.2.2 dX0_strengthOf_18

theorem lg_X0_dayOf_0 (n_ce : Int32) (v1 : Int32) (yc : 0 ≤ n_ce.toInt ∧ n_ce.toInt ≤ 60) (h_2 : 0 ≤ v1.toInt ∧ v1.toInt < n_ce.toInt) : 0 ≤ v1.toInt ∧ v1.toInt < ((60 : Nat) : Int) := by
  have := rg_rng n_ce; have := rg_rng v1; omega
theorem lg_X0_dayOf_1 (n_ce : Int32) (v1 : Int32) (yc : 0 ≤ n_ce.toInt ∧ n_ce.toInt ≤ 60) (h_2 : 0 ≤ v1.toInt ∧ v1.toInt < n_ce.toInt) : True := by
  have := rg_rng n_ce; have := rg_rng v1; trivial
theorem lg_X0_dayOf_2 (n_ce : Int32) (v1 : Int32) (yc : 0 ≤ n_ce.toInt ∧ n_ce.toInt ≤ 60) (h_2 : ¬ (0 ≤ v1.toInt ∧ v1.toInt < n_ce.toInt)) : True := by
  have := rg_rng n_ce; have := rg_rng v1; trivial
set_option maxHeartbeats 4000000 in
set_option maxRecDepth 100000 in
theorem kX0_dayOf (l : Launch) (dC : Nat → ClassId) (dI : Nat → Nat → Nat) (sz : Nat) (h0 : Nat) (c_parts : Nat) (c_strength : Nat) (c_drawnOn : Nat) (c_drawnIn : Nat) (c_sold : Nat) (c_looks : Nat) (n_ce : Int32) (k_drawnOn : ClassId) (f_drawnOn : Nat → Int32) (v1 : Int32) (yc : 0 ≤ n_ce.toInt ∧ n_ce.toInt ≤ 60) : Met l yX0_dayOf (Cond.code yX0_dayOf cX0_dayOf 2 (some .int) :: bg) ({ frames := 1, cells := 0, slots := 0, locals := 21 }) (pcW dC dI [.ref h0, .int v1] sz [(h0, .inr (0, [.ref c_parts, .ref c_strength, .ref c_drawnOn, .ref c_drawnIn, .ref c_sold, .ref c_looks, .int n_ce])), (c_drawnOn, .inl (k_drawnOn, 60, .inl f_drawnOn))] [(k_drawnOn, .int)]) (va_Qi (fun (r : Int32) (u : Unit) => True) (fun (u : Unit) (t : State) => va_P (dC, dI) vwCl [(h0, .inr (0, [.ref c_parts, .ref c_strength, .ref c_drawnOn, .ref c_drawnIn, .ref c_sold, .ref c_looks, .int n_ce])), (c_drawnOn, .inl (k_drawnOn, 60, .inl f_drawnOn))] t.heap ∧ va_K (dC, dI) vwCl [(k_drawnOn, .int)] t ∧ va_D (va_A [(h0, .inr (0, [.ref c_parts, .ref c_strength, .ref c_drawnOn, .ref c_drawnIn, .ref c_sold, .ref c_looks, .int n_ce])), (c_drawnOn, .inl (k_drawnOn, 60, .inl f_drawnOn))] sz) [(h0, .inr (0, [.ref c_parts, .ref c_strength, .ref c_drawnOn, .ref c_drawnIn, .ref c_sold, .ref c_looks, .int n_ce])), (c_drawnOn, .inl (k_drawnOn, 60, .inl f_drawnOn))]) (va_A [(h0, .inr (0, [.ref c_parts, .ref c_strength, .ref c_drawnOn, .ref c_drawnIn, .ref c_sold, .ref c_looks, .int n_ce])), (c_drawnOn, .inl (k_drawnOn, 60, .inl f_drawnOn))] sz)) 0 0 (va_A [(h0, .inr (0, [.ref c_parts, .ref c_strength, .ref c_drawnOn, .ref c_drawnIn, .ref c_sold, .ref c_looks, .int n_ce])), (c_drawnOn, .inl (k_drawnOn, 60, .inl f_drawnOn))] sz) := by
  refine Met.ofW (cc := cX0_dayOf) (maxL := 2) (ret := (some .int)) pnX0 rfl ?_
  intro p e s m args below meth c s₁ B hml hv
  obtain ⟨rfl, hsz, hP, hK, hD0, hN⟩ := hv
  have hx := B.exec
  have hb := B.bytes
  have hr := B.returns
  have htb : ∀ w ∈ bg, w.before [.ref h0, .int v1].toArray s = true := fun w h => atoms_spec (ws := Cond.code yX0_dayOf cX0_dayOf 2 (some .int) :: bg) B.pre w (List.mem_cons_of_mem _ h)
  have hown : s.vm.findClass RX0 = some m.cls := findClass_of_methodNamed B.named
  have hlocks := B.notSynchronized
  subst hsz
  have hD := hD0.self (sz := s.heap.size)
  generalize hAe : va_A [(h0, .inr (0, [.ref c_parts, .ref c_strength, .ref c_drawnOn, .ref c_drawnIn, .ref c_sold, .ref c_looks, .int n_ce])), (c_drawnOn, .inl (k_drawnOn, 60, .inl f_drawnOn))] s.heap.size = A at hD ⊢
  have hA : ∀ q : Nat, s.heap.size ≤ q → A q := fun q h => by rw [← hAe]; exact Or.inr h
  have hS : va_S A s.heap s.heap [] := va_S.rf
  have hl := lv_entry ([.ref h0, .int v1]) (n := 2) (Nat.le_of_ble_eq_true rfl)
  rw [lg_entry_eq]
  generalize (lg_sl ([.ref h0, .int v1]) ++ List.replicate (2 - (lg_sl ([.ref h0, .int v1])).length) Slot.unset).toArray = ls at hl ⊢
  change lv_has ls 2 [(0, .ref h0), (1, .int v1)] at hl
  clear hD0 hAe
  refine go0 (wsP := fun H => va_P (dC, dI) vwCl [(h0, .inr (0, [.ref c_parts, .ref c_strength, .ref c_drawnOn, .ref c_drawnIn, .ref c_sold, .ref c_looks, .int n_ce])), (c_drawnOn, .inl (k_drawnOn, 60, .inl f_drawnOn))] H) hP hS ?_
  clear hP hS; intro H locs hP hS
  change va_P (dC, dI) vwCl [(h0, .inr (0, [.ref c_parts, .ref c_strength, .ref c_drawnOn, .ref c_drawnIn, .ref c_sold, .ref c_looks, .int n_ce])), (c_drawnOn, .inl (k_drawnOn, 60, .inl f_drawnOn))] H at hP
  refine lv_aload_n hx hb dX0_dayOf_0 rfl (lv_at hl 0 rfl) ?_
  refine lv_iload_n hx hb dX0_dayOf_1 rfl (lv_at hl 1 rfl) ?_
  have hPc := hP.sub (ws' := [(h0, .inr (0, [.ref c_parts, .ref c_strength, .ref c_drawnOn, .ref c_drawnIn, .ref c_sold, .ref c_looks, .int n_ce]))]) [0] rfl
  have hDc := hD.sub (ws' := [(h0, .inr (0, [.ref c_parts, .ref c_strength, .ref c_drawnOn, .ref c_drawnIn, .ref c_sold, .ref c_looks, .int n_ce]))]) [0] (by decide) rfl
  have hKc := hK.sub (tys' := []) [] rfl
  have hFc := va_free (wc := [(h0, .inr (0, [.ref c_parts, .ref c_strength, .ref c_drawnOn, .ref c_drawnIn, .ref c_sold, .ref c_looks, .int n_ce]))]) hD hS hA [0] rfl
  refine va_calli (va_runV (C := RX0) (As := [.int v1]) (rest := []) ⟨hx, hb, hml, hown, htb⟩ (kX0_has l dC dI H.size h0 c_parts c_strength c_drawnOn c_drawnIn c_sold c_looks n_ce v1 ) ⟨callB_of 1 htb (gd_c m_710) rfl rfl rfl (htb _ m_8) (htb _ m_715) hdX0_has ⟨(Nat.le_of_ble_eq_true rfl), (Nat.le_of_ble_eq_true rfl)⟩, htb _ m_708, htb _ m_709⟩ ⟨pcW_blind, va_recv hKc hPc (ci := 0) (q0 := 0) rfl rfl, pcW_at hPc hKc hDc hN⟩ rfl rfl hl.1 rfl (lv_room (Nat.le_of_ble_eq_true rfl)) dX0_dayOf_2 ⟨(Nat.le_of_ble_eq_true rfl), (Nat.le_of_ble_eq_true rfl)⟩) hS (fun q _ h => hFc q h) hFc (fun r_1 u t H1 locs1 ht hvm h_2 hB hz1 hk1 hS1 => ?_)
  obtain ⟨hP1, hK1, hD1⟩ := hB
  rw [ht] at hP1
  obtain ⟨hPn, hDn⟩ := va_join (wr := [(c_drawnOn, .inl (k_drawnOn, 60, .inl f_drawnOn))]) (w1 := [(h0, .inr (0, [.ref c_parts, .ref c_strength, .ref c_drawnOn, .ref c_drawnIn, .ref c_sold, .ref c_looks, .int n_ce]))]) hP hD [0] [1] rfl rfl (by decide) (by decide) hk1 hFc hP1 hD1
  clear hP1 hD1 hK1
  clear hP hD hS hPc hDc hKc hFc hk1 hz1 ht hvm
  clear t
  revert hS1 hPn hDn; generalize H1 = H; generalize locs1 = locs; intro hS hP hD
  change va_P (dC, dI) vwCl [(c_drawnOn, .inl (k_drawnOn, 60, .inl f_drawnOn)), (h0, .inr (0, [.ref c_parts, .ref c_strength, .ref c_drawnOn, .ref c_drawnIn, .ref c_sold, .ref c_looks, .int n_ce]))] H at hP
  change va_D A [(c_drawnOn, .inl (k_drawnOn, 60, .inl f_drawnOn)), (h0, .inr (0, [.ref c_parts, .ref c_strength, .ref c_drawnOn, .ref c_drawnIn, .ref c_sold, .ref c_looks, .int n_ce]))] at hD
  rcases h_2 with ⟨rfl, h_2⟩ | ⟨rfl, h_2⟩
  · refine lv_if_eq (tgt := 17) hx hb dX0_dayOf_5 (by decide) (fun c_3 => absurd c_3 (by decide)) ?_
    intro _
    refine lv_aload_n hx hb dX0_dayOf_8 rfl (lv_at hl 0 rfl) ?_
    refine va_get (D := (dC, dI)) (ci := 0) (v := .ref c_drawnOn) (C := RX0) (T := TX0) (N := 7) hx hb htb iX0 hown hK hP 1 rfl rfl 2 (Nat.le_of_ble_eq_true rfl) (htb _ m_192) (fun _ h9 => h9) rfl dX0_dayOf_9 ?_
    refine lv_iload_n hx hb dX0_dayOf_12 rfl (lv_at hl 1 rfl) ?_
    refine va_iald hx hb hK hP 0 0 rfl rfl (i_in rfl (lg_X0_dayOf_0 n_ce v1 yc h_2)) dX0_dayOf_13 ?_
    refine lv_topi (fun x_4 ex_5 => ?_)
    refine lv_goto (tgt := 18) hx hb dX0_dayOf_14 (by decide) ?_
    refine W.widen (k := 0) (n := 0) (Nat.le_of_ble_eq_true rfl) (Nat.le_of_ble_eq_true rfl) ?_
    have hP9 := hP.sub (ws' := [(h0, .inr (0, [.ref c_parts, .ref c_strength, .ref c_drawnOn, .ref c_drawnIn, .ref c_sold, .ref c_looks, .int n_ce])), (c_drawnOn, .inl (k_drawnOn, 60, .inl f_drawnOn))]) [1, 0] rfl
    have hD9 := hD.sub (ws' := [(h0, .inr (0, [.ref c_parts, .ref c_strength, .ref c_drawnOn, .ref c_drawnIn, .ref c_sold, .ref c_looks, .int n_ce])), (c_drawnOn, .inl (k_drawnOn, 60, .inl f_drawnOn))]) [1, 0] (by decide) rfl
    have hK9 := hK.sub (tys' := [(k_drawnOn, .int)]) [0] rfl
    exact W.iret (v := x_4) hx hb hr (fun t ht hW => ⟨⟨x_4, (), rfl, (lg_X0_dayOf_1 n_ce v1 yc h_2), ⟨by rw [ht]; exact hP9, va_K.moved hW.alike hK9, hD9⟩⟩, hS.F ht⟩) hS.2.2 dX0_dayOf_18
  · refine lv_if_eq (tgt := 17) hx hb dX0_dayOf_5 (by decide) ?_ (fun c_6 => absurd (by decide) c_6)
    intro _
    refine lv_iconst (v := (-1)) hx hb dX0_dayOf_17 (by decide) ?_
    refine W.widen (k := 0) (n := 0) (Nat.le_of_ble_eq_true rfl) (Nat.le_of_ble_eq_true rfl) ?_
    have hP9 := hP.sub (ws' := [(h0, .inr (0, [.ref c_parts, .ref c_strength, .ref c_drawnOn, .ref c_drawnIn, .ref c_sold, .ref c_looks, .int n_ce])), (c_drawnOn, .inl (k_drawnOn, 60, .inl f_drawnOn))]) [1, 0] rfl
    have hD9 := hD.sub (ws' := [(h0, .inr (0, [.ref c_parts, .ref c_strength, .ref c_drawnOn, .ref c_drawnIn, .ref c_sold, .ref c_looks, .int n_ce])), (c_drawnOn, .inl (k_drawnOn, 60, .inl f_drawnOn))]) [1, 0] (by decide) rfl
    have hK9 := hK.sub (tys' := [(k_drawnOn, .int)]) [0] rfl
    exact W.iret (v := (-1)) hx hb hr (fun t ht hW => ⟨⟨(-1), (), rfl, (lg_X0_dayOf_2 n_ce v1 yc h_2), ⟨by rw [ht]; exact hP9, va_K.moved hW.alike hK9, hD9⟩⟩, hS.F ht⟩) hS.2.2 dX0_dayOf_18

theorem lg_X1_credit_0 (v1 : Int32) (h_2 : 0 ≤ v1.toInt ∧ v1.toInt ≤ 9) : 0 ≤ v1.toInt ∧ v1.toInt < ((10 : Nat) : Int) := by
  have := rg_rng v1; omega
set_option maxHeartbeats 4000000 in
set_option maxRecDepth 100000 in
theorem kX1_credit (l : Launch) (dC : Nat → ClassId) (dI : Nat → Nat → Nat) (sz : Nat) (h0 : Nat) (o_came : Nat) (o_coins : Nat) (o_rem : Nat) (k_came : ClassId) (f_came : Nat → Int32) (v1 : Int32) (v2 : Int32) : Met l yX1_credit (Cond.code yX1_credit cX1_credit 3 none :: bg) ({ frames := 2, cells := 0, slots := 0, locals := 42 }) (pcW dC dI [.ref h0, .int v1, .int v2] sz [(h0, .inr (1, [.ref o_came, .ref o_coins, .ref o_rem])), (o_came, .inl (k_came, 10, .inl f_came))] [(k_came, .int)]) (va_Qv (fun (u : Unit) => True) (fun (u : Unit) (t : State) => ∃ (w_came : Nat → Int32), va_P (dC, dI) vwCl [(h0, .inr (1, [.ref o_came, .ref o_coins, .ref o_rem])), (o_came, .inl (k_came, 10, .inl w_came))] t.heap ∧ va_K (dC, dI) vwCl [] t ∧ va_D (va_A [(h0, .inr (1, [.ref o_came, .ref o_coins, .ref o_rem])), (o_came, .inl (k_came, 10, .inl f_came))] sz) [(h0, .inr (1, [.ref o_came, .ref o_coins, .ref o_rem])), (o_came, .inl (k_came, 10, .inl w_came))]) (va_A [(h0, .inr (1, [.ref o_came, .ref o_coins, .ref o_rem])), (o_came, .inl (k_came, 10, .inl f_came))] sz)) 0 0 (va_A [(h0, .inr (1, [.ref o_came, .ref o_coins, .ref o_rem])), (o_came, .inl (k_came, 10, .inl f_came))] sz) := by
  refine Met.ofW (cc := cX1_credit) (maxL := 3) (ret := none) pnX1 rfl ?_
  intro p e s m args below meth c s₁ B hml hv
  obtain ⟨rfl, hsz, hP, hK, hD0, hN⟩ := hv
  have hx := B.exec
  have hb := B.bytes
  have hr := B.returns
  have htb : ∀ w ∈ bg, w.before [.ref h0, .int v1, .int v2].toArray s = true := fun w h => atoms_spec (ws := Cond.code yX1_credit cX1_credit 3 none :: bg) B.pre w (List.mem_cons_of_mem _ h)
  have hown : s.vm.findClass RX1 = some m.cls := findClass_of_methodNamed B.named
  have hlocks := B.notSynchronized
  subst hsz
  have hD := hD0.self (sz := s.heap.size)
  generalize hAe : va_A [(h0, .inr (1, [.ref o_came, .ref o_coins, .ref o_rem])), (o_came, .inl (k_came, 10, .inl f_came))] s.heap.size = A at hD ⊢
  have hA : ∀ q : Nat, s.heap.size ≤ q → A q := fun q h => by rw [← hAe]; exact Or.inr h
  have hS : va_S A s.heap s.heap [] := va_S.rf
  have hl := lv_entry ([.ref h0, .int v1, .int v2]) (n := 3) (Nat.le_of_ble_eq_true rfl)
  rw [lg_entry_eq]
  generalize (lg_sl ([.ref h0, .int v1, .int v2]) ++ List.replicate (3 - (lg_sl ([.ref h0, .int v1, .int v2])).length) Slot.unset).toArray = ls at hl ⊢
  change lv_has ls 3 [(0, .ref h0), (1, .int v1), (2, .int v2)] at hl
  clear hD0 hAe
  refine go0 (wsP := fun H => va_P (dC, dI) vwCl [(h0, .inr (1, [.ref o_came, .ref o_coins, .ref o_rem])), (o_came, .inl (k_came, 10, .inl f_came))] H) hP hS ?_
  clear hP hS; intro H locs hP hS
  change va_P (dC, dI) vwCl [(h0, .inr (1, [.ref o_came, .ref o_coins, .ref o_rem])), (o_came, .inl (k_came, 10, .inl f_came))] H at hP
  refine lv_iload_n hx hb dX1_credit_0 rfl (lv_at hl 1 rfl) ?_
  have hPc := hP.sub (ws' := []) [] rfl
  have hDc := hD.sub (ws' := []) [] (by decide) rfl
  have hKc := hK.sub (tys' := []) [] rfl
  have hFc := va_free (wc := []) hD hS hA [] rfl
  refine va_calli (va_runSN (As := [.int v1]) (rest := []) ⟨hx, hb, hml, hown, htb⟩ (kX11_isMember l dC dI H.size v1 ) ⟨va_cnB 1 htb (gd_c m_358) rfl rfl rfl (hN.1 _ nm_26) (htb _ m_1) hdX11_isMember ⟨(Nat.le_of_ble_eq_true rfl), (Nat.le_of_ble_eq_true rfl)⟩, htb _ m_357, trivial⟩ ⟨pcW_blind, pcW_at hPc hKc hDc hN⟩ rfl rfl hl.1 rfl (lv_room (Nat.le_of_ble_eq_true rfl)) dX1_credit_1 ⟨(Nat.le_of_ble_eq_true rfl), (Nat.le_of_ble_eq_true rfl)⟩) hS (fun q _ h => hFc q h) hFc (fun r_1 u t H1 locs1 ht hvm h_2 hB hz1 hk1 hS1 => ?_)
  obtain ⟨hP1, hK1, hD1⟩ := hB
  rw [ht] at hP1
  obtain ⟨hPn, hDn⟩ := va_join (wr := [(h0, .inr (1, [.ref o_came, .ref o_coins, .ref o_rem])), (o_came, .inl (k_came, 10, .inl f_came))]) (w1 := []) hP hD [] [0, 1] rfl rfl (by decide) (by decide) hk1 hFc hP1 hD1
  clear hP1 hD1 hK1
  clear hP hD hS hPc hDc hKc hFc hk1 hz1 ht hvm
  clear t
  revert hS1 hPn hDn; generalize H1 = H; generalize locs1 = locs; intro hS hP hD
  change va_P (dC, dI) vwCl [(h0, .inr (1, [.ref o_came, .ref o_coins, .ref o_rem])), (o_came, .inl (k_came, 10, .inl f_came))] H at hP
  change va_D A [(h0, .inr (1, [.ref o_came, .ref o_coins, .ref o_rem])), (o_came, .inl (k_came, 10, .inl f_came))] at hD
  rcases h_2 with ⟨rfl, h_2⟩ | ⟨rfl, h_2⟩
  · refine lv_if_eq (tgt := 17) hx hb dX1_credit_4 (by decide) (fun c_3 => absurd c_3 (by decide)) ?_
    intro _
    refine lv_aload_n hx hb dX1_credit_7 rfl (lv_at hl 0 rfl) ?_
    refine va_get (D := (dC, dI)) (ci := 1) (v := .ref o_came) (C := RX1) (T := TX1) (N := 3) hx hb htb iX1 hown hK hP 0 rfl rfl 0 (Nat.le_of_ble_eq_true rfl) (htb _ m_219) (fun _ h9 => h9) rfl dX1_credit_8 ?_
    refine lv_iload_n hx hb dX1_credit_11 rfl (lv_at hl 1 rfl) ?_
    refine lv_dup2_11 hx hb dX1_credit_12 rfl rfl ?_
    refine va_iald hx hb hK hP 1 0 rfl rfl (i_in rfl (lg_X1_credit_0 v1 h_2)) dX1_credit_13 ?_
    refine lv_topi (fun x_4 ex_5 => ?_)
    refine lv_iload_n hx hb dX1_credit_14 rfl (lv_at hl 2 rfl) ?_
    refine lv_iadd hx hb dX1_credit_15 ?_
    refine lv_topi (fun x_6 ex_7 => ?_)
    refine va_iast hx hb hK hP hD hS 1 0 rfl rfl (i_in rfl (lg_X1_credit_0 v1 h_2)) dX1_credit_16 ?_
    clear hP hD hS; intro H locs hP hD hS
    change va_P (dC, dI) vwCl [(h0, .inr (1, [.ref o_came, .ref o_coins, .ref o_rem])), (o_came, .inl (k_came, 10, .inl (upd f_came (Int32.toNatClampNeg v1) x_6)))] H at hP
    change va_D A [(h0, .inr (1, [.ref o_came, .ref o_coins, .ref o_rem])), (o_came, .inl (k_came, 10, .inl (upd f_came (Int32.toNatClampNeg v1) x_6)))] at hD
    generalize upd f_came (Int32.toNatClampNeg v1) x_6 = g_9 at hP hD
    refine W.widen (k := 0) (n := 0) (Nat.le_of_ble_eq_true rfl) (Nat.le_of_ble_eq_true rfl) ?_
    have hP9 := hP.sub (ws' := [(h0, .inr (1, [.ref o_came, .ref o_coins, .ref o_rem])), (o_came, .inl (k_came, 10, .inl g_9))]) [0, 1] rfl
    have hD9 := hD.sub (ws' := [(h0, .inr (1, [.ref o_came, .ref o_coins, .ref o_rem])), (o_came, .inl (k_came, 10, .inl g_9))]) [0, 1] (by decide) rfl
    have hK9 := hK.sub (tys' := []) [] rfl
    exact W.vret hx hb hr (fun t ht hW => ⟨⟨(), rfl, trivial, ⟨g_9, by rw [ht]; exact hP9, va_K.moved hW.alike hK9, hD9⟩⟩, hS.F ht⟩) hS.2.2 dX1_credit_17
  · refine lv_if_eq (tgt := 17) hx hb dX1_credit_4 (by decide) ?_ (fun c_10 => absurd (by decide) c_10)
    intro _
    refine W.widen (k := 0) (n := 0) (Nat.le_of_ble_eq_true rfl) (Nat.le_of_ble_eq_true rfl) ?_
    have hP9 := hP.sub (ws' := [(h0, .inr (1, [.ref o_came, .ref o_coins, .ref o_rem])), (o_came, .inl (k_came, 10, .inl f_came))]) [0, 1] rfl
    have hD9 := hD.sub (ws' := [(h0, .inr (1, [.ref o_came, .ref o_coins, .ref o_rem])), (o_came, .inl (k_came, 10, .inl f_came))]) [0, 1] (by decide) rfl
    have hK9 := hK.sub (tys' := []) [] rfl
    exact W.vret hx hb hr (fun t ht hW => ⟨⟨(), rfl, trivial, ⟨f_came, by rw [ht]; exact hP9, va_K.moved hW.alike hK9, hD9⟩⟩, hS.F ht⟩) hS.2.2 dX1_credit_17

theorem lg_X1_cameTogether_0  : (10 - (0 : Int)) < ((Int.toNat (10 - (0 : Int)) + 1 : Nat) : Int) := by
  omega
theorem lg_X1_cameTogether_1  : 0 ≤ (0 : Int) ∧ (0 : Int) ≤ 10 := by
  omega
theorem lg_X1_cameTogether_2 (i_1 : Int32) (hi1_0 : 0 ≤ i_1.toInt ∧ i_1.toInt ≤ 10) (hmu1 : (10 - i_1.toInt) < ((0 : Nat) : Int)) : False := by
  have := rg_rng i_1; omega
theorem lg_X1_cameTogether_3 (i_1 : Int32) (n1 : Nat) (hi1_0 : 0 ≤ i_1.toInt ∧ i_1.toInt ≤ 10) (hmu1 : (10 - i_1.toInt) < ((n1 + 1 : Nat) : Int)) (t_3 : (10 : Int) ≤ i_1.toInt) : True := by
  have := rg_rng i_1; trivial
theorem lg_X1_cameTogether_4 (i_1 : Int32) (n1 : Nat) (hi1_0 : 0 ≤ i_1.toInt ∧ i_1.toInt ≤ 10) (hmu1 : (10 - i_1.toInt) < ((n1 + 1 : Nat) : Int)) (t_3 : i_1.toInt < (10 : Int)) : 0 ≤ i_1.toInt ∧ i_1.toInt < ((10 : Nat) : Int) := by
  have := rg_rng i_1; omega
theorem lg_X1_cameTogether_5 (i_1 : Int32) (n1 : Nat) (hi1_0 : 0 ≤ i_1.toInt ∧ i_1.toInt ≤ 10) (hmu1 : (10 - i_1.toInt) < ((n1 + 1 : Nat) : Int)) (t_3 : i_1.toInt < (10 : Int)) : -2147483648 ≤ i_1.toInt + 1 ∧ i_1.toInt + 1 < 2147483648 := by
  have := rg_rng i_1; omega
theorem lg_X1_cameTogether_6 (i_1 : Int32) (n1 : Nat) (x_9 : Int32) (hi1_0 : 0 ≤ i_1.toInt ∧ i_1.toInt ≤ 10) (hmu1 : (10 - i_1.toInt) < ((n1 + 1 : Nat) : Int)) (t_3 : i_1.toInt < (10 : Int)) (t_11 : x_9.toInt = i_1.toInt + 1) : (10 - x_9.toInt) < (n1 : Int) := by
  have := rg_rng i_1; have := rg_rng x_9; omega
theorem lg_X1_cameTogether_7 (i_1 : Int32) (n1 : Nat) (x_9 : Int32) (hi1_0 : 0 ≤ i_1.toInt ∧ i_1.toInt ≤ 10) (hmu1 : (10 - i_1.toInt) < ((n1 + 1 : Nat) : Int)) (t_3 : i_1.toInt < (10 : Int)) (t_11 : x_9.toInt = i_1.toInt + 1) : 0 ≤ x_9.toInt ∧ x_9.toInt ≤ 10 := by
  have := rg_rng i_1; have := rg_rng x_9; omega
set_option maxHeartbeats 4000000 in
set_option maxRecDepth 100000 in
theorem kX1_cameTogether (l : Launch) (dC : Nat → ClassId) (dI : Nat → Nat → Nat) (sz : Nat) (h0 : Nat) (o_came : Nat) (o_coins : Nat) (o_rem : Nat) (k_came : ClassId) (f_came : Nat → Int32) : Met l yX1_cameTogether (Cond.code yX1_cameTogether cX1_cameTogether 3 (some .int) :: bg) ({ frames := 0, cells := 0, slots := 0, locals := 0 }) (pcW dC dI [.ref h0] sz [(h0, .inr (1, [.ref o_came, .ref o_coins, .ref o_rem])), (o_came, .inl (k_came, 10, .inl f_came))] [(k_came, .int)]) (va_Qi (fun (r : Int32) (u : Unit) => True) (fun (u : Unit) (t : State) => va_P (dC, dI) vwCl [(h0, .inr (1, [.ref o_came, .ref o_coins, .ref o_rem])), (o_came, .inl (k_came, 10, .inl f_came))] t.heap ∧ va_K (dC, dI) vwCl [(k_came, .int)] t ∧ va_D (va_A [(h0, .inr (1, [.ref o_came, .ref o_coins, .ref o_rem])), (o_came, .inl (k_came, 10, .inl f_came))] sz) [(h0, .inr (1, [.ref o_came, .ref o_coins, .ref o_rem])), (o_came, .inl (k_came, 10, .inl f_came))]) (va_A [(h0, .inr (1, [.ref o_came, .ref o_coins, .ref o_rem])), (o_came, .inl (k_came, 10, .inl f_came))] sz)) 0 0 (va_A [(h0, .inr (1, [.ref o_came, .ref o_coins, .ref o_rem])), (o_came, .inl (k_came, 10, .inl f_came))] sz) := by
  refine Met.ofW (cc := cX1_cameTogether) (maxL := 3) (ret := (some .int)) pnX1 rfl ?_
  intro p e s m args below meth c s₁ B hml hv
  obtain ⟨rfl, hsz, hP, hK, hD0, hN⟩ := hv
  have hx := B.exec
  have hb := B.bytes
  have hr := B.returns
  have htb : ∀ w ∈ bg, w.before [.ref h0].toArray s = true := fun w h => atoms_spec (ws := Cond.code yX1_cameTogether cX1_cameTogether 3 (some .int) :: bg) B.pre w (List.mem_cons_of_mem _ h)
  have hown : s.vm.findClass RX1 = some m.cls := findClass_of_methodNamed B.named
  have hlocks := B.notSynchronized
  subst hsz
  have hD := hD0.self (sz := s.heap.size)
  generalize hAe : va_A [(h0, .inr (1, [.ref o_came, .ref o_coins, .ref o_rem])), (o_came, .inl (k_came, 10, .inl f_came))] s.heap.size = A at hD ⊢
  have hA : ∀ q : Nat, s.heap.size ≤ q → A q := fun q h => by rw [← hAe]; exact Or.inr h
  have hS : va_S A s.heap s.heap [] := va_S.rf
  have hl := lv_entry ([.ref h0]) (n := 3) (Nat.le_of_ble_eq_true rfl)
  rw [lg_entry_eq]
  generalize (lg_sl ([.ref h0]) ++ List.replicate (3 - (lg_sl ([.ref h0])).length) Slot.unset).toArray = ls at hl ⊢
  change lv_has ls 3 [(0, .ref h0)] at hl
  clear hD0 hAe
  refine go0 (wsP := fun H => va_P (dC, dI) vwCl [(h0, .inr (1, [.ref o_came, .ref o_coins, .ref o_rem])), (o_came, .inl (k_came, 10, .inl f_came))] H) hP hS ?_
  clear hP hS; intro H locs hP hS
  change va_P (dC, dI) vwCl [(h0, .inr (1, [.ref o_came, .ref o_coins, .ref o_rem])), (o_came, .inl (k_came, 10, .inl f_came))] H at hP
  refine lv_iconst (v := 0) hx hb dX1_cameTogether_0 (by decide) ?_
  refine lv_istore_n (lv' := [(1, .int 0), (0, .ref h0)]) hx hb dX1_cameTogether_1 rfl hl (by decide) rfl ?_
  clear hl; intro ls hl
  refine lv_iconst (v := 0) hx hb dX1_cameTogether_2 (by decide) ?_
  refine lv_istore_n (lv' := [(2, .int 0), (1, .int 0), (0, .ref h0)]) hx hb dX1_cameTogether_3 rfl hl (by decide) rfl ?_
  clear hl; intro ls hl
  refine (fun (lp : ∀ (n1 : Nat) (i_1 : Int32) (j_1 : Int32) (H : Heap) (locs : List Loc) (ls : Array Slot), (10 - i_1.toInt) < (n1 : Int) → (0 ≤ i_1.toInt ∧ i_1.toInt ≤ 10) → lv_has ls 3 [(2, .int i_1), (1, .int j_1), (0, .ref h0)] → va_P (dC, dI) vwCl [(h0, .inr (1, [.ref o_came, .ref o_coins, .ref o_rem])), (o_came, .inl (k_came, 10, .inl f_came))] H → va_D A [(h0, .inr (1, [.ref o_came, .ref o_coins, .ref o_rem])), (o_came, .inl (k_came, 10, .inl f_came))] → va_S A s.heap H locs → W p l e _ s m _ below meth c H locs _ _ _ (F0 m 4 ls [])) => lp (Int.toNat (10 - (0 : Int)) + 1) 0 0   H locs ls ((lg_X1_cameTogether_0 )) (lg_X1_cameTogether_1 )   hl hP hD hS) ?_
  clear hP hD hS hl
  intro n1
  induction n1 with
  | zero =>
    intro i_1 j_1 H locs ls hmu1 hi1_0   hl hP hD hS
    exact False.elim (lg_X1_cameTogether_2 i_1 hi1_0 hmu1)
  | succ n1 ih1 =>
    intro i_1 j_1 H locs ls hmu1 hi1_0   hl hP hD hS
    refine lv_iload_n hx hb dX1_cameTogether_4 rfl (lv_at hl 0 rfl) ?_
    refine lv_bipush (v := 10) hx hb dX1_cameTogether_5 (by decide) ?_
    refine lv_icmp_ge (tgt := 25) hx hb dX1_cameTogether_7 (by decide) (fun c_2 => ?_) (fun c_2 => ?_)
    · have t_3 : (10 : Int) ≤ i_1.toInt := i_le (by decide) rfl c_2
      refine lv_iload_n hx hb dX1_cameTogether_25 rfl (lv_at hl 1 rfl) ?_
      refine W.widen (k := 0) (n := 0) (Nat.le_of_ble_eq_true rfl) (Nat.le_of_ble_eq_true rfl) ?_
      have hP9 := hP.sub (ws' := [(h0, .inr (1, [.ref o_came, .ref o_coins, .ref o_rem])), (o_came, .inl (k_came, 10, .inl f_came))]) [0, 1] rfl
      have hD9 := hD.sub (ws' := [(h0, .inr (1, [.ref o_came, .ref o_coins, .ref o_rem])), (o_came, .inl (k_came, 10, .inl f_came))]) [0, 1] (by decide) rfl
      have hK9 := hK.sub (tys' := [(k_came, .int)]) [0] rfl
      exact W.iret (v := j_1) hx hb hr (fun t ht hW => ⟨⟨j_1, (), rfl, (lg_X1_cameTogether_3 i_1 n1 hi1_0 hmu1 t_3), ⟨by rw [ht]; exact hP9, va_K.moved hW.alike hK9, hD9⟩⟩, hS.F ht⟩) hS.2.2 dX1_cameTogether_26
    · have t_3 : i_1.toInt < (10 : Int) := i_nle (by decide) rfl c_2
      refine lv_iload_n hx hb dX1_cameTogether_10 rfl (lv_at hl 1 rfl) ?_
      refine lv_aload_n hx hb dX1_cameTogether_11 rfl (lv_at hl 2 rfl) ?_
      refine va_get (D := (dC, dI)) (ci := 1) (v := .ref o_came) (C := RX1) (T := TX1) (N := 3) hx hb htb iX1 hown hK hP 0 rfl rfl 0 (Nat.le_of_ble_eq_true rfl) (htb _ m_219) (fun _ h9 => h9) rfl dX1_cameTogether_12 ?_
      refine lv_iload_n hx hb dX1_cameTogether_15 rfl (lv_at hl 0 rfl) ?_
      refine va_iald hx hb hK hP 1 0 rfl rfl (i_in rfl (lg_X1_cameTogether_4 i_1 n1 hi1_0 hmu1 t_3)) dX1_cameTogether_16 ?_
      refine lv_topi (fun x_4 ex_5 => ?_)
      refine lv_iadd hx hb dX1_cameTogether_17 ?_
      refine lv_topi (fun x_6 ex_7 => ?_)
      refine lv_istore_n (lv' := [(1, .int x_6), (2, .int i_1), (0, .ref h0)]) hx hb dX1_cameTogether_18 rfl hl (by decide) rfl ?_
      clear hl; intro ls hl
      obtain ⟨x_9, ex_10⟩ : ∃ y : Int32, y = i_1 + Int32.ofInt 1 := ⟨_, rfl⟩
      have t_11 : x_9.toInt = i_1.toInt + 1 := i_add rfl (by decide) (lg_X1_cameTogether_5 i_1 n1 hi1_0 hmu1 t_3) ex_10
      refine lv_iinc (v := x_9) (lv' := [(2, .int x_9), (1, .int x_6), (0, .ref h0)]) hx hb dX1_cameTogether_19 hl (k := 1) rfl ex_10.symm (by decide) rfl ?_
      clear hl; intro ls hl
      refine lv_goto (tgt := 4) hx hb dX1_cameTogether_22 (by decide) ?_
      exact ih1 x_9 x_6  H locs ls (lg_X1_cameTogether_6 i_1 n1 x_9 hi1_0 hmu1 t_3 t_11) (lg_X1_cameTogether_7 i_1 n1 x_9 hi1_0 hmu1 t_3 t_11)   (lv_sub hl [0, 1, 2] rfl) (hP.sub [0, 1] rfl) (hD.sub [0, 1] (by decide) rfl) hS

theorem lg_X1_tell_0 (v1 : Int32) (v2 : Int32) (h_2 : 0 ≤ v1.toInt ∧ v1.toInt ≤ 9) (e_4 : v2 = 0) : 0 ≤ v1.toInt ∧ v1.toInt < ((10 : Nat) : Int) := by
  have := rg_rng v1; omega
theorem lg_X1_tell_1 (v1 : Int32) (v2 : Int32) (h_2 : 0 ≤ v1.toInt ∧ v1.toInt ≤ 9) (e_4 : v2 = 0) : True := by
  have := rg_rng v1; trivial
theorem lg_X1_tell_2 (v1 : Int32) (v2 : Int32) (h_2 : 0 ≤ v1.toInt ∧ v1.toInt ≤ 9) (e_4 : ¬ v2 = 0) (e_7 : v2 = 1) : 0 ≤ v1.toInt ∧ v1.toInt < ((10 : Nat) : Int) := by
  have := rg_rng v1; omega
theorem lg_X1_tell_3 (v1 : Int32) (v2 : Int32) (h_2 : 0 ≤ v1.toInt ∧ v1.toInt ≤ 9) (e_4 : ¬ v2 = 0) (e_7 : v2 = 1) : True := by
  have := rg_rng v1; trivial
theorem lg_X1_tell_4 (v1 : Int32) (v2 : Int32) (h_2 : 0 ≤ v1.toInt ∧ v1.toInt ≤ 9) (e_4 : ¬ v2 = 0) (e_7 : ¬ v2 = 1) : True := by
  have := rg_rng v1; trivial
theorem lg_X1_tell_5 (v1 : Int32) (h_2 : ¬ (0 ≤ v1.toInt ∧ v1.toInt ≤ 9)) : True := by
  have := rg_rng v1; trivial
set_option maxHeartbeats 4000000 in
set_option maxRecDepth 100000 in
theorem kX1_tell (l : Launch) (dC : Nat → ClassId) (dI : Nat → Nat → Nat) (sz : Nat) (h0 : Nat) (o_came : Nat) (o_coins : Nat) (o_rem : Nat) (k_came : ClassId) (k_coins : ClassId) (f_came : Nat → Int32) (f_coins : Nat → Int32) (v1 : Int32) (v2 : Int32) : Met l yX1_tell (Cond.code yX1_tell cX1_tell 3 (some .int) :: bg) ({ frames := 2, cells := 0, slots := 0, locals := 42 }) (pcW dC dI [.ref h0, .int v1, .int v2] sz [(h0, .inr (1, [.ref o_came, .ref o_coins, .ref o_rem])), (o_came, .inl (k_came, 10, .inl f_came)), (o_coins, .inl (k_coins, 10, .inl f_coins))] [(k_came, .int), (k_coins, .int)]) (va_Qi (fun (r : Int32) (u : Unit) => True) (fun (u : Unit) (t : State) => va_P (dC, dI) vwCl [(h0, .inr (1, [.ref o_came, .ref o_coins, .ref o_rem])), (o_came, .inl (k_came, 10, .inl f_came)), (o_coins, .inl (k_coins, 10, .inl f_coins))] t.heap ∧ va_K (dC, dI) vwCl [(k_came, .int), (k_coins, .int)] t ∧ va_D (va_A [(h0, .inr (1, [.ref o_came, .ref o_coins, .ref o_rem])), (o_came, .inl (k_came, 10, .inl f_came)), (o_coins, .inl (k_coins, 10, .inl f_coins))] sz) [(h0, .inr (1, [.ref o_came, .ref o_coins, .ref o_rem])), (o_came, .inl (k_came, 10, .inl f_came)), (o_coins, .inl (k_coins, 10, .inl f_coins))]) (va_A [(h0, .inr (1, [.ref o_came, .ref o_coins, .ref o_rem])), (o_came, .inl (k_came, 10, .inl f_came)), (o_coins, .inl (k_coins, 10, .inl f_coins))] sz)) 0 0 (va_A [(h0, .inr (1, [.ref o_came, .ref o_coins, .ref o_rem])), (o_came, .inl (k_came, 10, .inl f_came)), (o_coins, .inl (k_coins, 10, .inl f_coins))] sz) := by
  refine Met.ofW (cc := cX1_tell) (maxL := 3) (ret := (some .int)) pnX1 rfl ?_
  intro p e s m args below meth c s₁ B hml hv
  obtain ⟨rfl, hsz, hP, hK, hD0, hN⟩ := hv
  have hx := B.exec
  have hb := B.bytes
  have hr := B.returns
  have htb : ∀ w ∈ bg, w.before [.ref h0, .int v1, .int v2].toArray s = true := fun w h => atoms_spec (ws := Cond.code yX1_tell cX1_tell 3 (some .int) :: bg) B.pre w (List.mem_cons_of_mem _ h)
  have hown : s.vm.findClass RX1 = some m.cls := findClass_of_methodNamed B.named
  have hlocks := B.notSynchronized
  subst hsz
  have hD := hD0.self (sz := s.heap.size)
  generalize hAe : va_A [(h0, .inr (1, [.ref o_came, .ref o_coins, .ref o_rem])), (o_came, .inl (k_came, 10, .inl f_came)), (o_coins, .inl (k_coins, 10, .inl f_coins))] s.heap.size = A at hD ⊢
  have hA : ∀ q : Nat, s.heap.size ≤ q → A q := fun q h => by rw [← hAe]; exact Or.inr h
  have hS : va_S A s.heap s.heap [] := va_S.rf
  have hl := lv_entry ([.ref h0, .int v1, .int v2]) (n := 3) (Nat.le_of_ble_eq_true rfl)
  rw [lg_entry_eq]
  generalize (lg_sl ([.ref h0, .int v1, .int v2]) ++ List.replicate (3 - (lg_sl ([.ref h0, .int v1, .int v2])).length) Slot.unset).toArray = ls at hl ⊢
  change lv_has ls 3 [(0, .ref h0), (1, .int v1), (2, .int v2)] at hl
  clear hD0 hAe
  refine go0 (wsP := fun H => va_P (dC, dI) vwCl [(h0, .inr (1, [.ref o_came, .ref o_coins, .ref o_rem])), (o_came, .inl (k_came, 10, .inl f_came)), (o_coins, .inl (k_coins, 10, .inl f_coins))] H) hP hS ?_
  clear hP hS; intro H locs hP hS
  change va_P (dC, dI) vwCl [(h0, .inr (1, [.ref o_came, .ref o_coins, .ref o_rem])), (o_came, .inl (k_came, 10, .inl f_came)), (o_coins, .inl (k_coins, 10, .inl f_coins))] H at hP
  refine lv_iload_n hx hb dX1_tell_0 rfl (lv_at hl 1 rfl) ?_
  have hPc := hP.sub (ws' := []) [] rfl
  have hDc := hD.sub (ws' := []) [] (by decide) rfl
  have hKc := hK.sub (tys' := []) [] rfl
  have hFc := va_free (wc := []) hD hS hA [] rfl
  refine va_calli (va_runSN (As := [.int v1]) (rest := []) ⟨hx, hb, hml, hown, htb⟩ (kX11_isMember l dC dI H.size v1 ) ⟨va_cnB 1 htb (gd_c m_358) rfl rfl rfl (hN.1 _ nm_26) (htb _ m_1) hdX11_isMember ⟨(Nat.le_of_ble_eq_true rfl), (Nat.le_of_ble_eq_true rfl)⟩, htb _ m_357, trivial⟩ ⟨pcW_blind, pcW_at hPc hKc hDc hN⟩ rfl rfl hl.1 rfl (lv_room (Nat.le_of_ble_eq_true rfl)) dX1_tell_1 ⟨(Nat.le_of_ble_eq_true rfl), (Nat.le_of_ble_eq_true rfl)⟩) hS (fun q _ h => hFc q h) hFc (fun r_1 u t H1 locs1 ht hvm h_2 hB hz1 hk1 hS1 => ?_)
  obtain ⟨hP1, hK1, hD1⟩ := hB
  rw [ht] at hP1
  obtain ⟨hPn, hDn⟩ := va_join (wr := [(h0, .inr (1, [.ref o_came, .ref o_coins, .ref o_rem])), (o_came, .inl (k_came, 10, .inl f_came)), (o_coins, .inl (k_coins, 10, .inl f_coins))]) (w1 := []) hP hD [] [0, 1, 2] rfl rfl (by decide) (by decide) hk1 hFc hP1 hD1
  clear hP1 hD1 hK1
  clear hP hD hS hPc hDc hKc hFc hk1 hz1 ht hvm
  clear t
  revert hS1 hPn hDn; generalize H1 = H; generalize locs1 = locs; intro hS hP hD
  change va_P (dC, dI) vwCl [(h0, .inr (1, [.ref o_came, .ref o_coins, .ref o_rem])), (o_came, .inl (k_came, 10, .inl f_came)), (o_coins, .inl (k_coins, 10, .inl f_coins))] H at hP
  change va_D A [(h0, .inr (1, [.ref o_came, .ref o_coins, .ref o_rem])), (o_came, .inl (k_came, 10, .inl f_came)), (o_coins, .inl (k_coins, 10, .inl f_coins))] at hD
  rcases h_2 with ⟨rfl, h_2⟩ | ⟨rfl, h_2⟩
  · refine lv_if_ne (tgt := 9) hx hb dX1_tell_4 (by decide) ?_ (fun c_3 => absurd c_3 (by decide))
    intro _
    refine lv_iload_n hx hb dX1_tell_9 rfl (lv_at hl 2 rfl) ?_
    by_cases e_4 : v2 = 0
    · refine lv_lookup (off := 26) (tgt := 36) hx hb dX1_tell_10 (by decide) (by rw [e_4]; decide) (by decide) ?_
      refine lv_aload_n hx hb dX1_tell_36 rfl (lv_at hl 0 rfl) ?_
      refine va_get (D := (dC, dI)) (ci := 1) (v := .ref o_came) (C := RX1) (T := TX1) (N := 3) hx hb htb iX1 hown hK hP 0 rfl rfl 0 (Nat.le_of_ble_eq_true rfl) (htb _ m_219) (fun _ h9 => h9) rfl dX1_tell_37 ?_
      refine lv_iload_n hx hb dX1_tell_40 rfl (lv_at hl 1 rfl) ?_
      refine va_iald hx hb hK hP 1 0 rfl rfl (i_in rfl (lg_X1_tell_0 v1 v2 h_2 e_4)) dX1_tell_41 ?_
      refine lv_topi (fun x_5 ex_6 => ?_)
      refine W.widen (k := 0) (n := 0) (Nat.le_of_ble_eq_true rfl) (Nat.le_of_ble_eq_true rfl) ?_
      have hP9 := hP.sub (ws' := [(h0, .inr (1, [.ref o_came, .ref o_coins, .ref o_rem])), (o_came, .inl (k_came, 10, .inl f_came)), (o_coins, .inl (k_coins, 10, .inl f_coins))]) [0, 1, 2] rfl
      have hD9 := hD.sub (ws' := [(h0, .inr (1, [.ref o_came, .ref o_coins, .ref o_rem])), (o_came, .inl (k_came, 10, .inl f_came)), (o_coins, .inl (k_coins, 10, .inl f_coins))]) [0, 1, 2] (by decide) rfl
      have hK9 := hK.sub (tys' := [(k_came, .int), (k_coins, .int)]) [0, 1] rfl
      exact W.iret (v := x_5) hx hb hr (fun t ht hW => ⟨⟨x_5, (), rfl, (lg_X1_tell_1 v1 v2 h_2 e_4), ⟨by rw [ht]; exact hP9, va_K.moved hW.alike hK9, hD9⟩⟩, hS.F ht⟩) hS.2.2 dX1_tell_42
    by_cases e_7 : v2 = 1
    · refine lv_lookup (off := 33) (tgt := 43) hx hb dX1_tell_10 (by decide) (by rw [e_7]; decide) (by decide) ?_
      refine lv_aload_n hx hb dX1_tell_43 rfl (lv_at hl 0 rfl) ?_
      refine va_get (D := (dC, dI)) (ci := 1) (v := .ref o_coins) (C := RX1) (T := TX1) (N := 3) hx hb htb iX1 hown hK hP 0 rfl rfl 1 (Nat.le_of_ble_eq_true rfl) (htb _ m_220) (fun _ h9 => h9) rfl dX1_tell_44 ?_
      refine lv_iload_n hx hb dX1_tell_47 rfl (lv_at hl 1 rfl) ?_
      refine va_iald hx hb hK hP 2 1 rfl rfl (i_in rfl (lg_X1_tell_2 v1 v2 h_2 e_4 e_7)) dX1_tell_48 ?_
      refine lv_topi (fun x_8 ex_9 => ?_)
      refine W.widen (k := 0) (n := 0) (Nat.le_of_ble_eq_true rfl) (Nat.le_of_ble_eq_true rfl) ?_
      have hP9 := hP.sub (ws' := [(h0, .inr (1, [.ref o_came, .ref o_coins, .ref o_rem])), (o_came, .inl (k_came, 10, .inl f_came)), (o_coins, .inl (k_coins, 10, .inl f_coins))]) [0, 1, 2] rfl
      have hD9 := hD.sub (ws' := [(h0, .inr (1, [.ref o_came, .ref o_coins, .ref o_rem])), (o_came, .inl (k_came, 10, .inl f_came)), (o_coins, .inl (k_coins, 10, .inl f_coins))]) [0, 1, 2] (by decide) rfl
      have hK9 := hK.sub (tys' := [(k_came, .int), (k_coins, .int)]) [0, 1] rfl
      exact W.iret (v := x_8) hx hb hr (fun t ht hW => ⟨⟨x_8, (), rfl, (lg_X1_tell_3 v1 v2 h_2 e_4 e_7), ⟨by rw [ht]; exact hP9, va_K.moved hW.alike hK9, hD9⟩⟩, hS.F ht⟩) hS.2.2 dX1_tell_49
    refine lv_lookup (off := 40) (tgt := 50) hx hb dX1_tell_10 (by decide) ((lv_osw e_4 (by decide)).trans ((lv_osw e_7 (by decide)).trans rfl)) (by decide) ?_
    refine lv_iconst (v := (-1)) hx hb dX1_tell_50 (by decide) ?_
    refine W.widen (k := 0) (n := 0) (Nat.le_of_ble_eq_true rfl) (Nat.le_of_ble_eq_true rfl) ?_
    have hP9 := hP.sub (ws' := [(h0, .inr (1, [.ref o_came, .ref o_coins, .ref o_rem])), (o_came, .inl (k_came, 10, .inl f_came)), (o_coins, .inl (k_coins, 10, .inl f_coins))]) [0, 1, 2] rfl
    have hD9 := hD.sub (ws' := [(h0, .inr (1, [.ref o_came, .ref o_coins, .ref o_rem])), (o_came, .inl (k_came, 10, .inl f_came)), (o_coins, .inl (k_coins, 10, .inl f_coins))]) [0, 1, 2] (by decide) rfl
    have hK9 := hK.sub (tys' := [(k_came, .int), (k_coins, .int)]) [0, 1] rfl
    exact W.iret (v := (-1)) hx hb hr (fun t ht hW => ⟨⟨(-1), (), rfl, (lg_X1_tell_4 v1 v2 h_2 e_4 e_7), ⟨by rw [ht]; exact hP9, va_K.moved hW.alike hK9, hD9⟩⟩, hS.F ht⟩) hS.2.2 dX1_tell_51
  · refine lv_if_ne (tgt := 9) hx hb dX1_tell_4 (by decide) (fun c_10 => absurd (by decide) c_10) ?_
    intro _
    refine lv_iconst (v := (-1)) hx hb dX1_tell_7 (by decide) ?_
    refine W.widen (k := 0) (n := 0) (Nat.le_of_ble_eq_true rfl) (Nat.le_of_ble_eq_true rfl) ?_
    have hP9 := hP.sub (ws' := [(h0, .inr (1, [.ref o_came, .ref o_coins, .ref o_rem])), (o_came, .inl (k_came, 10, .inl f_came)), (o_coins, .inl (k_coins, 10, .inl f_coins))]) [0, 1, 2] rfl
    have hD9 := hD.sub (ws' := [(h0, .inr (1, [.ref o_came, .ref o_coins, .ref o_rem])), (o_came, .inl (k_came, 10, .inl f_came)), (o_coins, .inl (k_coins, 10, .inl f_coins))]) [0, 1, 2] (by decide) rfl
    have hK9 := hK.sub (tys' := [(k_came, .int), (k_coins, .int)]) [0, 1] rfl
    exact W.iret (v := (-1)) hx hb hr (fun t ht hW => ⟨⟨(-1), (), rfl, (lg_X1_tell_5 v1 h_2), ⟨by rw [ht]; exact hP9, va_K.moved hW.alike hK9, hD9⟩⟩, hS.F ht⟩) hS.2.2 dX1_tell_8

set_option maxHeartbeats 4000000 in
set_option maxRecDepth 100000 in
theorem lp_fill {p : Program} {l : Launch} {e : Env} {R : Room} {s : State} {m : MethodId} {args : Array Value} {below : List Frame} {meth : Method} {c : Code} {cells slots : Nat} {Q : State → Prop} {A : Nat → Prop} {dC : Nat → ClassId} {dI : Nat → Nat → Nat} (a0 : Nat) (k0 : ClassId) (n0 : Nat) (v1 : Int32) (hn0 : n0 < 1000) (hx : p.tables.exec = Jvm.exec) (hb : c.code = cJ7_fill_53178) (hK : va_K (dC, dI) vwCl [(k0, .int)] s) (K : ∀ (f : Nat → Int32) (H : Heap) (locs : List Loc) (ls : Array Slot), va_P (dC, dI) vwCl [(a0, .inl (k0, n0, .inl f))] H → va_D A [(a0, .inl (k0, n0, .inl f))] → va_S A s.heap H locs → W p l e R s m args below meth c H locs cells slots Q (F0 m 20 ls [])) : ∀ (n i : Nat) (f : Nat → Int32) (H : Heap) (locs : List Loc) (ls : Array Slot), i + n = n0 → lv_has ls 4 [(3, .int (nI n0)), (2, .int (nI i)), (0, .ref a0), (1, .int v1)] → va_P (dC, dI) vwCl [(a0, .inl (k0, n0, .inl f))] H → va_D A [(a0, .inl (k0, n0, .inl f))] → va_S A s.heap H locs → W p l e R s m args below meth c H locs cells slots Q (F0 m 5 ls []) := by
  intro n
  induction n with
  | zero =>
    intro i f H locs ls hin hl hP hD hS
    obtain rfl : i = n0 := by omega
    refine lv_iload_n hx hb dJ7_fill_53178_5 rfl (lv_at hl 1 rfl) ?_
    refine lv_iload_n hx hb dJ7_fill_53178_6 rfl (lv_at hl 0 rfl) ?_
    refine lv_icmp_ge (tgt := 20) hx hb dJ7_fill_53178_7 (by decide) ?_ (fun c_1 => absurd (nI_le (Nat.le_refl _) (by omega)) c_1)
    intro _
    exact K f H locs ls hP hD hS
  | succ n ih =>
    intro i f H locs ls hin hl hP hD hS
    have hi : i < n0 := by omega
    refine lv_iload_n hx hb dJ7_fill_53178_5 rfl (lv_at hl 1 rfl) ?_
    refine lv_iload_n hx hb dJ7_fill_53178_6 rfl (lv_at hl 0 rfl) ?_
    refine lv_icmp_ge (tgt := 20) hx hb dJ7_fill_53178_7 (by decide) (fun c_1 => absurd c_1 (nI_ge hi (by omega))) ?_
    intro _
    refine lv_aload_n hx hb dJ7_fill_53178_10 rfl (lv_at hl 2 rfl) ?_
    refine lv_iload_n hx hb dJ7_fill_53178_11 rfl (lv_at hl 1 rfl) ?_
    refine lv_iload_n hx hb dJ7_fill_53178_12 rfl (lv_at hl 3 rfl) ?_
    refine va_iast hx hb hK hP hD hS 0 0 rfl rfl (vp_in_nI hi (by omega)) dJ7_fill_53178_13 ?_
    clear hP hD hS; intro H locs hP hD hS
    refine lv_iinc (v := (nI (i + 1))) (lv' := [(2, .int (nI (i + 1))), (3, .int (nI n0)), (0, .ref a0), (1, .int v1)]) hx hb dJ7_fill_53178_14 hl (k := 1) rfl (nI_1 i) (by decide) rfl ?_
    clear hl; intro ls hl
    refine lv_goto (tgt := 5) hx hb dJ7_fill_53178_17 (by decide) ?_
    exact ih (i + 1) _ H locs ls (by omega) (lv_sub hl [1, 0, 2, 3] rfl) hP hD hS
set_option maxHeartbeats 4000000 in
set_option maxRecDepth 100000 in
theorem kJ7_fill_53178 (l : Launch) (dC : Nat → ClassId) (dI : Nat → Nat → Nat) (sz : Nat) (a0 : Nat) (k0 : ClassId) (n0 : Nat) (f0 : Nat → Int32) (v1 : Int32) (hn0 : n0 < 1000) : Met l yJ7_fill_53178 (Cond.code yJ7_fill_53178 cJ7_fill_53178 4 none :: bg) ({ frames := 0, cells := 0, slots := 0, locals := 0 }) (pcW dC dI [.ref a0, .int v1] sz [(a0, .inl (k0, n0, .inl f0))] [(k0, .int)]) (va_Qv (fun (u : Unit) => True) (fun (u : Unit) (t : State) => ∃ (w_f : Nat → Int32), va_P (dC, dI) vwCl [(a0, .inl (k0, n0, .inl w_f))] t.heap ∧ va_K (dC, dI) vwCl [] t ∧ va_D (va_A [(a0, .inl (k0, n0, .inl f0))] sz) [(a0, .inl (k0, n0, .inl w_f))]) (va_A [(a0, .inl (k0, n0, .inl f0))] sz)) 0 0 (va_A [(a0, .inl (k0, n0, .inl f0))] sz) := by
  refine Met.ofW (cc := cJ7_fill_53178) (maxL := 4) (ret := none) pnJ7 rfl ?_
  intro p e s m args below meth c s₁ B hml hv
  obtain ⟨rfl, hsz, hP, hK, hD0, hN⟩ := hv
  have hx := B.exec
  have hb := B.bytes
  have hr := B.returns
  have hlocks := B.notSynchronized
  subst hsz
  have hD := hD0.self (sz := s.heap.size)
  generalize hAe : va_A [(a0, .inl (k0, n0, .inl f0))] s.heap.size = A at hD ⊢
  have hA : ∀ q : Nat, s.heap.size ≤ q → A q := fun q h => by rw [← hAe]; exact Or.inr h
  have hS : va_S A s.heap s.heap [] := va_S.rf
  have hl := lv_entry ([.ref a0, .int v1]) (n := 4) (Nat.le_of_ble_eq_true rfl)
  rw [lg_entry_eq]
  generalize (lg_sl ([.ref a0, .int v1]) ++ List.replicate (4 - (lg_sl ([.ref a0, .int v1])).length) Slot.unset).toArray = ls at hl ⊢
  change lv_has ls 4 [(0, .ref a0), (1, .int v1)] at hl
  refine lv_iconst (v := 0) hx hb dJ7_fill_53178_0 (by decide) ?_
  refine lv_istore_n (lv' := [(2, .int 0), (0, .ref a0), (1, .int v1)]) hx hb dJ7_fill_53178_1 rfl hl (by decide) rfl ?_
  clear hl; intro ls hl
  refine lv_aload_n hx hb dJ7_fill_53178_2 rfl (lv_at hl 1 rfl) ?_
  refine va_alen (v := nI n0) hx hb hK hP 0 0 rfl rfl rfl dJ7_fill_53178_3 ?_
  refine lv_istore_n (lv' := [(3, .int (nI n0)), (2, .int 0), (0, .ref a0), (1, .int v1)]) hx hb dJ7_fill_53178_4 rfl hl (by decide) rfl ?_
  clear hl; intro ls hl
  change lv_has ls 4 [(3, .int (nI n0)), (2, .int (nI 0)), (0, .ref a0), (1, .int v1)] at hl
  refine lp_fill a0 k0 n0 v1 hn0 hx hb hK ?_ n0 0 f0 s.heap [] ls (by omega) hl hP hD hS
  clear hP hD hS hl ls; intro f H locs ls hP hD hS
  exact W.vret hx hb hr (fun t ht hW => ⟨⟨(), rfl, trivial, ⟨f, by rw [ht]; exact hP, va_K.moved hW.alike (hK.sub (tys' := []) [] rfl), hD⟩⟩, hS.F ht⟩) hS.2.2 dJ7_fill_53178_20

theorem lg_X2_add_0 (n_tr : Int32) (n_ho : Int32) (yg : 0 ≤ n_tr.toInt ∧ n_tr.toInt ≤ 60 ∧ 0 ≤ n_ho.toInt ∧ n_ho.toInt ≤ 300) (t_2 : n_tr.toInt < (60 : Int)) : -2147483648 ≤ n_tr.toInt + (1 : Int) ∧ n_tr.toInt + (1 : Int) < 2147483648 := by
  have := rg_rng n_tr; have := rg_rng n_ho; omega
theorem lg_X2_add_1 (n_tr : Int32) (n_ho : Int32) (x_3 : Int32) (yg : 0 ≤ n_tr.toInt ∧ n_tr.toInt ≤ 60 ∧ 0 ≤ n_ho.toInt ∧ n_ho.toInt ≤ 300) (t_2 : n_tr.toInt < (60 : Int)) (t_5 : x_3.toInt = n_tr.toInt + (1 : Int)) : 0 ≤ n_tr.toInt ∧ n_tr.toInt < ((60 : Nat) : Int) := by
  have := rg_rng n_tr; have := rg_rng n_ho; have := rg_rng x_3; omega
theorem lg_X2_add_2 (n_tr : Int32) (n_ho : Int32) (x_3 : Int32) (yg : 0 ≤ n_tr.toInt ∧ n_tr.toInt ≤ 60 ∧ 0 ≤ n_ho.toInt ∧ n_ho.toInt ≤ 300) (t_2 : n_tr.toInt < (60 : Int)) (t_5 : x_3.toInt = n_tr.toInt + (1 : Int)) : (n_tr.toInt < 60 ∧ x_3.toInt = n_tr.toInt + 1) ∨ (n_tr.toInt = 60 ∧ x_3.toInt = n_tr.toInt) := by
  have := rg_rng n_tr; have := rg_rng n_ho; have := rg_rng x_3; omega
theorem lg_X2_add_3 (n_tr : Int32) (n_ho : Int32) (x_3 : Int32) (yg : 0 ≤ n_tr.toInt ∧ n_tr.toInt ≤ 60 ∧ 0 ≤ n_ho.toInt ∧ n_ho.toInt ≤ 300) (t_2 : n_tr.toInt < (60 : Int)) (t_5 : x_3.toInt = n_tr.toInt + (1 : Int)) : x_3.toInt = n_tr.toInt + 1 := by
  have := rg_rng n_tr; have := rg_rng n_ho; have := rg_rng x_3; omega
theorem lg_X2_add_4 (n_tr : Int32) (n_ho : Int32) (x_3 : Int32) (yg : 0 ≤ n_tr.toInt ∧ n_tr.toInt ≤ 60 ∧ 0 ≤ n_ho.toInt ∧ n_ho.toInt ≤ 300) (t_2 : n_tr.toInt < (60 : Int)) (t_5 : x_3.toInt = n_tr.toInt + (1 : Int)) : (n_tr.toInt < 60 ∧ n_tr.toInt = n_tr.toInt) ∨ (n_tr.toInt = 60 ∧ n_tr.toInt = (-1)) := by
  have := rg_rng n_tr; have := rg_rng n_ho; have := rg_rng x_3; omega
theorem lg_X2_add_5 (n_tr : Int32) (n_ho : Int32) (yg : 0 ≤ n_tr.toInt ∧ n_tr.toInt ≤ 60 ∧ 0 ≤ n_ho.toInt ∧ n_ho.toInt ≤ 300) (t_2 : (60 : Int) ≤ n_tr.toInt) : (n_tr.toInt < 60 ∧ n_tr.toInt = n_tr.toInt + 1) ∨ (n_tr.toInt = 60 ∧ n_tr.toInt = n_tr.toInt) := by
  have := rg_rng n_tr; have := rg_rng n_ho; omega
theorem lg_X2_add_6 (n_tr : Int32) (n_ho : Int32) (yg : 0 ≤ n_tr.toInt ∧ n_tr.toInt ≤ 60 ∧ 0 ≤ n_ho.toInt ∧ n_ho.toInt ≤ 300) (t_2 : (60 : Int) ≤ n_tr.toInt) : n_tr.toInt = n_tr.toInt := by
  have := rg_rng n_tr; have := rg_rng n_ho; omega
theorem lg_X2_add_7 (n_tr : Int32) (n_ho : Int32) (yg : 0 ≤ n_tr.toInt ∧ n_tr.toInt ≤ 60 ∧ 0 ≤ n_ho.toInt ∧ n_ho.toInt ≤ 300) (t_2 : (60 : Int) ≤ n_tr.toInt) : (n_tr.toInt < 60 ∧ (-1 : Int) = n_tr.toInt) ∨ (n_tr.toInt = 60 ∧ (-1 : Int) = (-1)) := by
  have := rg_rng n_tr; have := rg_rng n_ho; omega
set_option maxHeartbeats 4000000 in
set_option maxRecDepth 100000 in
theorem kX2_add (l : Launch) (dC : Nat → ClassId) (dI : Nat → Nat → Nat) (sz : Nat) (h0 : Nat) (g_node : Nat) (g_girth : Nat) (g_gave : Nat) (g_holeTree : Nat) (g_holeAngle : Nat) (g_holeYear : Nat) (n_tr : Int32) (n_ho : Int32) (k_node : ClassId) (k_girth : ClassId) (f_node : Nat → Int32) (f_girth : Nat → Int32) (v1 : Int32) (v2 : Int32) (yg : 0 ≤ n_tr.toInt ∧ n_tr.toInt ≤ 60 ∧ 0 ≤ n_ho.toInt ∧ n_ho.toInt ≤ 300) : Met l yX2_add (Cond.code yX2_add cX2_add 4 (some .int) :: bg) ({ frames := 0, cells := 0, slots := 0, locals := 0 }) (pcW dC dI [.ref h0, .int v1, .int v2] sz [(h0, .inr (2, [.ref g_node, .ref g_girth, .ref g_gave, .ref g_holeTree, .ref g_holeAngle, .ref g_holeYear, .int n_tr, .int n_ho])), (g_node, .inl (k_node, 60, .inl f_node)), (g_girth, .inl (k_girth, 60, .inl f_girth))] [(k_node, .int), (k_girth, .int)]) (va_Qi (fun (r : Int32) (u : Unit) => (n_tr.toInt < 60 ∧ r.toInt = n_tr.toInt) ∨ (n_tr.toInt = 60 ∧ r.toInt = (-1))) (fun (u : Unit) (t : State) => ∃ (w_tr : Int32) (w_node : Nat → Int32) (w_girth : Nat → Int32), ((n_tr.toInt < 60 ∧ w_tr.toInt = n_tr.toInt + 1) ∨ (n_tr.toInt = 60 ∧ w_tr.toInt = n_tr.toInt)) ∧ Ua w_node f_node n_tr v1 w_tr ∧ Ua w_girth f_girth n_tr v2 w_tr ∧ va_P (dC, dI) vwCl [(h0, .inr (2, [.ref g_node, .ref g_girth, .ref g_gave, .ref g_holeTree, .ref g_holeAngle, .ref g_holeYear, .int w_tr, .int n_ho])), (g_node, .inl (k_node, 60, .inl w_node)), (g_girth, .inl (k_girth, 60, .inl w_girth))] t.heap ∧ va_K (dC, dI) vwCl [] t ∧ va_D (va_A [(h0, .inr (2, [.ref g_node, .ref g_girth, .ref g_gave, .ref g_holeTree, .ref g_holeAngle, .ref g_holeYear, .int n_tr, .int n_ho])), (g_node, .inl (k_node, 60, .inl f_node)), (g_girth, .inl (k_girth, 60, .inl f_girth))] sz) [(h0, .inr (2, [.ref g_node, .ref g_girth, .ref g_gave, .ref g_holeTree, .ref g_holeAngle, .ref g_holeYear, .int w_tr, .int n_ho])), (g_node, .inl (k_node, 60, .inl w_node)), (g_girth, .inl (k_girth, 60, .inl w_girth))]) (va_A [(h0, .inr (2, [.ref g_node, .ref g_girth, .ref g_gave, .ref g_holeTree, .ref g_holeAngle, .ref g_holeYear, .int n_tr, .int n_ho])), (g_node, .inl (k_node, 60, .inl f_node)), (g_girth, .inl (k_girth, 60, .inl f_girth))] sz)) 0 0 (va_A [(h0, .inr (2, [.ref g_node, .ref g_girth, .ref g_gave, .ref g_holeTree, .ref g_holeAngle, .ref g_holeYear, .int n_tr, .int n_ho])), (g_node, .inl (k_node, 60, .inl f_node)), (g_girth, .inl (k_girth, 60, .inl f_girth))] sz) := by
  refine Met.ofW (cc := cX2_add) (maxL := 4) (ret := (some .int)) pnX2 rfl ?_
  intro p e s m args below meth c s₁ B hml hv
  obtain ⟨rfl, hsz, hP, hK, hD0, hN⟩ := hv
  have hx := B.exec
  have hb := B.bytes
  have hr := B.returns
  have htb : ∀ w ∈ bg, w.before [.ref h0, .int v1, .int v2].toArray s = true := fun w h => atoms_spec (ws := Cond.code yX2_add cX2_add 4 (some .int) :: bg) B.pre w (List.mem_cons_of_mem _ h)
  have hown : s.vm.findClass RX2 = some m.cls := findClass_of_methodNamed B.named
  have hlocks := B.notSynchronized
  subst hsz
  have hD := hD0.self (sz := s.heap.size)
  generalize hAe : va_A [(h0, .inr (2, [.ref g_node, .ref g_girth, .ref g_gave, .ref g_holeTree, .ref g_holeAngle, .ref g_holeYear, .int n_tr, .int n_ho])), (g_node, .inl (k_node, 60, .inl f_node)), (g_girth, .inl (k_girth, 60, .inl f_girth))] s.heap.size = A at hD ⊢
  have hA : ∀ q : Nat, s.heap.size ≤ q → A q := fun q h => by rw [← hAe]; exact Or.inr h
  have hS : va_S A s.heap s.heap [] := va_S.rf
  have hl := lv_entry ([.ref h0, .int v1, .int v2]) (n := 4) (Nat.le_of_ble_eq_true rfl)
  rw [lg_entry_eq]
  generalize (lg_sl ([.ref h0, .int v1, .int v2]) ++ List.replicate (4 - (lg_sl ([.ref h0, .int v1, .int v2])).length) Slot.unset).toArray = ls at hl ⊢
  change lv_has ls 4 [(0, .ref h0), (1, .int v1), (2, .int v2)] at hl
  clear hD0 hAe
  refine go0 (wsP := fun H => va_P (dC, dI) vwCl [(h0, .inr (2, [.ref g_node, .ref g_girth, .ref g_gave, .ref g_holeTree, .ref g_holeAngle, .ref g_holeYear, .int n_tr, .int n_ho])), (g_node, .inl (k_node, 60, .inl f_node)), (g_girth, .inl (k_girth, 60, .inl f_girth))] H) hP hS ?_
  clear hP hS; intro H locs hP hS
  change va_P (dC, dI) vwCl [(h0, .inr (2, [.ref g_node, .ref g_girth, .ref g_gave, .ref g_holeTree, .ref g_holeAngle, .ref g_holeYear, .int n_tr, .int n_ho])), (g_node, .inl (k_node, 60, .inl f_node)), (g_girth, .inl (k_girth, 60, .inl f_girth))] H at hP
  refine lv_aload_n hx hb dX2_add_0 rfl (lv_at hl 0 rfl) ?_
  refine va_get (D := (dC, dI)) (ci := 2) (v := .int n_tr) (C := RX2) (T := TX2) (N := 8) hx hb htb iX2 hown hK hP 0 rfl rfl 6 (Nat.le_of_ble_eq_true rfl) (htb _ m_77) (fun _ h9 => h9) rfl dX2_add_1 ?_
  refine lv_bipush (v := 60) hx hb dX2_add_4 (by decide) ?_
  refine lv_icmp_lt (tgt := 11) hx hb dX2_add_6 (by decide) (fun c_1 => ?_) (fun c_1 => ?_)
  · have t_2 : n_tr.toInt < (60 : Int) := i_lt rfl (by decide) c_1
    refine lv_aload_n hx hb dX2_add_11 rfl (lv_at hl 0 rfl) ?_
    refine va_get (D := (dC, dI)) (ci := 2) (v := .int n_tr) (C := RX2) (T := TX2) (N := 8) hx hb htb iX2 hown hK hP 0 rfl rfl 6 (Nat.le_of_ble_eq_true rfl) (htb _ m_77) (fun _ h9 => h9) rfl dX2_add_12 ?_
    refine lv_istore_n (lv' := [(3, .int n_tr), (0, .ref h0), (1, .int v1), (2, .int v2)]) hx hb dX2_add_15 rfl hl (by decide) rfl ?_
    clear hl; intro ls hl
    refine lv_aload_n hx hb dX2_add_16 rfl (lv_at hl 1 rfl) ?_
    refine lv_dup hx hb dX2_add_17 rfl ?_
    refine va_get (D := (dC, dI)) (ci := 2) (v := .int n_tr) (C := RX2) (T := TX2) (N := 8) hx hb htb iX2 hown hK hP 0 rfl rfl 6 (Nat.le_of_ble_eq_true rfl) (htb _ m_77) (fun _ h9 => h9) rfl dX2_add_18 ?_
    refine lv_iconst (v := 1) hx hb dX2_add_21 (by decide) ?_
    refine lv_iadd hx hb dX2_add_22 ?_
    refine lv_topi (fun x_3 ex_4 => ?_)
    have t_5 : x_3.toInt = n_tr.toInt + (1 : Int) := i_add rfl (by decide) (lg_X2_add_0 n_tr n_ho yg t_2) ex_4
    refine va_put (D := (dC, dI)) (ci := 2) (v := .int x_3) (C := RX2) (T := TX2) (N := 8) hx hb htb iX2 tyX2 tyX2_ok nmX2 hown hK hP hD hS 0 rfl rfl 6 (Nat.le_of_ble_eq_true rfl) (htb _ m_77) (fun _ h9 => h9) rfl (tyX2_ok 6 (Nat.le_of_ble_eq_true rfl)) rfl rfl (Nat.le_of_ble_eq_true rfl) dX2_add_23 ?_
    clear hP hD hS; intro H locs hP hD hS
    change va_P (dC, dI) vwCl [(h0, .inr (2, [.ref g_node, .ref g_girth, .ref g_gave, .ref g_holeTree, .ref g_holeAngle, .ref g_holeYear, .int x_3, .int n_ho])), (g_node, .inl (k_node, 60, .inl f_node)), (g_girth, .inl (k_girth, 60, .inl f_girth))] H at hP
    change va_D A [(h0, .inr (2, [.ref g_node, .ref g_girth, .ref g_gave, .ref g_holeTree, .ref g_holeAngle, .ref g_holeYear, .int x_3, .int n_ho])), (g_node, .inl (k_node, 60, .inl f_node)), (g_girth, .inl (k_girth, 60, .inl f_girth))] at hD
    refine lv_aload_n hx hb dX2_add_26 rfl (lv_at hl 1 rfl) ?_
    refine va_get (D := (dC, dI)) (ci := 2) (v := .ref g_node) (C := RX2) (T := TX2) (N := 8) hx hb htb iX2 hown hK hP 0 rfl rfl 0 (Nat.le_of_ble_eq_true rfl) (htb _ m_71) (fun _ h9 => h9) rfl dX2_add_27 ?_
    refine lv_iload_n hx hb dX2_add_30 rfl (lv_at hl 0 rfl) ?_
    refine lv_iload_n hx hb dX2_add_31 rfl (lv_at hl 2 rfl) ?_
    refine va_iast hx hb hK hP hD hS 1 0 rfl rfl (i_in rfl (lg_X2_add_1 n_tr n_ho x_3 yg t_2 t_5)) dX2_add_32 ?_
    clear hP hD hS; intro H locs hP hD hS
    change va_P (dC, dI) vwCl [(h0, .inr (2, [.ref g_node, .ref g_girth, .ref g_gave, .ref g_holeTree, .ref g_holeAngle, .ref g_holeYear, .int x_3, .int n_ho])), (g_node, .inl (k_node, 60, .inl (upd f_node (Int32.toNatClampNeg n_tr) v1))), (g_girth, .inl (k_girth, 60, .inl f_girth))] H at hP
    change va_D A [(h0, .inr (2, [.ref g_node, .ref g_girth, .ref g_gave, .ref g_holeTree, .ref g_holeAngle, .ref g_holeYear, .int x_3, .int n_ho])), (g_node, .inl (k_node, 60, .inl (upd f_node (Int32.toNatClampNeg n_tr) v1))), (g_girth, .inl (k_girth, 60, .inl f_girth))] at hD
    generalize hG_7 : upd f_node (Int32.toNatClampNeg n_tr) v1 = g_6 at hP hD
    refine lv_aload_n hx hb dX2_add_33 rfl (lv_at hl 1 rfl) ?_
    refine va_get (D := (dC, dI)) (ci := 2) (v := .ref g_girth) (C := RX2) (T := TX2) (N := 8) hx hb htb iX2 hown hK hP 0 rfl rfl 1 (Nat.le_of_ble_eq_true rfl) (htb _ m_72) (fun _ h9 => h9) rfl dX2_add_34 ?_
    refine lv_iload_n hx hb dX2_add_37 rfl (lv_at hl 0 rfl) ?_
    refine lv_iload_n hx hb dX2_add_38 rfl (lv_at hl 3 rfl) ?_
    refine va_iast hx hb hK hP hD hS 2 1 rfl rfl (i_in rfl (lg_X2_add_1 n_tr n_ho x_3 yg t_2 t_5)) dX2_add_39 ?_
    clear hP hD hS; intro H locs hP hD hS
    change va_P (dC, dI) vwCl [(h0, .inr (2, [.ref g_node, .ref g_girth, .ref g_gave, .ref g_holeTree, .ref g_holeAngle, .ref g_holeYear, .int x_3, .int n_ho])), (g_node, .inl (k_node, 60, .inl g_6)), (g_girth, .inl (k_girth, 60, .inl (upd f_girth (Int32.toNatClampNeg n_tr) v2)))] H at hP
    change va_D A [(h0, .inr (2, [.ref g_node, .ref g_girth, .ref g_gave, .ref g_holeTree, .ref g_holeAngle, .ref g_holeYear, .int x_3, .int n_ho])), (g_node, .inl (k_node, 60, .inl g_6)), (g_girth, .inl (k_girth, 60, .inl (upd f_girth (Int32.toNatClampNeg n_tr) v2)))] at hD
    generalize hG_9 : upd f_girth (Int32.toNatClampNeg n_tr) v2 = g_8 at hP hD
    refine lv_iload_n hx hb dX2_add_40 rfl (lv_at hl 0 rfl) ?_
    refine W.widen (k := 0) (n := 0) (Nat.le_of_ble_eq_true rfl) (Nat.le_of_ble_eq_true rfl) ?_
    have hP9 := hP.sub (ws' := [(h0, .inr (2, [.ref g_node, .ref g_girth, .ref g_gave, .ref g_holeTree, .ref g_holeAngle, .ref g_holeYear, .int x_3, .int n_ho])), (g_node, .inl (k_node, 60, .inl g_6)), (g_girth, .inl (k_girth, 60, .inl g_8))]) [0, 1, 2] rfl
    have hD9 := hD.sub (ws' := [(h0, .inr (2, [.ref g_node, .ref g_girth, .ref g_gave, .ref g_holeTree, .ref g_holeAngle, .ref g_holeYear, .int x_3, .int n_ho])), (g_node, .inl (k_node, 60, .inl g_6)), (g_girth, .inl (k_girth, 60, .inl g_8))]) [0, 1, 2] (by decide) rfl
    have hK9 := hK.sub (tys' := []) [] rfl
    exact W.iret (v := n_tr) hx hb hr (fun t ht hW => ⟨⟨n_tr, (), rfl, (lg_X2_add_4 n_tr n_ho x_3 yg t_2 t_5), ⟨x_3, g_6, g_8, (lg_X2_add_2 n_tr n_ho x_3 yg t_2 t_5), (Ua_u (lg_X2_add_3 n_tr n_ho x_3 yg t_2 t_5) hG_7), (Ua_u (lg_X2_add_3 n_tr n_ho x_3 yg t_2 t_5) hG_9), by rw [ht]; exact hP9, va_K.moved hW.alike hK9, hD9⟩⟩, hS.F ht⟩) hS.2.2 dX2_add_41
  · have t_2 : (60 : Int) ≤ n_tr.toInt := i_nlt rfl (by decide) c_1
    refine lv_iconst (v := (-1)) hx hb dX2_add_9 (by decide) ?_
    refine W.widen (k := 0) (n := 0) (Nat.le_of_ble_eq_true rfl) (Nat.le_of_ble_eq_true rfl) ?_
    have hP9 := hP.sub (ws' := [(h0, .inr (2, [.ref g_node, .ref g_girth, .ref g_gave, .ref g_holeTree, .ref g_holeAngle, .ref g_holeYear, .int n_tr, .int n_ho])), (g_node, .inl (k_node, 60, .inl f_node)), (g_girth, .inl (k_girth, 60, .inl f_girth))]) [0, 1, 2] rfl
    have hD9 := hD.sub (ws' := [(h0, .inr (2, [.ref g_node, .ref g_girth, .ref g_gave, .ref g_holeTree, .ref g_holeAngle, .ref g_holeYear, .int n_tr, .int n_ho])), (g_node, .inl (k_node, 60, .inl f_node)), (g_girth, .inl (k_girth, 60, .inl f_girth))]) [0, 1, 2] (by decide) rfl
    have hK9 := hK.sub (tys' := []) [] rfl
    exact W.iret (v := (-1)) hx hb hr (fun t ht hW => ⟨⟨(-1), (), rfl, (lg_X2_add_7 n_tr n_ho yg t_2), ⟨n_tr, f_node, f_girth, (lg_X2_add_5 n_tr n_ho yg t_2), (Ua_s (lg_X2_add_6 n_tr n_ho yg t_2)), (Ua_s (lg_X2_add_6 n_tr n_ho yg t_2)), by rw [ht]; exact hP9, va_K.moved hW.alike hK9, hD9⟩⟩, hS.F ht⟩) hS.2.2 dX2_add_10

theorem lg_X2_give_0 (n_tr : Int32) (n_ho : Int32) (v1 : Int32) (yg : 0 ≤ n_tr.toInt ∧ n_tr.toInt ≤ 60 ∧ 0 ≤ n_ho.toInt ∧ n_ho.toInt ≤ 300) (yv : 0 ≤ v1.toInt ∧ v1.toInt < n_tr.toInt) (h_2 : 0 ≤ v1.toInt ∧ v1.toInt < n_tr.toInt) : 0 ≤ v1.toInt ∧ v1.toInt < ((60 : Nat) : Int) := by
  have := rg_rng n_tr; have := rg_rng n_ho; have := rg_rng v1; omega
theorem lg_X2_give_1 (n_tr : Int32) (n_ho : Int32) (v1 : Int32) (yg : 0 ≤ n_tr.toInt ∧ n_tr.toInt ≤ 60 ∧ 0 ≤ n_ho.toInt ∧ n_ho.toInt ≤ 300) (yv : 0 ≤ v1.toInt ∧ v1.toInt < n_tr.toInt) (h_2 : ¬ (0 ≤ v1.toInt ∧ v1.toInt < n_tr.toInt)) : False := by
  have := rg_rng n_tr; have := rg_rng n_ho; have := rg_rng v1; omega
set_option maxHeartbeats 4000000 in
set_option maxRecDepth 100000 in
theorem kX2_give (l : Launch) (dC : Nat → ClassId) (dI : Nat → Nat → Nat) (sz : Nat) (h0 : Nat) (g_node : Nat) (g_girth : Nat) (g_gave : Nat) (g_holeTree : Nat) (g_holeAngle : Nat) (g_holeYear : Nat) (n_tr : Int32) (n_ho : Int32) (k_gave : ClassId) (f_gave : Nat → Int32) (v1 : Int32) (v2 : Int32) (yg : 0 ≤ n_tr.toInt ∧ n_tr.toInt ≤ 60 ∧ 0 ≤ n_ho.toInt ∧ n_ho.toInt ≤ 300) (yv : 0 ≤ v1.toInt ∧ v1.toInt < n_tr.toInt) : Met l yX2_give (Cond.code yX2_give cX2_give 3 none :: bg) ({ frames := 1, cells := 0, slots := 0, locals := 21 }) (pcW dC dI [.ref h0, .int v1, .int v2] sz [(h0, .inr (2, [.ref g_node, .ref g_girth, .ref g_gave, .ref g_holeTree, .ref g_holeAngle, .ref g_holeYear, .int n_tr, .int n_ho])), (g_gave, .inl (k_gave, 60, .inl f_gave))] [(k_gave, .int)]) (va_Qv (fun (u : Unit) => True) (fun (u : Unit) (t : State) => ∃ (w_gave : Nat → Int32), Ga w_gave f_gave v1 v2 ∧ va_P (dC, dI) vwCl [(h0, .inr (2, [.ref g_node, .ref g_girth, .ref g_gave, .ref g_holeTree, .ref g_holeAngle, .ref g_holeYear, .int n_tr, .int n_ho])), (g_gave, .inl (k_gave, 60, .inl w_gave))] t.heap ∧ va_K (dC, dI) vwCl [] t ∧ va_D (va_A [(h0, .inr (2, [.ref g_node, .ref g_girth, .ref g_gave, .ref g_holeTree, .ref g_holeAngle, .ref g_holeYear, .int n_tr, .int n_ho])), (g_gave, .inl (k_gave, 60, .inl f_gave))] sz) [(h0, .inr (2, [.ref g_node, .ref g_girth, .ref g_gave, .ref g_holeTree, .ref g_holeAngle, .ref g_holeYear, .int n_tr, .int n_ho])), (g_gave, .inl (k_gave, 60, .inl w_gave))]) (va_A [(h0, .inr (2, [.ref g_node, .ref g_girth, .ref g_gave, .ref g_holeTree, .ref g_holeAngle, .ref g_holeYear, .int n_tr, .int n_ho])), (g_gave, .inl (k_gave, 60, .inl f_gave))] sz)) 0 0 (va_A [(h0, .inr (2, [.ref g_node, .ref g_girth, .ref g_gave, .ref g_holeTree, .ref g_holeAngle, .ref g_holeYear, .int n_tr, .int n_ho])), (g_gave, .inl (k_gave, 60, .inl f_gave))] sz) := by
  refine Met.ofW (cc := cX2_give) (maxL := 3) (ret := none) pnX2 rfl ?_
  intro p e s m args below meth c s₁ B hml hv
  obtain ⟨rfl, hsz, hP, hK, hD0, hN⟩ := hv
  have hx := B.exec
  have hb := B.bytes
  have hr := B.returns
  have htb : ∀ w ∈ bg, w.before [.ref h0, .int v1, .int v2].toArray s = true := fun w h => atoms_spec (ws := Cond.code yX2_give cX2_give 3 none :: bg) B.pre w (List.mem_cons_of_mem _ h)
  have hown : s.vm.findClass RX2 = some m.cls := findClass_of_methodNamed B.named
  have hlocks := B.notSynchronized
  subst hsz
  have hD := hD0.self (sz := s.heap.size)
  generalize hAe : va_A [(h0, .inr (2, [.ref g_node, .ref g_girth, .ref g_gave, .ref g_holeTree, .ref g_holeAngle, .ref g_holeYear, .int n_tr, .int n_ho])), (g_gave, .inl (k_gave, 60, .inl f_gave))] s.heap.size = A at hD ⊢
  have hA : ∀ q : Nat, s.heap.size ≤ q → A q := fun q h => by rw [← hAe]; exact Or.inr h
  have hS : va_S A s.heap s.heap [] := va_S.rf
  have hl := lv_entry ([.ref h0, .int v1, .int v2]) (n := 3) (Nat.le_of_ble_eq_true rfl)
  rw [lg_entry_eq]
  generalize (lg_sl ([.ref h0, .int v1, .int v2]) ++ List.replicate (3 - (lg_sl ([.ref h0, .int v1, .int v2])).length) Slot.unset).toArray = ls at hl ⊢
  change lv_has ls 3 [(0, .ref h0), (1, .int v1), (2, .int v2)] at hl
  clear hD0 hAe
  refine go0 (wsP := fun H => va_P (dC, dI) vwCl [(h0, .inr (2, [.ref g_node, .ref g_girth, .ref g_gave, .ref g_holeTree, .ref g_holeAngle, .ref g_holeYear, .int n_tr, .int n_ho])), (g_gave, .inl (k_gave, 60, .inl f_gave))] H) hP hS ?_
  clear hP hS; intro H locs hP hS
  change va_P (dC, dI) vwCl [(h0, .inr (2, [.ref g_node, .ref g_girth, .ref g_gave, .ref g_holeTree, .ref g_holeAngle, .ref g_holeYear, .int n_tr, .int n_ho])), (g_gave, .inl (k_gave, 60, .inl f_gave))] H at hP
  refine lv_aload_n hx hb dX2_give_0 rfl (lv_at hl 0 rfl) ?_
  refine lv_iload_n hx hb dX2_give_1 rfl (lv_at hl 1 rfl) ?_
  have hPc := hP.sub (ws' := [(h0, .inr (2, [.ref g_node, .ref g_girth, .ref g_gave, .ref g_holeTree, .ref g_holeAngle, .ref g_holeYear, .int n_tr, .int n_ho]))]) [0] rfl
  have hDc := hD.sub (ws' := [(h0, .inr (2, [.ref g_node, .ref g_girth, .ref g_gave, .ref g_holeTree, .ref g_holeAngle, .ref g_holeYear, .int n_tr, .int n_ho]))]) [0] (by decide) rfl
  have hKc := hK.sub (tys' := []) [] rfl
  have hFc := va_free (wc := [(h0, .inr (2, [.ref g_node, .ref g_girth, .ref g_gave, .ref g_holeTree, .ref g_holeAngle, .ref g_holeYear, .int n_tr, .int n_ho]))]) hD hS hA [0] rfl
  refine va_calli (va_runV (C := RX2) (As := [.int v1]) (rest := []) ⟨hx, hb, hml, hown, htb⟩ (kX2_has l dC dI H.size h0 g_node g_girth g_gave g_holeTree g_holeAngle g_holeYear n_tr n_ho v1 ) ⟨callB_of 1 htb (gd_c m_383) rfl rfl rfl (htb _ m_3) (htb _ m_396) hdX2_has ⟨(Nat.le_of_ble_eq_true rfl), (Nat.le_of_ble_eq_true rfl)⟩, htb _ m_381, htb _ m_382⟩ ⟨pcW_blind, va_recv hKc hPc (ci := 2) (q0 := 0) rfl rfl, pcW_at hPc hKc hDc hN⟩ rfl rfl hl.1 rfl (lv_room (Nat.le_of_ble_eq_true rfl)) dX2_give_2 ⟨(Nat.le_of_ble_eq_true rfl), (Nat.le_of_ble_eq_true rfl)⟩) hS (fun q _ h => hFc q h) hFc (fun r_1 u t H1 locs1 ht hvm h_2 hB hz1 hk1 hS1 => ?_)
  obtain ⟨hP1, hK1, hD1⟩ := hB
  rw [ht] at hP1
  obtain ⟨hPn, hDn⟩ := va_join (wr := [(g_gave, .inl (k_gave, 60, .inl f_gave))]) (w1 := [(h0, .inr (2, [.ref g_node, .ref g_girth, .ref g_gave, .ref g_holeTree, .ref g_holeAngle, .ref g_holeYear, .int n_tr, .int n_ho]))]) hP hD [0] [1] rfl rfl (by decide) (by decide) hk1 hFc hP1 hD1
  clear hP1 hD1 hK1
  clear hP hD hS hPc hDc hKc hFc hk1 hz1 ht hvm
  clear t
  revert hS1 hPn hDn; generalize H1 = H; generalize locs1 = locs; intro hS hP hD
  change va_P (dC, dI) vwCl [(g_gave, .inl (k_gave, 60, .inl f_gave)), (h0, .inr (2, [.ref g_node, .ref g_girth, .ref g_gave, .ref g_holeTree, .ref g_holeAngle, .ref g_holeYear, .int n_tr, .int n_ho]))] H at hP
  change va_D A [(g_gave, .inl (k_gave, 60, .inl f_gave)), (h0, .inr (2, [.ref g_node, .ref g_girth, .ref g_gave, .ref g_holeTree, .ref g_holeAngle, .ref g_holeYear, .int n_tr, .int n_ho]))] at hD
  rcases h_2 with ⟨rfl, h_2⟩ | ⟨rfl, h_2⟩
  · refine lv_if_eq (tgt := 18) hx hb dX2_give_5 (by decide) (fun c_3 => absurd c_3 (by decide)) ?_
    intro _
    refine lv_aload_n hx hb dX2_give_8 rfl (lv_at hl 0 rfl) ?_
    refine va_get (D := (dC, dI)) (ci := 2) (v := .ref g_gave) (C := RX2) (T := TX2) (N := 8) hx hb htb iX2 hown hK hP 1 rfl rfl 2 (Nat.le_of_ble_eq_true rfl) (htb _ m_73) (fun _ h9 => h9) rfl dX2_give_9 ?_
    refine lv_iload_n hx hb dX2_give_12 rfl (lv_at hl 1 rfl) ?_
    refine lv_dup2_11 hx hb dX2_give_13 rfl rfl ?_
    refine va_iald hx hb hK hP 0 0 rfl rfl (i_in rfl (lg_X2_give_0 n_tr n_ho v1 yg yv h_2)) dX2_give_14 ?_
    refine lv_topi (fun x_4 ex_5 => ?_)
    refine lv_iload_n hx hb dX2_give_15 rfl (lv_at hl 2 rfl) ?_
    refine lv_iadd hx hb dX2_give_16 ?_
    refine lv_topi (fun x_6 ex_7 => ?_)
    refine va_iast hx hb hK hP hD hS 0 0 rfl rfl (i_in rfl (lg_X2_give_0 n_tr n_ho v1 yg yv h_2)) dX2_give_17 ?_
    clear hP hD hS; intro H locs hP hD hS
    change va_P (dC, dI) vwCl [(g_gave, .inl (k_gave, 60, .inl (upd f_gave (Int32.toNatClampNeg v1) x_6))), (h0, .inr (2, [.ref g_node, .ref g_girth, .ref g_gave, .ref g_holeTree, .ref g_holeAngle, .ref g_holeYear, .int n_tr, .int n_ho]))] H at hP
    change va_D A [(g_gave, .inl (k_gave, 60, .inl (upd f_gave (Int32.toNatClampNeg v1) x_6))), (h0, .inr (2, [.ref g_node, .ref g_girth, .ref g_gave, .ref g_holeTree, .ref g_holeAngle, .ref g_holeYear, .int n_tr, .int n_ho]))] at hD
    generalize hG_10 : upd f_gave (Int32.toNatClampNeg v1) x_6 = g_9 at hP hD
    refine W.widen (k := 0) (n := 0) (Nat.le_of_ble_eq_true rfl) (Nat.le_of_ble_eq_true rfl) ?_
    have hP9 := hP.sub (ws' := [(h0, .inr (2, [.ref g_node, .ref g_girth, .ref g_gave, .ref g_holeTree, .ref g_holeAngle, .ref g_holeYear, .int n_tr, .int n_ho])), (g_gave, .inl (k_gave, 60, .inl g_9))]) [1, 0] rfl
    have hD9 := hD.sub (ws' := [(h0, .inr (2, [.ref g_node, .ref g_girth, .ref g_gave, .ref g_holeTree, .ref g_holeAngle, .ref g_holeYear, .int n_tr, .int n_ho])), (g_gave, .inl (k_gave, 60, .inl g_9))]) [1, 0] (by decide) rfl
    have hK9 := hK.sub (tys' := []) [] rfl
    exact W.vret hx hb hr (fun t ht hW => ⟨⟨(), rfl, trivial, ⟨g_9, (Ga_u hG_10 ex_7 ex_5), by rw [ht]; exact hP9, va_K.moved hW.alike hK9, hD9⟩⟩, hS.F ht⟩) hS.2.2 dX2_give_18
  · refine lv_if_eq (tgt := 18) hx hb dX2_give_5 (by decide) ?_ (fun c_11 => absurd (by decide) c_11)
    intro _
    refine W.widen (k := 0) (n := 0) (Nat.le_of_ble_eq_true rfl) (Nat.le_of_ble_eq_true rfl) ?_
    have hP9 := hP.sub (ws' := [(h0, .inr (2, [.ref g_node, .ref g_girth, .ref g_gave, .ref g_holeTree, .ref g_holeAngle, .ref g_holeYear, .int n_tr, .int n_ho])), (g_gave, .inl (k_gave, 60, .inl f_gave))]) [1, 0] rfl
    have hD9 := hD.sub (ws' := [(h0, .inr (2, [.ref g_node, .ref g_girth, .ref g_gave, .ref g_holeTree, .ref g_holeAngle, .ref g_holeYear, .int n_tr, .int n_ho])), (g_gave, .inl (k_gave, 60, .inl f_gave))]) [1, 0] (by decide) rfl
    have hK9 := hK.sub (tys' := []) [] rfl
    exact W.vret hx hb hr (fun t ht hW => ⟨⟨(), rfl, trivial, ⟨f_gave, (False.elim (lg_X2_give_1 n_tr n_ho v1 yg yv h_2)), by rw [ht]; exact hP9, va_K.moved hW.alike hK9, hD9⟩⟩, hS.F ht⟩) hS.2.2 dX2_give_18

set_option maxHeartbeats 4000000 in
set_option maxRecDepth 100000 in
theorem kX2_forgetYear (l : Launch) (dC : Nat → ClassId) (dI : Nat → Nat → Nat) (sz : Nat) (h0 : Nat) (g_node : Nat) (g_girth : Nat) (g_gave : Nat) (g_holeTree : Nat) (g_holeAngle : Nat) (g_holeYear : Nat) (n_tr : Int32) (n_ho : Int32) (k_gave : ClassId) (f_gave : Nat → Int32) : Met l yX2_forgetYear (Cond.code yX2_forgetYear cX2_forgetYear 1 none :: bg) ({ frames := 1, cells := 0, slots := 0, locals := 23 }) (pcW dC dI [.ref h0] sz [(h0, .inr (2, [.ref g_node, .ref g_girth, .ref g_gave, .ref g_holeTree, .ref g_holeAngle, .ref g_holeYear, .int n_tr, .int n_ho])), (g_gave, .inl (k_gave, 60, .inl f_gave))] [(k_gave, .int)]) (va_Qv (fun (u : Unit) => True) (fun (u : Unit) (t : State) => ∃ (w_gave : Nat → Int32), va_P (dC, dI) vwCl [(h0, .inr (2, [.ref g_node, .ref g_girth, .ref g_gave, .ref g_holeTree, .ref g_holeAngle, .ref g_holeYear, .int n_tr, .int n_ho])), (g_gave, .inl (k_gave, 60, .inl w_gave))] t.heap ∧ va_K (dC, dI) vwCl [] t ∧ va_D (va_A [(h0, .inr (2, [.ref g_node, .ref g_girth, .ref g_gave, .ref g_holeTree, .ref g_holeAngle, .ref g_holeYear, .int n_tr, .int n_ho])), (g_gave, .inl (k_gave, 60, .inl f_gave))] sz) [(h0, .inr (2, [.ref g_node, .ref g_girth, .ref g_gave, .ref g_holeTree, .ref g_holeAngle, .ref g_holeYear, .int n_tr, .int n_ho])), (g_gave, .inl (k_gave, 60, .inl w_gave))]) (va_A [(h0, .inr (2, [.ref g_node, .ref g_girth, .ref g_gave, .ref g_holeTree, .ref g_holeAngle, .ref g_holeYear, .int n_tr, .int n_ho])), (g_gave, .inl (k_gave, 60, .inl f_gave))] sz)) 0 0 (va_A [(h0, .inr (2, [.ref g_node, .ref g_girth, .ref g_gave, .ref g_holeTree, .ref g_holeAngle, .ref g_holeYear, .int n_tr, .int n_ho])), (g_gave, .inl (k_gave, 60, .inl f_gave))] sz) := by
  refine Met.ofW (cc := cX2_forgetYear) (maxL := 1) (ret := none) pnX2 rfl ?_
  intro p e s m args below meth c s₁ B hml hv
  obtain ⟨rfl, hsz, hP, hK, hD0, hN⟩ := hv
  have hx := B.exec
  have hb := B.bytes
  have hr := B.returns
  have htb : ∀ w ∈ bg, w.before [.ref h0].toArray s = true := fun w h => atoms_spec (ws := Cond.code yX2_forgetYear cX2_forgetYear 1 none :: bg) B.pre w (List.mem_cons_of_mem _ h)
  have hown : s.vm.findClass RX2 = some m.cls := findClass_of_methodNamed B.named
  have hlocks := B.notSynchronized
  subst hsz
  have hD := hD0.self (sz := s.heap.size)
  generalize hAe : va_A [(h0, .inr (2, [.ref g_node, .ref g_girth, .ref g_gave, .ref g_holeTree, .ref g_holeAngle, .ref g_holeYear, .int n_tr, .int n_ho])), (g_gave, .inl (k_gave, 60, .inl f_gave))] s.heap.size = A at hD ⊢
  have hA : ∀ q : Nat, s.heap.size ≤ q → A q := fun q h => by rw [← hAe]; exact Or.inr h
  have hS : va_S A s.heap s.heap [] := va_S.rf
  have hl := lv_entry ([.ref h0]) (n := 1) (Nat.le_of_ble_eq_true rfl)
  rw [lg_entry_eq]
  generalize (lg_sl ([.ref h0]) ++ List.replicate (1 - (lg_sl ([.ref h0])).length) Slot.unset).toArray = ls at hl ⊢
  change lv_has ls 1 [(0, .ref h0)] at hl
  clear hD0 hAe
  refine go0 (wsP := fun H => va_P (dC, dI) vwCl [(h0, .inr (2, [.ref g_node, .ref g_girth, .ref g_gave, .ref g_holeTree, .ref g_holeAngle, .ref g_holeYear, .int n_tr, .int n_ho])), (g_gave, .inl (k_gave, 60, .inl f_gave))] H) hP hS ?_
  clear hP hS; intro H locs hP hS
  change va_P (dC, dI) vwCl [(h0, .inr (2, [.ref g_node, .ref g_girth, .ref g_gave, .ref g_holeTree, .ref g_holeAngle, .ref g_holeYear, .int n_tr, .int n_ho])), (g_gave, .inl (k_gave, 60, .inl f_gave))] H at hP
  refine lv_aload_n hx hb dX2_forgetYear_0 rfl (lv_at hl 0 rfl) ?_
  refine va_get (D := (dC, dI)) (ci := 2) (v := .ref g_gave) (C := RX2) (T := TX2) (N := 8) hx hb htb iX2 hown hK hP 0 rfl rfl 2 (Nat.le_of_ble_eq_true rfl) (htb _ m_73) (fun _ h9 => h9) rfl dX2_forgetYear_1 ?_
  refine lv_iconst (v := 0) hx hb dX2_forgetYear_4 (by decide) ?_
  have hPc := hP.sub (ws' := [(g_gave, .inl (k_gave, 60, .inl f_gave))]) [1] rfl
  have hDc := hD.sub (ws' := [(g_gave, .inl (k_gave, 60, .inl f_gave))]) [1] (by decide) rfl
  have hKc := hK.sub (tys' := [(k_gave, .int)]) [0] rfl
  have hFc := va_free (wc := [(g_gave, .inl (k_gave, 60, .inl f_gave))]) hD hS hA [1] rfl
  refine va_callv (va_runS (As := [.ref g_gave, .int 0]) (rest := []) ⟨hx, hb, hml, hown, htb⟩ (kJ7_fill_53178 l dC dI H.size g_gave k_gave 60 f_gave 0 (by decide)) ⟨callB_of 2 htb (gd_c m_576) rfl rfl rfl (htb _ m_15) (htb _ m_574) hdJ7_fill_53178 ⟨(Nat.le_of_ble_eq_true rfl), (Nat.le_of_ble_eq_true rfl)⟩, htb _ m_575⟩ ⟨pcW_blind, pcW_at hPc hKc hDc hN⟩ rfl rfl hl.1 rfl (lv_room (Nat.le_of_ble_eq_true rfl)) dX2_forgetYear_5 ⟨(Nat.le_of_ble_eq_true rfl), (Nat.le_of_ble_eq_true rfl)⟩) hS (fun q _ h => hFc q h) hFc (fun u t H1 locs1 ht hvm h_2 hB hz1 hk1 hS1 => ?_)
  obtain ⟨w_f_3, hP1, hK1, hD1⟩ := hB
  rw [ht] at hP1
  obtain ⟨hPn, hDn⟩ := va_join (wr := [(h0, .inr (2, [.ref g_node, .ref g_girth, .ref g_gave, .ref g_holeTree, .ref g_holeAngle, .ref g_holeYear, .int n_tr, .int n_ho]))]) (w1 := [(g_gave, .inl (k_gave, 60, .inl w_f_3))]) hP hD [1] [0] rfl rfl (by decide) (by decide) hk1 hFc hP1 hD1
  clear hP1 hD1 hK1
  clear hP hD hS hPc hDc hKc hFc hk1 hz1 ht hvm
  clear t
  revert hS1 hPn hDn; generalize H1 = H; generalize locs1 = locs; intro hS hP hD
  change va_P (dC, dI) vwCl [(h0, .inr (2, [.ref g_node, .ref g_girth, .ref g_gave, .ref g_holeTree, .ref g_holeAngle, .ref g_holeYear, .int n_tr, .int n_ho])), (g_gave, .inl (k_gave, 60, .inl w_f_3))] H at hP
  change va_D A [(h0, .inr (2, [.ref g_node, .ref g_girth, .ref g_gave, .ref g_holeTree, .ref g_holeAngle, .ref g_holeYear, .int n_tr, .int n_ho])), (g_gave, .inl (k_gave, 60, .inl w_f_3))] at hD
  refine W.widen (k := 0) (n := 0) (Nat.le_of_ble_eq_true rfl) (Nat.le_of_ble_eq_true rfl) ?_
  have hP9 := hP.sub (ws' := [(h0, .inr (2, [.ref g_node, .ref g_girth, .ref g_gave, .ref g_holeTree, .ref g_holeAngle, .ref g_holeYear, .int n_tr, .int n_ho])), (g_gave, .inl (k_gave, 60, .inl w_f_3))]) [0, 1] rfl
  have hD9 := hD.sub (ws' := [(h0, .inr (2, [.ref g_node, .ref g_girth, .ref g_gave, .ref g_holeTree, .ref g_holeAngle, .ref g_holeYear, .int n_tr, .int n_ho])), (g_gave, .inl (k_gave, 60, .inl w_f_3))]) [0, 1] (by decide) rfl
  have hK9 := hK.sub (tys' := []) [] rfl
  exact W.vret hx hb hr (fun t ht hW => ⟨⟨(), rfl, trivial, ⟨w_f_3, by rw [ht]; exact hP9, va_K.moved hW.alike hK9, hD9⟩⟩, hS.F ht⟩) hS.2.2 dX2_forgetYear_8

theorem lg_X2_tapsAllowed_0 (n_tr : Int32) (n_ho : Int32) (f_girth : Nat → Int32) (v1 : Int32) (r_1 : Int32) (yg : 0 ≤ n_tr.toInt ∧ n_tr.toInt ≤ 60 ∧ 0 ≤ n_ho.toInt ∧ n_ho.toInt ≤ 300) (yv : 0 ≤ v1.toInt ∧ v1.toInt < n_tr.toInt) (h_2 : r_1.toInt = (f_girth (Int32.toNatClampNeg v1)).toInt) (t_4 : (80 : Int) ≤ r_1.toInt) (t_6 : (150 : Int) ≤ r_1.toInt) (t_8 : (200 : Int) ≤ r_1.toInt) : (3 : Int) = mayI ((f_girth (Int32.toNatClampNeg v1)).toInt) := by
  have := rg_rng n_tr; have := rg_rng n_ho; have := rg_rng v1; have := rg_rng r_1; unfold mayI; (repeat' split) <;> omega
theorem lg_X2_tapsAllowed_1 (n_tr : Int32) (n_ho : Int32) (f_girth : Nat → Int32) (v1 : Int32) (r_1 : Int32) (yg : 0 ≤ n_tr.toInt ∧ n_tr.toInt ≤ 60 ∧ 0 ≤ n_ho.toInt ∧ n_ho.toInt ≤ 300) (yv : 0 ≤ v1.toInt ∧ v1.toInt < n_tr.toInt) (h_2 : r_1.toInt = (f_girth (Int32.toNatClampNeg v1)).toInt) (t_4 : (80 : Int) ≤ r_1.toInt) (t_6 : (150 : Int) ≤ r_1.toInt) (t_8 : r_1.toInt < (200 : Int)) : (2 : Int) = mayI ((f_girth (Int32.toNatClampNeg v1)).toInt) := by
  have := rg_rng n_tr; have := rg_rng n_ho; have := rg_rng v1; have := rg_rng r_1; unfold mayI; (repeat' split) <;> omega
theorem lg_X2_tapsAllowed_2 (n_tr : Int32) (n_ho : Int32) (f_girth : Nat → Int32) (v1 : Int32) (r_1 : Int32) (yg : 0 ≤ n_tr.toInt ∧ n_tr.toInt ≤ 60 ∧ 0 ≤ n_ho.toInt ∧ n_ho.toInt ≤ 300) (yv : 0 ≤ v1.toInt ∧ v1.toInt < n_tr.toInt) (h_2 : r_1.toInt = (f_girth (Int32.toNatClampNeg v1)).toInt) (t_4 : (80 : Int) ≤ r_1.toInt) (t_6 : r_1.toInt < (150 : Int)) : (1 : Int) = mayI ((f_girth (Int32.toNatClampNeg v1)).toInt) := by
  have := rg_rng n_tr; have := rg_rng n_ho; have := rg_rng v1; have := rg_rng r_1; unfold mayI; (repeat' split) <;> omega
theorem lg_X2_tapsAllowed_3 (n_tr : Int32) (n_ho : Int32) (f_girth : Nat → Int32) (v1 : Int32) (r_1 : Int32) (yg : 0 ≤ n_tr.toInt ∧ n_tr.toInt ≤ 60 ∧ 0 ≤ n_ho.toInt ∧ n_ho.toInt ≤ 300) (yv : 0 ≤ v1.toInt ∧ v1.toInt < n_tr.toInt) (h_2 : r_1.toInt = (f_girth (Int32.toNatClampNeg v1)).toInt) (t_4 : r_1.toInt < (80 : Int)) : (0 : Int) = mayI ((f_girth (Int32.toNatClampNeg v1)).toInt) := by
  have := rg_rng n_tr; have := rg_rng n_ho; have := rg_rng v1; have := rg_rng r_1; unfold mayI; (repeat' split) <;> omega
set_option maxHeartbeats 4000000 in
set_option maxRecDepth 100000 in
theorem kX2_tapsAllowed (l : Launch) (dC : Nat → ClassId) (dI : Nat → Nat → Nat) (sz : Nat) (h0 : Nat) (g_node : Nat) (g_girth : Nat) (g_gave : Nat) (g_holeTree : Nat) (g_holeAngle : Nat) (g_holeYear : Nat) (n_tr : Int32) (n_ho : Int32) (k_girth : ClassId) (f_girth : Nat → Int32) (v1 : Int32) (yg : 0 ≤ n_tr.toInt ∧ n_tr.toInt ≤ 60 ∧ 0 ≤ n_ho.toInt ∧ n_ho.toInt ≤ 300) (yv : 0 ≤ v1.toInt ∧ v1.toInt < n_tr.toInt) : Met l yX2_tapsAllowed (Cond.code yX2_tapsAllowed cX2_tapsAllowed 3 (some .int) :: bg) ({ frames := 2, cells := 0, slots := 0, locals := 42 }) (pcW dC dI [.ref h0, .int v1] sz [(h0, .inr (2, [.ref g_node, .ref g_girth, .ref g_gave, .ref g_holeTree, .ref g_holeAngle, .ref g_holeYear, .int n_tr, .int n_ho])), (g_girth, .inl (k_girth, 60, .inl f_girth))] [(k_girth, .int)]) (va_Qi (fun (r : Int32) (u : Unit) => r.toInt = mayI ((f_girth (Int32.toNatClampNeg v1)).toInt)) (fun (u : Unit) (t : State) => va_P (dC, dI) vwCl [(h0, .inr (2, [.ref g_node, .ref g_girth, .ref g_gave, .ref g_holeTree, .ref g_holeAngle, .ref g_holeYear, .int n_tr, .int n_ho])), (g_girth, .inl (k_girth, 60, .inl f_girth))] t.heap ∧ va_K (dC, dI) vwCl [(k_girth, .int)] t ∧ va_D (va_A [(h0, .inr (2, [.ref g_node, .ref g_girth, .ref g_gave, .ref g_holeTree, .ref g_holeAngle, .ref g_holeYear, .int n_tr, .int n_ho])), (g_girth, .inl (k_girth, 60, .inl f_girth))] sz) [(h0, .inr (2, [.ref g_node, .ref g_girth, .ref g_gave, .ref g_holeTree, .ref g_holeAngle, .ref g_holeYear, .int n_tr, .int n_ho])), (g_girth, .inl (k_girth, 60, .inl f_girth))]) (va_A [(h0, .inr (2, [.ref g_node, .ref g_girth, .ref g_gave, .ref g_holeTree, .ref g_holeAngle, .ref g_holeYear, .int n_tr, .int n_ho])), (g_girth, .inl (k_girth, 60, .inl f_girth))] sz)) 0 0 (va_A [(h0, .inr (2, [.ref g_node, .ref g_girth, .ref g_gave, .ref g_holeTree, .ref g_holeAngle, .ref g_holeYear, .int n_tr, .int n_ho])), (g_girth, .inl (k_girth, 60, .inl f_girth))] sz) := by
  refine Met.ofW (cc := cX2_tapsAllowed) (maxL := 3) (ret := (some .int)) pnX2 rfl ?_
  intro p e s m args below meth c s₁ B hml hv
  obtain ⟨rfl, hsz, hP, hK, hD0, hN⟩ := hv
  have hx := B.exec
  have hb := B.bytes
  have hr := B.returns
  have htb : ∀ w ∈ bg, w.before [.ref h0, .int v1].toArray s = true := fun w h => atoms_spec (ws := Cond.code yX2_tapsAllowed cX2_tapsAllowed 3 (some .int) :: bg) B.pre w (List.mem_cons_of_mem _ h)
  have hown : s.vm.findClass RX2 = some m.cls := findClass_of_methodNamed B.named
  have hlocks := B.notSynchronized
  subst hsz
  have hD := hD0.self (sz := s.heap.size)
  generalize hAe : va_A [(h0, .inr (2, [.ref g_node, .ref g_girth, .ref g_gave, .ref g_holeTree, .ref g_holeAngle, .ref g_holeYear, .int n_tr, .int n_ho])), (g_girth, .inl (k_girth, 60, .inl f_girth))] s.heap.size = A at hD ⊢
  have hA : ∀ q : Nat, s.heap.size ≤ q → A q := fun q h => by rw [← hAe]; exact Or.inr h
  have hS : va_S A s.heap s.heap [] := va_S.rf
  have hl := lv_entry ([.ref h0, .int v1]) (n := 3) (Nat.le_of_ble_eq_true rfl)
  rw [lg_entry_eq]
  generalize (lg_sl ([.ref h0, .int v1]) ++ List.replicate (3 - (lg_sl ([.ref h0, .int v1])).length) Slot.unset).toArray = ls at hl ⊢
  change lv_has ls 3 [(0, .ref h0), (1, .int v1)] at hl
  clear hD0 hAe
  refine go0 (wsP := fun H => va_P (dC, dI) vwCl [(h0, .inr (2, [.ref g_node, .ref g_girth, .ref g_gave, .ref g_holeTree, .ref g_holeAngle, .ref g_holeYear, .int n_tr, .int n_ho])), (g_girth, .inl (k_girth, 60, .inl f_girth))] H) hP hS ?_
  clear hP hS; intro H locs hP hS
  change va_P (dC, dI) vwCl [(h0, .inr (2, [.ref g_node, .ref g_girth, .ref g_gave, .ref g_holeTree, .ref g_holeAngle, .ref g_holeYear, .int n_tr, .int n_ho])), (g_girth, .inl (k_girth, 60, .inl f_girth))] H at hP
  refine lv_aload_n hx hb dX2_tapsAllowed_0 rfl (lv_at hl 0 rfl) ?_
  refine lv_iload_n hx hb dX2_tapsAllowed_1 rfl (lv_at hl 1 rfl) ?_
  have hPc := hP.sub (ws' := [(h0, .inr (2, [.ref g_node, .ref g_girth, .ref g_gave, .ref g_holeTree, .ref g_holeAngle, .ref g_holeYear, .int n_tr, .int n_ho])), (g_girth, .inl (k_girth, 60, .inl f_girth))]) [0, 1] rfl
  have hDc := hD.sub (ws' := [(h0, .inr (2, [.ref g_node, .ref g_girth, .ref g_gave, .ref g_holeTree, .ref g_holeAngle, .ref g_holeYear, .int n_tr, .int n_ho])), (g_girth, .inl (k_girth, 60, .inl f_girth))]) [0, 1] (by decide) rfl
  have hKc := hK.sub (tys' := [(k_girth, .int)]) [0] rfl
  have hFc := va_free (wc := [(h0, .inr (2, [.ref g_node, .ref g_girth, .ref g_gave, .ref g_holeTree, .ref g_holeAngle, .ref g_holeYear, .int n_tr, .int n_ho])), (g_girth, .inl (k_girth, 60, .inl f_girth))]) hD hS hA [0, 1] rfl
  refine va_calli (va_runV (C := RX2) (As := [.int v1]) (rest := []) ⟨hx, hb, hml, hown, htb⟩ (kX2_girthOf l dC dI H.size h0 g_node g_girth g_gave g_holeTree g_holeAngle g_holeYear n_tr n_ho k_girth f_girth v1 yg yv) ⟨callB_of 1 htb (gd_c m_395) rfl rfl rfl (htb _ m_3) (htb _ m_392) hdX2_girthOf ⟨(Nat.le_of_ble_eq_true rfl), (Nat.le_of_ble_eq_true rfl)⟩, htb _ m_393, htb _ m_394⟩ ⟨pcW_blind, va_recv hKc hPc (ci := 2) (q0 := 0) rfl rfl, pcW_at hPc hKc hDc hN⟩ rfl rfl hl.1 rfl (lv_room (Nat.le_of_ble_eq_true rfl)) dX2_tapsAllowed_2 ⟨(Nat.le_of_ble_eq_true rfl), (Nat.le_of_ble_eq_true rfl)⟩) hS (fun q _ h => hFc q h) hFc (fun r_1 u t H1 locs1 ht hvm h_2 hB hz1 hk1 hS1 => ?_)
  obtain ⟨hP1, hK1, hD1⟩ := hB
  rw [ht] at hP1
  obtain ⟨hPn, hDn⟩ := va_join (wr := []) (w1 := [(h0, .inr (2, [.ref g_node, .ref g_girth, .ref g_gave, .ref g_holeTree, .ref g_holeAngle, .ref g_holeYear, .int n_tr, .int n_ho])), (g_girth, .inl (k_girth, 60, .inl f_girth))]) hP hD [0, 1] [] rfl rfl (by decide) (by decide) hk1 hFc hP1 hD1
  clear hP1 hD1 hK1
  clear hP hD hS hPc hDc hKc hFc hk1 hz1 ht hvm
  clear t
  revert hS1 hPn hDn; generalize H1 = H; generalize locs1 = locs; intro hS hP hD
  change va_P (dC, dI) vwCl [(h0, .inr (2, [.ref g_node, .ref g_girth, .ref g_gave, .ref g_holeTree, .ref g_holeAngle, .ref g_holeYear, .int n_tr, .int n_ho])), (g_girth, .inl (k_girth, 60, .inl f_girth))] H at hP
  change va_D A [(h0, .inr (2, [.ref g_node, .ref g_girth, .ref g_gave, .ref g_holeTree, .ref g_holeAngle, .ref g_holeYear, .int n_tr, .int n_ho])), (g_girth, .inl (k_girth, 60, .inl f_girth))] at hD
  refine lv_istore_n (lv' := [(2, .int r_1), (0, .ref h0), (1, .int v1)]) hx hb dX2_tapsAllowed_5 rfl hl (by decide) rfl ?_
  clear hl; intro ls hl
  refine lv_iload_n hx hb dX2_tapsAllowed_6 rfl (lv_at hl 0 rfl) ?_
  refine lv_bipush (v := 80) hx hb dX2_tapsAllowed_7 (by decide) ?_
  refine lv_icmp_ge (tgt := 14) hx hb dX2_tapsAllowed_9 (by decide) (fun c_3 => ?_) (fun c_3 => ?_)
  · have t_4 : (80 : Int) ≤ r_1.toInt := i_le (by decide) rfl c_3
    refine lv_iload_n hx hb dX2_tapsAllowed_14 rfl (lv_at hl 0 rfl) ?_
    refine lv_sipush (v := 150) hx hb dX2_tapsAllowed_15 (by decide) ?_
    refine lv_icmp_ge (tgt := 23) hx hb dX2_tapsAllowed_18 (by decide) (fun c_5 => ?_) (fun c_5 => ?_)
    · have t_6 : (150 : Int) ≤ r_1.toInt := i_le (by decide) rfl c_5
      refine lv_iload_n hx hb dX2_tapsAllowed_23 rfl (lv_at hl 0 rfl) ?_
      refine lv_sipush (v := 200) hx hb dX2_tapsAllowed_24 (by decide) ?_
      refine lv_icmp_ge (tgt := 34) hx hb dX2_tapsAllowed_27 (by decide) (fun c_7 => ?_) (fun c_7 => ?_)
      · have t_8 : (200 : Int) ≤ r_1.toInt := i_le (by decide) rfl c_7
        refine lv_iconst (v := 3) hx hb dX2_tapsAllowed_34 (by decide) ?_
        refine W.widen (k := 0) (n := 0) (Nat.le_of_ble_eq_true rfl) (Nat.le_of_ble_eq_true rfl) ?_
        have hP9 := hP.sub (ws' := [(h0, .inr (2, [.ref g_node, .ref g_girth, .ref g_gave, .ref g_holeTree, .ref g_holeAngle, .ref g_holeYear, .int n_tr, .int n_ho])), (g_girth, .inl (k_girth, 60, .inl f_girth))]) [0, 1] rfl
        have hD9 := hD.sub (ws' := [(h0, .inr (2, [.ref g_node, .ref g_girth, .ref g_gave, .ref g_holeTree, .ref g_holeAngle, .ref g_holeYear, .int n_tr, .int n_ho])), (g_girth, .inl (k_girth, 60, .inl f_girth))]) [0, 1] (by decide) rfl
        have hK9 := hK.sub (tys' := [(k_girth, .int)]) [0] rfl
        exact W.iret (v := 3) hx hb hr (fun t ht hW => ⟨⟨3, (), rfl, (lg_X2_tapsAllowed_0 n_tr n_ho f_girth v1 r_1 yg yv h_2 t_4 t_6 t_8), ⟨by rw [ht]; exact hP9, va_K.moved hW.alike hK9, hD9⟩⟩, hS.F ht⟩) hS.2.2 dX2_tapsAllowed_35
      · have t_8 : r_1.toInt < (200 : Int) := i_nle (by decide) rfl c_7
        refine lv_iconst (v := 2) hx hb dX2_tapsAllowed_30 (by decide) ?_
        refine lv_goto (tgt := 35) hx hb dX2_tapsAllowed_31 (by decide) ?_
        refine W.widen (k := 0) (n := 0) (Nat.le_of_ble_eq_true rfl) (Nat.le_of_ble_eq_true rfl) ?_
        have hP9 := hP.sub (ws' := [(h0, .inr (2, [.ref g_node, .ref g_girth, .ref g_gave, .ref g_holeTree, .ref g_holeAngle, .ref g_holeYear, .int n_tr, .int n_ho])), (g_girth, .inl (k_girth, 60, .inl f_girth))]) [0, 1] rfl
        have hD9 := hD.sub (ws' := [(h0, .inr (2, [.ref g_node, .ref g_girth, .ref g_gave, .ref g_holeTree, .ref g_holeAngle, .ref g_holeYear, .int n_tr, .int n_ho])), (g_girth, .inl (k_girth, 60, .inl f_girth))]) [0, 1] (by decide) rfl
        have hK9 := hK.sub (tys' := [(k_girth, .int)]) [0] rfl
        exact W.iret (v := 2) hx hb hr (fun t ht hW => ⟨⟨2, (), rfl, (lg_X2_tapsAllowed_1 n_tr n_ho f_girth v1 r_1 yg yv h_2 t_4 t_6 t_8), ⟨by rw [ht]; exact hP9, va_K.moved hW.alike hK9, hD9⟩⟩, hS.F ht⟩) hS.2.2 dX2_tapsAllowed_35
    · have t_6 : r_1.toInt < (150 : Int) := i_nle (by decide) rfl c_5
      refine lv_iconst (v := 1) hx hb dX2_tapsAllowed_21 (by decide) ?_
      refine W.widen (k := 0) (n := 0) (Nat.le_of_ble_eq_true rfl) (Nat.le_of_ble_eq_true rfl) ?_
      have hP9 := hP.sub (ws' := [(h0, .inr (2, [.ref g_node, .ref g_girth, .ref g_gave, .ref g_holeTree, .ref g_holeAngle, .ref g_holeYear, .int n_tr, .int n_ho])), (g_girth, .inl (k_girth, 60, .inl f_girth))]) [0, 1] rfl
      have hD9 := hD.sub (ws' := [(h0, .inr (2, [.ref g_node, .ref g_girth, .ref g_gave, .ref g_holeTree, .ref g_holeAngle, .ref g_holeYear, .int n_tr, .int n_ho])), (g_girth, .inl (k_girth, 60, .inl f_girth))]) [0, 1] (by decide) rfl
      have hK9 := hK.sub (tys' := [(k_girth, .int)]) [0] rfl
      exact W.iret (v := 1) hx hb hr (fun t ht hW => ⟨⟨1, (), rfl, (lg_X2_tapsAllowed_2 n_tr n_ho f_girth v1 r_1 yg yv h_2 t_4 t_6), ⟨by rw [ht]; exact hP9, va_K.moved hW.alike hK9, hD9⟩⟩, hS.F ht⟩) hS.2.2 dX2_tapsAllowed_22
  · have t_4 : r_1.toInt < (80 : Int) := i_nle (by decide) rfl c_3
    refine lv_iconst (v := 0) hx hb dX2_tapsAllowed_12 (by decide) ?_
    refine W.widen (k := 0) (n := 0) (Nat.le_of_ble_eq_true rfl) (Nat.le_of_ble_eq_true rfl) ?_
    have hP9 := hP.sub (ws' := [(h0, .inr (2, [.ref g_node, .ref g_girth, .ref g_gave, .ref g_holeTree, .ref g_holeAngle, .ref g_holeYear, .int n_tr, .int n_ho])), (g_girth, .inl (k_girth, 60, .inl f_girth))]) [0, 1] rfl
    have hD9 := hD.sub (ws' := [(h0, .inr (2, [.ref g_node, .ref g_girth, .ref g_gave, .ref g_holeTree, .ref g_holeAngle, .ref g_holeYear, .int n_tr, .int n_ho])), (g_girth, .inl (k_girth, 60, .inl f_girth))]) [0, 1] (by decide) rfl
    have hK9 := hK.sub (tys' := [(k_girth, .int)]) [0] rfl
    exact W.iret (v := 0) hx hb hr (fun t ht hW => ⟨⟨0, (), rfl, (lg_X2_tapsAllowed_3 n_tr n_ho f_girth v1 r_1 yg yv h_2 t_4), ⟨by rw [ht]; exact hP9, va_K.moved hW.alike hK9, hD9⟩⟩, hS.F ht⟩) hS.2.2 dX2_tapsAllowed_13

theorem lg_X2_degreesApart_0 (v1 : Int32) (v2 : Int32) (yv : (0 ≤ v1.toInt ∧ v1.toInt ≤ 359) ∧ (0 ≤ v2.toInt ∧ v2.toInt ≤ 359)) : -2147483648 ≤ v1.toInt - v2.toInt ∧ v1.toInt - v2.toInt < 2147483648 := by
  have := rg_rng v1; have := rg_rng v2; omega
theorem lg_X2_degreesApart_1 (v1 : Int32) (v2 : Int32) (x_1 : Int32) (yv : (0 ≤ v1.toInt ∧ v1.toInt ≤ 359) ∧ (0 ≤ v2.toInt ∧ v2.toInt ≤ 359)) (t_3 : x_1.toInt = v1.toInt - v2.toInt) : -2147483648 < x_1.toInt := by
  have := rg_rng v1; have := rg_rng v2; have := rg_rng x_1; omega
theorem lg_X2_degreesApart_2 (v1 : Int32) (v2 : Int32) (x_1 : Int32) (x_4 : Int32) (yv : (0 ≤ v1.toInt ∧ v1.toInt ≤ 359) ∧ (0 ≤ v2.toInt ∧ v2.toInt ≤ 359)) (t_3 : x_1.toInt = v1.toInt - v2.toInt) (t_6 : (0 ≤ x_1.toInt ∧ x_4.toInt = x_1.toInt) ∨ (x_1.toInt < 0 ∧ x_4.toInt = - x_1.toInt)) : -2147483648 ≤ (360 : Int) - x_4.toInt ∧ (360 : Int) - x_4.toInt < 2147483648 := by
  have := rg_rng v1; have := rg_rng v2; have := rg_rng x_1; have := rg_rng x_4; omega
theorem lg_X2_degreesApart_3 (v1 : Int32) (v2 : Int32) (x_1 : Int32) (x_4 : Int32) (x_7 : Int32) (x_10 : Int32) (yv : (0 ≤ v1.toInt ∧ v1.toInt ≤ 359) ∧ (0 ≤ v2.toInt ∧ v2.toInt ≤ 359)) (t_3 : x_1.toInt = v1.toInt - v2.toInt) (t_6 : (0 ≤ x_1.toInt ∧ x_4.toInt = x_1.toInt) ∨ (x_1.toInt < 0 ∧ x_4.toInt = - x_1.toInt)) (t_9 : x_7.toInt = (360 : Int) - x_4.toInt) (t_12 : (x_7.toInt < x_4.toInt ∧ x_10.toInt = x_7.toInt) ∨ (x_4.toInt ≤ x_7.toInt ∧ x_10.toInt = x_4.toInt)) : (x_10.toInt < 40 ∧ ((-40 < (v1.toInt - v2.toInt) ∧ (v1.toInt - v2.toInt) < 40) ∨ 320 < (v1.toInt - v2.toInt) ∨ (v1.toInt - v2.toInt) < -320)) ∨ (40 ≤ x_10.toInt ∧ ¬ ((-40 < (v1.toInt - v2.toInt) ∧ (v1.toInt - v2.toInt) < 40) ∨ 320 < (v1.toInt - v2.toInt) ∨ (v1.toInt - v2.toInt) < -320)) := by
  have := rg_rng v1; have := rg_rng v2; have := rg_rng x_1; have := rg_rng x_4; have := rg_rng x_7; have := rg_rng x_10; omega
set_option maxHeartbeats 4000000 in
set_option maxRecDepth 100000 in
theorem kX2_degreesApart (l : Launch) (dC : Nat → ClassId) (dI : Nat → Nat → Nat) (sz : Nat) (v1 : Int32) (v2 : Int32) (yv : (0 ≤ v1.toInt ∧ v1.toInt ≤ 359) ∧ (0 ≤ v2.toInt ∧ v2.toInt ≤ 359)) : Met l yX2_degreesApart (Cond.code yX2_degreesApart cX2_degreesApart 3 (some .int) :: bg) ({ frames := 1, cells := 0, slots := 0, locals := 13 }) (pcW dC dI [.int v1, .int v2] sz [] []) (va_Qi (fun (r : Int32) (u : Unit) => (r.toInt < 40 ∧ ((-40 < (v1.toInt - v2.toInt) ∧ (v1.toInt - v2.toInt) < 40) ∨ 320 < (v1.toInt - v2.toInt) ∨ (v1.toInt - v2.toInt) < -320)) ∨ (40 ≤ r.toInt ∧ ¬ ((-40 < (v1.toInt - v2.toInt) ∧ (v1.toInt - v2.toInt) < 40) ∨ 320 < (v1.toInt - v2.toInt) ∨ (v1.toInt - v2.toInt) < -320))) (fun (u : Unit) (t : State) => va_P (dC, dI) vwCl [] t.heap ∧ va_K (dC, dI) vwCl [] t ∧ va_D (va_A [] sz) []) (va_A [] sz)) 0 0 (va_A [] sz) := by
  refine Met.ofW (cc := cX2_degreesApart) (maxL := 3) (ret := (some .int)) pnX2 rfl ?_
  intro p e s m args below meth c s₁ B hml hv
  obtain ⟨rfl, hsz, hP, hK, hD0, hN⟩ := hv
  have hx := B.exec
  have hb := B.bytes
  have hr := B.returns
  have htb : ∀ w ∈ bg, w.before [.int v1, .int v2].toArray s = true := fun w h => atoms_spec (ws := Cond.code yX2_degreesApart cX2_degreesApart 3 (some .int) :: bg) B.pre w (List.mem_cons_of_mem _ h)
  have hown : s.vm.findClass RX2 = some m.cls := findClass_of_methodNamed B.named
  have hlocks := B.notSynchronized
  subst hsz
  have hD := hD0.self (sz := s.heap.size)
  generalize hAe : va_A [] s.heap.size = A at hD ⊢
  have hA : ∀ q : Nat, s.heap.size ≤ q → A q := fun q h => by rw [← hAe]; exact Or.inr h
  have hS : va_S A s.heap s.heap [] := va_S.rf
  have hl := lv_entry ([.int v1, .int v2]) (n := 3) (Nat.le_of_ble_eq_true rfl)
  rw [lg_entry_eq]
  generalize (lg_sl ([.int v1, .int v2]) ++ List.replicate (3 - (lg_sl ([.int v1, .int v2])).length) Slot.unset).toArray = ls at hl ⊢
  change lv_has ls 3 [(0, .int v1), (1, .int v2)] at hl
  clear hD0 hAe
  refine go0 (wsP := fun H => va_P (dC, dI) vwCl [] H) hP hS ?_
  clear hP hS; intro H locs hP hS
  change va_P (dC, dI) vwCl [] H at hP
  refine lv_iload_n hx hb dX2_degreesApart_0 rfl (lv_at hl 0 rfl) ?_
  refine lv_iload_n hx hb dX2_degreesApart_1 rfl (lv_at hl 1 rfl) ?_
  refine lv_isub hx hb dX2_degreesApart_2 ?_
  refine lv_topi (fun x_1 ex_2 => ?_)
  have t_3 : x_1.toInt = v1.toInt - v2.toInt := i_sub rfl rfl (lg_X2_degreesApart_0 v1 v2 yv) ex_2
  refine va_mabs hx hb (hml.trans hl.1.symm) hown (htb _ m_404) (htb _ m_405) (htb _ m_14) (htb _ m_406) (Nat.le_of_ble_eq_true rfl) (Nat.le_of_ble_eq_true rfl) (Nat.le_of_ble_eq_true rfl) (Nat.le_of_ble_eq_true rfl) dX2_degreesApart_3 ?_
  refine lv_topi (fun x_4 ex_5 => ?_)
  have t_6 : (0 ≤ x_1.toInt ∧ x_4.toInt = x_1.toInt) ∨ (x_1.toInt < 0 ∧ x_4.toInt = - x_1.toInt) := i_abs rfl (lg_X2_degreesApart_1 v1 v2 x_1 yv t_3) ex_5
  refine lv_istore_n (lv' := [(2, .int x_4), (0, .int v1), (1, .int v2)]) hx hb dX2_degreesApart_6 rfl hl (by decide) rfl ?_
  clear hl; intro ls hl
  refine lv_iload_n hx hb dX2_degreesApart_7 rfl (lv_at hl 0 rfl) ?_
  refine lv_sipush (v := 360) hx hb dX2_degreesApart_8 (by decide) ?_
  refine lv_iload_n hx hb dX2_degreesApart_11 rfl (lv_at hl 0 rfl) ?_
  refine lv_isub hx hb dX2_degreesApart_12 ?_
  refine lv_topi (fun x_7 ex_8 => ?_)
  have t_9 : x_7.toInt = (360 : Int) - x_4.toInt := i_sub (by decide) rfl (lg_X2_degreesApart_2 v1 v2 x_1 x_4 yv t_3 t_6) ex_8
  refine va_mmin hx hb (hml.trans hl.1.symm) hown (htb _ m_407) (htb _ m_408) (htb _ m_14) (htb _ m_409) (Nat.le_of_ble_eq_true rfl) (Nat.le_of_ble_eq_true rfl) (Nat.le_of_ble_eq_true rfl) (Nat.le_of_ble_eq_true rfl) dX2_degreesApart_13 ?_
  refine lv_topi (fun x_10 ex_11 => ?_)
  have t_12 : (x_7.toInt < x_4.toInt ∧ x_10.toInt = x_7.toInt) ∨ (x_4.toInt ≤ x_7.toInt ∧ x_10.toInt = x_4.toInt) := i_min rfl rfl ex_11
  refine W.widen (k := 0) (n := 0) (Nat.le_of_ble_eq_true rfl) (Nat.le_of_ble_eq_true rfl) ?_
  have hP9 := hP.sub (ws' := []) [] rfl
  have hD9 := hD.sub (ws' := []) [] (by decide) rfl
  have hK9 := hK.sub (tys' := []) [] rfl
  exact W.iret (v := x_10) hx hb hr (fun t ht hW => ⟨⟨x_10, (), rfl, (lg_X2_degreesApart_3 v1 v2 x_1 x_4 x_7 x_10 yv t_3 t_6 t_9 t_12), ⟨by rw [ht]; exact hP9, va_K.moved hW.alike hK9, hD9⟩⟩, hS.F ht⟩) hS.2.2 dX2_degreesApart_16

theorem lg_X2_holesOf_0 (n_tr : Int32) (n_ho : Int32) (yg : 0 ≤ n_tr.toInt ∧ n_tr.toInt ≤ 60 ∧ 0 ≤ n_ho.toInt ∧ n_ho.toInt ≤ 300) : (n_ho.toInt - (0 : Int)) < ((Int.toNat (n_ho.toInt - (0 : Int)) + 1 : Nat) : Int) := by
  have := rg_rng n_tr; have := rg_rng n_ho; omega
theorem lg_X2_holesOf_1 (n_tr : Int32) (n_ho : Int32) (yg : 0 ≤ n_tr.toInt ∧ n_tr.toInt ≤ 60 ∧ 0 ≤ n_ho.toInt ∧ n_ho.toInt ≤ 300) : 0 ≤ (0 : Int) ∧ (0 : Int) ≤ n_ho.toInt := by
  have := rg_rng n_tr; have := rg_rng n_ho; omega
theorem lg_X2_holesOf_2 (n_tr : Int32) (n_ho : Int32) (yg : 0 ≤ n_tr.toInt ∧ n_tr.toInt ≤ 60 ∧ 0 ≤ n_ho.toInt ∧ n_ho.toInt ≤ 300) : 0 ≤ (0 : Int) ∧ (0 : Int) ≤ (0 : Int) := by
  have := rg_rng n_tr; have := rg_rng n_ho; omega
theorem lg_X2_holesOf_3 (n_tr : Int32) (n_ho : Int32) (i_1 : Int32) (j_1 : Int32) (yg : 0 ≤ n_tr.toInt ∧ n_tr.toInt ≤ 60 ∧ 0 ≤ n_ho.toInt ∧ n_ho.toInt ≤ 300) (hi1_0 : 0 ≤ i_1.toInt ∧ i_1.toInt ≤ n_ho.toInt) (hi1_1 : 0 ≤ j_1.toInt ∧ j_1.toInt ≤ i_1.toInt) (hmu1 : (n_ho.toInt - i_1.toInt) < ((0 : Nat) : Int)) : False := by
  have := rg_rng n_tr; have := rg_rng n_ho; have := rg_rng i_1; have := rg_rng j_1; omega
theorem lg_X2_holesOf_4 (n_tr : Int32) (n_ho : Int32) (i_1 : Int32) (j_1 : Int32) (n1 : Nat) (yg : 0 ≤ n_tr.toInt ∧ n_tr.toInt ≤ 60 ∧ 0 ≤ n_ho.toInt ∧ n_ho.toInt ≤ 300) (hi1_0 : 0 ≤ i_1.toInt ∧ i_1.toInt ≤ n_ho.toInt) (hi1_1 : 0 ≤ j_1.toInt ∧ j_1.toInt ≤ i_1.toInt) (hmu1 : (n_ho.toInt - i_1.toInt) < ((n1 + 1 : Nat) : Int)) (t_3 : n_ho.toInt ≤ i_1.toInt) : i_1.toInt = n_ho.toInt := by
  have := rg_rng n_tr; have := rg_rng n_ho; have := rg_rng i_1; have := rg_rng j_1; omega
theorem lg_X2_holesOf_5 (n_tr : Int32) (n_ho : Int32) (i_1 : Int32) (j_1 : Int32) (n1 : Nat) (yg : 0 ≤ n_tr.toInt ∧ n_tr.toInt ≤ 60 ∧ 0 ≤ n_ho.toInt ∧ n_ho.toInt ≤ 300) (hi1_0 : 0 ≤ i_1.toInt ∧ i_1.toInt ≤ n_ho.toInt) (hi1_1 : 0 ≤ j_1.toInt ∧ j_1.toInt ≤ i_1.toInt) (hmu1 : (n_ho.toInt - i_1.toInt) < ((n1 + 1 : Nat) : Int)) (t_3 : n_ho.toInt ≤ i_1.toInt) : 0 ≤ j_1.toInt ∧ j_1.toInt ≤ n_ho.toInt := by
  have := rg_rng n_tr; have := rg_rng n_ho; have := rg_rng i_1; have := rg_rng j_1; omega
theorem lg_X2_holesOf_6 (n_tr : Int32) (n_ho : Int32) (i_1 : Int32) (j_1 : Int32) (n1 : Nat) (yg : 0 ≤ n_tr.toInt ∧ n_tr.toInt ≤ 60 ∧ 0 ≤ n_ho.toInt ∧ n_ho.toInt ≤ 300) (hi1_0 : 0 ≤ i_1.toInt ∧ i_1.toInt ≤ n_ho.toInt) (hi1_1 : 0 ≤ j_1.toInt ∧ j_1.toInt ≤ i_1.toInt) (hmu1 : (n_ho.toInt - i_1.toInt) < ((n1 + 1 : Nat) : Int)) (t_3 : i_1.toInt < n_ho.toInt) : 0 ≤ i_1.toInt ∧ i_1.toInt < ((300 : Nat) : Int) := by
  have := rg_rng n_tr; have := rg_rng n_ho; have := rg_rng i_1; have := rg_rng j_1; omega
theorem lg_X2_holesOf_7 (n_tr : Int32) (n_ho : Int32) (v1 : Int32) (i_1 : Int32) (j_1 : Int32) (n1 : Nat) (x_4 : Int32) (yg : 0 ≤ n_tr.toInt ∧ n_tr.toInt ≤ 60 ∧ 0 ≤ n_ho.toInt ∧ n_ho.toInt ≤ 300) (hi1_0 : 0 ≤ i_1.toInt ∧ i_1.toInt ≤ n_ho.toInt) (hi1_1 : 0 ≤ j_1.toInt ∧ j_1.toInt ≤ i_1.toInt) (hmu1 : (n_ho.toInt - i_1.toInt) < ((n1 + 1 : Nat) : Int)) (t_3 : i_1.toInt < n_ho.toInt) (t_7 : ¬ x_4.toInt = v1.toInt) : -2147483648 ≤ i_1.toInt + 1 ∧ i_1.toInt + 1 < 2147483648 := by
  have := rg_rng n_tr; have := rg_rng n_ho; have := rg_rng v1; have := rg_rng i_1; have := rg_rng j_1; have := rg_rng x_4; omega
theorem lg_X2_holesOf_8 (n_tr : Int32) (n_ho : Int32) (v1 : Int32) (i_1 : Int32) (j_1 : Int32) (n1 : Nat) (x_4 : Int32) (x_8 : Int32) (yg : 0 ≤ n_tr.toInt ∧ n_tr.toInt ≤ 60 ∧ 0 ≤ n_ho.toInt ∧ n_ho.toInt ≤ 300) (hi1_0 : 0 ≤ i_1.toInt ∧ i_1.toInt ≤ n_ho.toInt) (hi1_1 : 0 ≤ j_1.toInt ∧ j_1.toInt ≤ i_1.toInt) (hmu1 : (n_ho.toInt - i_1.toInt) < ((n1 + 1 : Nat) : Int)) (t_3 : i_1.toInt < n_ho.toInt) (t_7 : ¬ x_4.toInt = v1.toInt) (t_10 : x_8.toInt = i_1.toInt + 1) : (n_ho.toInt - x_8.toInt) < (n1 : Int) := by
  have := rg_rng n_tr; have := rg_rng n_ho; have := rg_rng v1; have := rg_rng i_1; have := rg_rng j_1; have := rg_rng x_4; have := rg_rng x_8; omega
theorem lg_X2_holesOf_9 (n_tr : Int32) (n_ho : Int32) (v1 : Int32) (i_1 : Int32) (j_1 : Int32) (n1 : Nat) (x_4 : Int32) (x_8 : Int32) (yg : 0 ≤ n_tr.toInt ∧ n_tr.toInt ≤ 60 ∧ 0 ≤ n_ho.toInt ∧ n_ho.toInt ≤ 300) (hi1_0 : 0 ≤ i_1.toInt ∧ i_1.toInt ≤ n_ho.toInt) (hi1_1 : 0 ≤ j_1.toInt ∧ j_1.toInt ≤ i_1.toInt) (hmu1 : (n_ho.toInt - i_1.toInt) < ((n1 + 1 : Nat) : Int)) (t_3 : i_1.toInt < n_ho.toInt) (t_7 : ¬ x_4.toInt = v1.toInt) (t_10 : x_8.toInt = i_1.toInt + 1) : 0 ≤ x_8.toInt ∧ x_8.toInt ≤ n_ho.toInt := by
  have := rg_rng n_tr; have := rg_rng n_ho; have := rg_rng v1; have := rg_rng i_1; have := rg_rng j_1; have := rg_rng x_4; have := rg_rng x_8; omega
theorem lg_X2_holesOf_10 (n_tr : Int32) (n_ho : Int32) (v1 : Int32) (i_1 : Int32) (j_1 : Int32) (n1 : Nat) (x_4 : Int32) (x_8 : Int32) (yg : 0 ≤ n_tr.toInt ∧ n_tr.toInt ≤ 60 ∧ 0 ≤ n_ho.toInt ∧ n_ho.toInt ≤ 300) (hi1_0 : 0 ≤ i_1.toInt ∧ i_1.toInt ≤ n_ho.toInt) (hi1_1 : 0 ≤ j_1.toInt ∧ j_1.toInt ≤ i_1.toInt) (hmu1 : (n_ho.toInt - i_1.toInt) < ((n1 + 1 : Nat) : Int)) (t_3 : i_1.toInt < n_ho.toInt) (t_7 : ¬ x_4.toInt = v1.toInt) (t_10 : x_8.toInt = i_1.toInt + 1) : 0 ≤ j_1.toInt ∧ j_1.toInt ≤ x_8.toInt := by
  have := rg_rng n_tr; have := rg_rng n_ho; have := rg_rng v1; have := rg_rng i_1; have := rg_rng j_1; have := rg_rng x_4; have := rg_rng x_8; omega
theorem lg_X2_holesOf_11 (n_tr : Int32) (n_ho : Int32) (f_holeTree : Nat → Int32) (v1 : Int32) (i_1 : Int32) (j_1 : Int32) (n1 : Nat) (x_4 : Int32) (x_8 : Int32) (yg : 0 ≤ n_tr.toInt ∧ n_tr.toInt ≤ 60 ∧ 0 ≤ n_ho.toInt ∧ n_ho.toInt ≤ 300) (hi1_0 : 0 ≤ i_1.toInt ∧ i_1.toInt ≤ n_ho.toInt) (hi1_1 : 0 ≤ j_1.toInt ∧ j_1.toInt ≤ i_1.toInt) (hmu1 : (n_ho.toInt - i_1.toInt) < ((n1 + 1 : Nat) : Int)) (t_3 : i_1.toInt < n_ho.toInt) (t_7 : ¬ x_4.toInt = v1.toInt) (t_10 : x_8.toInt = i_1.toInt + 1) (ex_5 : x_4 = f_holeTree (Int32.toNatClampNeg i_1)) : (fun k => decide (f_holeTree k = v1)) (Int32.toNatClampNeg i_1) = false := by
  have := rg_rng n_tr; have := rg_rng n_ho; have := rg_rng v1; have := rg_rng i_1; have := rg_rng j_1; have := rg_rng x_4; have := rg_rng x_8; refine decide_eq_false ?_
  simp only [← ex_5, ← Int32.toInt_inj]
  omega
theorem lg_X2_holesOf_12 (n_tr : Int32) (n_ho : Int32) (v1 : Int32) (i_1 : Int32) (j_1 : Int32) (n1 : Nat) (x_4 : Int32) (x_8 : Int32) (yg : 0 ≤ n_tr.toInt ∧ n_tr.toInt ≤ 60 ∧ 0 ≤ n_ho.toInt ∧ n_ho.toInt ≤ 300) (hi1_0 : 0 ≤ i_1.toInt ∧ i_1.toInt ≤ n_ho.toInt) (hi1_1 : 0 ≤ j_1.toInt ∧ j_1.toInt ≤ i_1.toInt) (hmu1 : (n_ho.toInt - i_1.toInt) < ((n1 + 1 : Nat) : Int)) (t_3 : i_1.toInt < n_ho.toInt) (t_7 : ¬ x_4.toInt = v1.toInt) (t_10 : x_8.toInt = i_1.toInt + 1) : x_8.toInt = i_1.toInt + 1 := by
  have := rg_rng n_tr; have := rg_rng n_ho; have := rg_rng v1; have := rg_rng i_1; have := rg_rng j_1; have := rg_rng x_4; have := rg_rng x_8; omega
theorem lg_X2_holesOf_13 (n_tr : Int32) (n_ho : Int32) (v1 : Int32) (i_1 : Int32) (j_1 : Int32) (n1 : Nat) (x_4 : Int32) (x_8 : Int32) (yg : 0 ≤ n_tr.toInt ∧ n_tr.toInt ≤ 60 ∧ 0 ≤ n_ho.toInt ∧ n_ho.toInt ≤ 300) (hi1_0 : 0 ≤ i_1.toInt ∧ i_1.toInt ≤ n_ho.toInt) (hi1_1 : 0 ≤ j_1.toInt ∧ j_1.toInt ≤ i_1.toInt) (hmu1 : (n_ho.toInt - i_1.toInt) < ((n1 + 1 : Nat) : Int)) (t_3 : i_1.toInt < n_ho.toInt) (t_7 : ¬ x_4.toInt = v1.toInt) (t_10 : x_8.toInt = i_1.toInt + 1) : j_1.toInt = j_1.toInt := by
  have := rg_rng n_tr; have := rg_rng n_ho; have := rg_rng v1; have := rg_rng i_1; have := rg_rng j_1; have := rg_rng x_4; have := rg_rng x_8; omega
theorem lg_X2_holesOf_14 (n_tr : Int32) (n_ho : Int32) (v1 : Int32) (i_1 : Int32) (j_1 : Int32) (n1 : Nat) (x_4 : Int32) (yg : 0 ≤ n_tr.toInt ∧ n_tr.toInt ≤ 60 ∧ 0 ≤ n_ho.toInt ∧ n_ho.toInt ≤ 300) (hi1_0 : 0 ≤ i_1.toInt ∧ i_1.toInt ≤ n_ho.toInt) (hi1_1 : 0 ≤ j_1.toInt ∧ j_1.toInt ≤ i_1.toInt) (hmu1 : (n_ho.toInt - i_1.toInt) < ((n1 + 1 : Nat) : Int)) (t_3 : i_1.toInt < n_ho.toInt) (t_7 : x_4.toInt = v1.toInt) : -2147483648 ≤ j_1.toInt + 1 ∧ j_1.toInt + 1 < 2147483648 := by
  have := rg_rng n_tr; have := rg_rng n_ho; have := rg_rng v1; have := rg_rng i_1; have := rg_rng j_1; have := rg_rng x_4; omega
theorem lg_X2_holesOf_15 (n_tr : Int32) (n_ho : Int32) (v1 : Int32) (i_1 : Int32) (j_1 : Int32) (n1 : Nat) (x_4 : Int32) (x_11 : Int32) (yg : 0 ≤ n_tr.toInt ∧ n_tr.toInt ≤ 60 ∧ 0 ≤ n_ho.toInt ∧ n_ho.toInt ≤ 300) (hi1_0 : 0 ≤ i_1.toInt ∧ i_1.toInt ≤ n_ho.toInt) (hi1_1 : 0 ≤ j_1.toInt ∧ j_1.toInt ≤ i_1.toInt) (hmu1 : (n_ho.toInt - i_1.toInt) < ((n1 + 1 : Nat) : Int)) (t_3 : i_1.toInt < n_ho.toInt) (t_7 : x_4.toInt = v1.toInt) (t_13 : x_11.toInt = j_1.toInt + 1) : -2147483648 ≤ i_1.toInt + 1 ∧ i_1.toInt + 1 < 2147483648 := by
  have := rg_rng n_tr; have := rg_rng n_ho; have := rg_rng v1; have := rg_rng i_1; have := rg_rng j_1; have := rg_rng x_4; have := rg_rng x_11; omega
theorem lg_X2_holesOf_16 (n_tr : Int32) (n_ho : Int32) (v1 : Int32) (i_1 : Int32) (j_1 : Int32) (n1 : Nat) (x_4 : Int32) (x_11 : Int32) (x_14 : Int32) (yg : 0 ≤ n_tr.toInt ∧ n_tr.toInt ≤ 60 ∧ 0 ≤ n_ho.toInt ∧ n_ho.toInt ≤ 300) (hi1_0 : 0 ≤ i_1.toInt ∧ i_1.toInt ≤ n_ho.toInt) (hi1_1 : 0 ≤ j_1.toInt ∧ j_1.toInt ≤ i_1.toInt) (hmu1 : (n_ho.toInt - i_1.toInt) < ((n1 + 1 : Nat) : Int)) (t_3 : i_1.toInt < n_ho.toInt) (t_7 : x_4.toInt = v1.toInt) (t_13 : x_11.toInt = j_1.toInt + 1) (t_16 : x_14.toInt = i_1.toInt + 1) : (n_ho.toInt - x_14.toInt) < (n1 : Int) := by
  have := rg_rng n_tr; have := rg_rng n_ho; have := rg_rng v1; have := rg_rng i_1; have := rg_rng j_1; have := rg_rng x_4; have := rg_rng x_11; have := rg_rng x_14; omega
theorem lg_X2_holesOf_17 (n_tr : Int32) (n_ho : Int32) (v1 : Int32) (i_1 : Int32) (j_1 : Int32) (n1 : Nat) (x_4 : Int32) (x_11 : Int32) (x_14 : Int32) (yg : 0 ≤ n_tr.toInt ∧ n_tr.toInt ≤ 60 ∧ 0 ≤ n_ho.toInt ∧ n_ho.toInt ≤ 300) (hi1_0 : 0 ≤ i_1.toInt ∧ i_1.toInt ≤ n_ho.toInt) (hi1_1 : 0 ≤ j_1.toInt ∧ j_1.toInt ≤ i_1.toInt) (hmu1 : (n_ho.toInt - i_1.toInt) < ((n1 + 1 : Nat) : Int)) (t_3 : i_1.toInt < n_ho.toInt) (t_7 : x_4.toInt = v1.toInt) (t_13 : x_11.toInt = j_1.toInt + 1) (t_16 : x_14.toInt = i_1.toInt + 1) : 0 ≤ x_14.toInt ∧ x_14.toInt ≤ n_ho.toInt := by
  have := rg_rng n_tr; have := rg_rng n_ho; have := rg_rng v1; have := rg_rng i_1; have := rg_rng j_1; have := rg_rng x_4; have := rg_rng x_11; have := rg_rng x_14; omega
theorem lg_X2_holesOf_18 (n_tr : Int32) (n_ho : Int32) (v1 : Int32) (i_1 : Int32) (j_1 : Int32) (n1 : Nat) (x_4 : Int32) (x_11 : Int32) (x_14 : Int32) (yg : 0 ≤ n_tr.toInt ∧ n_tr.toInt ≤ 60 ∧ 0 ≤ n_ho.toInt ∧ n_ho.toInt ≤ 300) (hi1_0 : 0 ≤ i_1.toInt ∧ i_1.toInt ≤ n_ho.toInt) (hi1_1 : 0 ≤ j_1.toInt ∧ j_1.toInt ≤ i_1.toInt) (hmu1 : (n_ho.toInt - i_1.toInt) < ((n1 + 1 : Nat) : Int)) (t_3 : i_1.toInt < n_ho.toInt) (t_7 : x_4.toInt = v1.toInt) (t_13 : x_11.toInt = j_1.toInt + 1) (t_16 : x_14.toInt = i_1.toInt + 1) : 0 ≤ x_11.toInt ∧ x_11.toInt ≤ x_14.toInt := by
  have := rg_rng n_tr; have := rg_rng n_ho; have := rg_rng v1; have := rg_rng i_1; have := rg_rng j_1; have := rg_rng x_4; have := rg_rng x_11; have := rg_rng x_14; omega
theorem lg_X2_holesOf_19 (n_tr : Int32) (n_ho : Int32) (f_holeTree : Nat → Int32) (v1 : Int32) (i_1 : Int32) (j_1 : Int32) (n1 : Nat) (x_4 : Int32) (x_11 : Int32) (x_14 : Int32) (yg : 0 ≤ n_tr.toInt ∧ n_tr.toInt ≤ 60 ∧ 0 ≤ n_ho.toInt ∧ n_ho.toInt ≤ 300) (hi1_0 : 0 ≤ i_1.toInt ∧ i_1.toInt ≤ n_ho.toInt) (hi1_1 : 0 ≤ j_1.toInt ∧ j_1.toInt ≤ i_1.toInt) (hmu1 : (n_ho.toInt - i_1.toInt) < ((n1 + 1 : Nat) : Int)) (t_3 : i_1.toInt < n_ho.toInt) (t_7 : x_4.toInt = v1.toInt) (t_13 : x_11.toInt = j_1.toInt + 1) (t_16 : x_14.toInt = i_1.toInt + 1) (ex_5 : x_4 = f_holeTree (Int32.toNatClampNeg i_1)) : (fun k => decide (f_holeTree k = v1)) (Int32.toNatClampNeg i_1) = true := by
  have := rg_rng n_tr; have := rg_rng n_ho; have := rg_rng v1; have := rg_rng i_1; have := rg_rng j_1; have := rg_rng x_4; have := rg_rng x_11; have := rg_rng x_14; refine decide_eq_true ?_
  simp only [← ex_5, ← Int32.toInt_inj]
  omega
theorem lg_X2_holesOf_20 (n_tr : Int32) (n_ho : Int32) (v1 : Int32) (i_1 : Int32) (j_1 : Int32) (n1 : Nat) (x_4 : Int32) (x_11 : Int32) (x_14 : Int32) (yg : 0 ≤ n_tr.toInt ∧ n_tr.toInt ≤ 60 ∧ 0 ≤ n_ho.toInt ∧ n_ho.toInt ≤ 300) (hi1_0 : 0 ≤ i_1.toInt ∧ i_1.toInt ≤ n_ho.toInt) (hi1_1 : 0 ≤ j_1.toInt ∧ j_1.toInt ≤ i_1.toInt) (hmu1 : (n_ho.toInt - i_1.toInt) < ((n1 + 1 : Nat) : Int)) (t_3 : i_1.toInt < n_ho.toInt) (t_7 : x_4.toInt = v1.toInt) (t_13 : x_11.toInt = j_1.toInt + 1) (t_16 : x_14.toInt = i_1.toInt + 1) : x_14.toInt = i_1.toInt + 1 := by
  have := rg_rng n_tr; have := rg_rng n_ho; have := rg_rng v1; have := rg_rng i_1; have := rg_rng j_1; have := rg_rng x_4; have := rg_rng x_11; have := rg_rng x_14; omega
theorem lg_X2_holesOf_21 (n_tr : Int32) (n_ho : Int32) (v1 : Int32) (i_1 : Int32) (j_1 : Int32) (n1 : Nat) (x_4 : Int32) (x_11 : Int32) (x_14 : Int32) (yg : 0 ≤ n_tr.toInt ∧ n_tr.toInt ≤ 60 ∧ 0 ≤ n_ho.toInt ∧ n_ho.toInt ≤ 300) (hi1_0 : 0 ≤ i_1.toInt ∧ i_1.toInt ≤ n_ho.toInt) (hi1_1 : 0 ≤ j_1.toInt ∧ j_1.toInt ≤ i_1.toInt) (hmu1 : (n_ho.toInt - i_1.toInt) < ((n1 + 1 : Nat) : Int)) (t_3 : i_1.toInt < n_ho.toInt) (t_7 : x_4.toInt = v1.toInt) (t_13 : x_11.toInt = j_1.toInt + 1) (t_16 : x_14.toInt = i_1.toInt + 1) : x_11.toInt = j_1.toInt + 1 := by
  have := rg_rng n_tr; have := rg_rng n_ho; have := rg_rng v1; have := rg_rng i_1; have := rg_rng j_1; have := rg_rng x_4; have := rg_rng x_11; have := rg_rng x_14; omega
set_option maxHeartbeats 4000000 in
set_option maxRecDepth 100000 in
theorem kX2_holesOf (l : Launch) (dC : Nat → ClassId) (dI : Nat → Nat → Nat) (sz : Nat) (h0 : Nat) (g_node : Nat) (g_girth : Nat) (g_gave : Nat) (g_holeTree : Nat) (g_holeAngle : Nat) (g_holeYear : Nat) (n_tr : Int32) (n_ho : Int32) (k_holeTree : ClassId) (f_holeTree : Nat → Int32) (v1 : Int32) (yg : 0 ≤ n_tr.toInt ∧ n_tr.toInt ≤ 60 ∧ 0 ≤ n_ho.toInt ∧ n_ho.toInt ≤ 300) : Met l yX2_holesOf (Cond.code yX2_holesOf cX2_holesOf 4 (some .int) :: bg) ({ frames := 0, cells := 0, slots := 0, locals := 0 }) (pcW dC dI [.ref h0, .int v1] sz [(h0, .inr (2, [.ref g_node, .ref g_girth, .ref g_gave, .ref g_holeTree, .ref g_holeAngle, .ref g_holeYear, .int n_tr, .int n_ho])), (g_holeTree, .inl (k_holeTree, 300, .inl f_holeTree))] [(k_holeTree, .int)]) (va_Qi (fun (r : Int32) (u : Unit) => r.toInt = cntB (fun k => decide (f_holeTree k = v1)) (Int32.toNatClampNeg n_ho) ∧ 0 ≤ r.toInt ∧ r.toInt ≤ n_ho.toInt) (fun (u : Unit) (t : State) => va_P (dC, dI) vwCl [(h0, .inr (2, [.ref g_node, .ref g_girth, .ref g_gave, .ref g_holeTree, .ref g_holeAngle, .ref g_holeYear, .int n_tr, .int n_ho])), (g_holeTree, .inl (k_holeTree, 300, .inl f_holeTree))] t.heap ∧ va_K (dC, dI) vwCl [(k_holeTree, .int)] t ∧ va_D (va_A [(h0, .inr (2, [.ref g_node, .ref g_girth, .ref g_gave, .ref g_holeTree, .ref g_holeAngle, .ref g_holeYear, .int n_tr, .int n_ho])), (g_holeTree, .inl (k_holeTree, 300, .inl f_holeTree))] sz) [(h0, .inr (2, [.ref g_node, .ref g_girth, .ref g_gave, .ref g_holeTree, .ref g_holeAngle, .ref g_holeYear, .int n_tr, .int n_ho])), (g_holeTree, .inl (k_holeTree, 300, .inl f_holeTree))]) (va_A [(h0, .inr (2, [.ref g_node, .ref g_girth, .ref g_gave, .ref g_holeTree, .ref g_holeAngle, .ref g_holeYear, .int n_tr, .int n_ho])), (g_holeTree, .inl (k_holeTree, 300, .inl f_holeTree))] sz)) 0 0 (va_A [(h0, .inr (2, [.ref g_node, .ref g_girth, .ref g_gave, .ref g_holeTree, .ref g_holeAngle, .ref g_holeYear, .int n_tr, .int n_ho])), (g_holeTree, .inl (k_holeTree, 300, .inl f_holeTree))] sz) := by
  refine Met.ofW (cc := cX2_holesOf) (maxL := 4) (ret := (some .int)) pnX2 rfl ?_
  intro p e s m args below meth c s₁ B hml hv
  obtain ⟨rfl, hsz, hP, hK, hD0, hN⟩ := hv
  have hx := B.exec
  have hb := B.bytes
  have hr := B.returns
  have htb : ∀ w ∈ bg, w.before [.ref h0, .int v1].toArray s = true := fun w h => atoms_spec (ws := Cond.code yX2_holesOf cX2_holesOf 4 (some .int) :: bg) B.pre w (List.mem_cons_of_mem _ h)
  have hown : s.vm.findClass RX2 = some m.cls := findClass_of_methodNamed B.named
  have hlocks := B.notSynchronized
  subst hsz
  have hD := hD0.self (sz := s.heap.size)
  generalize hAe : va_A [(h0, .inr (2, [.ref g_node, .ref g_girth, .ref g_gave, .ref g_holeTree, .ref g_holeAngle, .ref g_holeYear, .int n_tr, .int n_ho])), (g_holeTree, .inl (k_holeTree, 300, .inl f_holeTree))] s.heap.size = A at hD ⊢
  have hA : ∀ q : Nat, s.heap.size ≤ q → A q := fun q h => by rw [← hAe]; exact Or.inr h
  have hS : va_S A s.heap s.heap [] := va_S.rf
  have hl := lv_entry ([.ref h0, .int v1]) (n := 4) (Nat.le_of_ble_eq_true rfl)
  rw [lg_entry_eq]
  generalize (lg_sl ([.ref h0, .int v1]) ++ List.replicate (4 - (lg_sl ([.ref h0, .int v1])).length) Slot.unset).toArray = ls at hl ⊢
  change lv_has ls 4 [(0, .ref h0), (1, .int v1)] at hl
  clear hD0 hAe
  refine go0 (wsP := fun H => va_P (dC, dI) vwCl [(h0, .inr (2, [.ref g_node, .ref g_girth, .ref g_gave, .ref g_holeTree, .ref g_holeAngle, .ref g_holeYear, .int n_tr, .int n_ho])), (g_holeTree, .inl (k_holeTree, 300, .inl f_holeTree))] H) hP hS ?_
  clear hP hS; intro H locs hP hS
  change va_P (dC, dI) vwCl [(h0, .inr (2, [.ref g_node, .ref g_girth, .ref g_gave, .ref g_holeTree, .ref g_holeAngle, .ref g_holeYear, .int n_tr, .int n_ho])), (g_holeTree, .inl (k_holeTree, 300, .inl f_holeTree))] H at hP
  refine lv_iconst (v := 0) hx hb dX2_holesOf_0 (by decide) ?_
  refine lv_istore_n (lv' := [(2, .int 0), (0, .ref h0), (1, .int v1)]) hx hb dX2_holesOf_1 rfl hl (by decide) rfl ?_
  clear hl; intro ls hl
  refine lv_iconst (v := 0) hx hb dX2_holesOf_2 (by decide) ?_
  refine lv_istore_n (lv' := [(3, .int 0), (2, .int 0), (0, .ref h0), (1, .int v1)]) hx hb dX2_holesOf_3 rfl hl (by decide) rfl ?_
  clear hl; intro ls hl
  refine (fun (lp : ∀ (n1 : Nat) (i_1 : Int32) (j_1 : Int32) (H : Heap) (locs : List Loc) (ls : Array Slot), (n_ho.toInt - i_1.toInt) < (n1 : Int) → (0 ≤ i_1.toInt ∧ i_1.toInt ≤ n_ho.toInt) → (0 ≤ j_1.toInt ∧ j_1.toInt ≤ i_1.toInt) → (Cn (fun k => decide (f_holeTree k = v1)) i_1 j_1) → lv_has ls 4 [(3, .int i_1), (2, .int j_1), (0, .ref h0), (1, .int v1)] → va_P (dC, dI) vwCl [(h0, .inr (2, [.ref g_node, .ref g_girth, .ref g_gave, .ref g_holeTree, .ref g_holeAngle, .ref g_holeYear, .int n_tr, .int n_ho])), (g_holeTree, .inl (k_holeTree, 300, .inl f_holeTree))] H → va_D A [(h0, .inr (2, [.ref g_node, .ref g_girth, .ref g_gave, .ref g_holeTree, .ref g_holeAngle, .ref g_holeYear, .int n_tr, .int n_ho])), (g_holeTree, .inl (k_holeTree, 300, .inl f_holeTree))] → va_S A s.heap H locs → W p l e _ s m _ below meth c H locs _ _ _ (F0 m 4 ls [])) => lp (Int.toNat (n_ho.toInt - (0 : Int)) + 1) 0 0   H locs ls ((lg_X2_holesOf_0 n_tr n_ho yg)) (lg_X2_holesOf_1 n_tr n_ho yg) (lg_X2_holesOf_2 n_tr n_ho yg)  Cn_0 hl hP hD hS) ?_
  clear hP hD hS hl
  intro n1
  induction n1 with
  | zero =>
    intro i_1 j_1 H locs ls hmu1 hi1_0 hi1_1  hp1_0 hl hP hD hS
    exact False.elim (lg_X2_holesOf_3 n_tr n_ho i_1 j_1 yg hi1_0 hi1_1 hmu1)
  | succ n1 ih1 =>
    intro i_1 j_1 H locs ls hmu1 hi1_0 hi1_1  hp1_0 hl hP hD hS
    refine lv_iload_n hx hb dX2_holesOf_4 rfl (lv_at hl 0 rfl) ?_
    refine lv_aload_n hx hb dX2_holesOf_5 rfl (lv_at hl 2 rfl) ?_
    refine va_get (D := (dC, dI)) (ci := 2) (v := .int n_ho) (C := RX2) (T := TX2) (N := 8) hx hb htb iX2 hown hK hP 0 rfl rfl 7 (Nat.le_of_ble_eq_true rfl) (htb _ m_79) (fun _ h9 => h9) rfl dX2_holesOf_6 ?_
    refine lv_icmp_ge (tgt := 31) hx hb dX2_holesOf_9 (by decide) (fun c_2 => ?_) (fun c_2 => ?_)
    · have t_3 : n_ho.toInt ≤ i_1.toInt := i_le rfl rfl c_2
      refine lv_iload_n hx hb dX2_holesOf_31 rfl (lv_at hl 1 rfl) ?_
      refine W.widen (k := 0) (n := 0) (Nat.le_of_ble_eq_true rfl) (Nat.le_of_ble_eq_true rfl) ?_
      have hP9 := hP.sub (ws' := [(h0, .inr (2, [.ref g_node, .ref g_girth, .ref g_gave, .ref g_holeTree, .ref g_holeAngle, .ref g_holeYear, .int n_tr, .int n_ho])), (g_holeTree, .inl (k_holeTree, 300, .inl f_holeTree))]) [0, 1] rfl
      have hD9 := hD.sub (ws' := [(h0, .inr (2, [.ref g_node, .ref g_girth, .ref g_gave, .ref g_holeTree, .ref g_holeAngle, .ref g_holeYear, .int n_tr, .int n_ho])), (g_holeTree, .inl (k_holeTree, 300, .inl f_holeTree))]) [0, 1] (by decide) rfl
      have hK9 := hK.sub (tys' := [(k_holeTree, .int)]) [0] rfl
      exact W.iret (v := j_1) hx hb hr (fun t ht hW => ⟨⟨j_1, (), rfl, ⟨Cn_e hp1_0 (lg_X2_holesOf_4 n_tr n_ho i_1 j_1 n1 yg hi1_0 hi1_1 hmu1 t_3), (lg_X2_holesOf_5 n_tr n_ho i_1 j_1 n1 yg hi1_0 hi1_1 hmu1 t_3)⟩, ⟨by rw [ht]; exact hP9, va_K.moved hW.alike hK9, hD9⟩⟩, hS.F ht⟩) hS.2.2 dX2_holesOf_32
    · have t_3 : i_1.toInt < n_ho.toInt := i_nle rfl rfl c_2
      refine lv_aload_n hx hb dX2_holesOf_12 rfl (lv_at hl 2 rfl) ?_
      refine va_get (D := (dC, dI)) (ci := 2) (v := .ref g_holeTree) (C := RX2) (T := TX2) (N := 8) hx hb htb iX2 hown hK hP 0 rfl rfl 3 (Nat.le_of_ble_eq_true rfl) (htb _ m_74) (fun _ h9 => h9) rfl dX2_holesOf_13 ?_
      refine lv_iload_n hx hb dX2_holesOf_16 rfl (lv_at hl 0 rfl) ?_
      refine va_iald hx hb hK hP 1 0 rfl rfl (i_in rfl (lg_X2_holesOf_6 n_tr n_ho i_1 j_1 n1 yg hi1_0 hi1_1 hmu1 t_3)) dX2_holesOf_17 ?_
      refine lv_topi (fun x_4 ex_5 => ?_)
      refine lv_iload_n hx hb dX2_holesOf_18 rfl (lv_at hl 3 rfl) ?_
      refine lv_icmp_ne (tgt := 25) hx hb dX2_holesOf_19 (by decide) (fun c_6 => ?_) (fun c_6 => ?_)
      · have t_7 : ¬ x_4.toInt = v1.toInt := i_ne rfl rfl c_6
        obtain ⟨x_8, ex_9⟩ : ∃ y : Int32, y = i_1 + Int32.ofInt 1 := ⟨_, rfl⟩
        have t_10 : x_8.toInt = i_1.toInt + 1 := i_add rfl (by decide) (lg_X2_holesOf_7 n_tr n_ho v1 i_1 j_1 n1 x_4 yg hi1_0 hi1_1 hmu1 t_3 t_7) ex_9
        refine lv_iinc (v := x_8) (lv' := [(3, .int x_8), (2, .int j_1), (0, .ref h0), (1, .int v1)]) hx hb dX2_holesOf_25 hl (k := 0) rfl ex_9.symm (by decide) rfl ?_
        clear hl; intro ls hl
        refine lv_goto (tgt := 4) hx hb dX2_holesOf_28 (by decide) ?_
        exact ih1 x_8 j_1  H locs ls (lg_X2_holesOf_8 n_tr n_ho v1 i_1 j_1 n1 x_4 x_8 yg hi1_0 hi1_1 hmu1 t_3 t_7 t_10) (lg_X2_holesOf_9 n_tr n_ho v1 i_1 j_1 n1 x_4 x_8 yg hi1_0 hi1_1 hmu1 t_3 t_7 t_10) (lg_X2_holesOf_10 n_tr n_ho v1 i_1 j_1 n1 x_4 x_8 yg hi1_0 hi1_1 hmu1 t_3 t_7 t_10)  (Cn_f hp1_0 (lg_X2_holesOf_11 n_tr n_ho f_holeTree v1 i_1 j_1 n1 x_4 x_8 yg hi1_0 hi1_1 hmu1 t_3 t_7 t_10 ex_5) (lg_X2_holesOf_12 n_tr n_ho v1 i_1 j_1 n1 x_4 x_8 yg hi1_0 hi1_1 hmu1 t_3 t_7 t_10) (lg_X2_holesOf_13 n_tr n_ho v1 i_1 j_1 n1 x_4 x_8 yg hi1_0 hi1_1 hmu1 t_3 t_7 t_10)) (lv_sub hl [0, 1, 2, 3] rfl) (hP.sub [0, 1] rfl) (hD.sub [0, 1] (by decide) rfl) hS
      · have t_7 : x_4.toInt = v1.toInt := i_eq rfl rfl c_6
        obtain ⟨x_11, ex_12⟩ : ∃ y : Int32, y = j_1 + Int32.ofInt 1 := ⟨_, rfl⟩
        have t_13 : x_11.toInt = j_1.toInt + 1 := i_add rfl (by decide) (lg_X2_holesOf_14 n_tr n_ho v1 i_1 j_1 n1 x_4 yg hi1_0 hi1_1 hmu1 t_3 t_7) ex_12
        refine lv_iinc (v := x_11) (lv' := [(2, .int x_11), (3, .int i_1), (0, .ref h0), (1, .int v1)]) hx hb dX2_holesOf_22 hl (k := 1) rfl ex_12.symm (by decide) rfl ?_
        clear hl; intro ls hl
        obtain ⟨x_14, ex_15⟩ : ∃ y : Int32, y = i_1 + Int32.ofInt 1 := ⟨_, rfl⟩
        have t_16 : x_14.toInt = i_1.toInt + 1 := i_add rfl (by decide) (lg_X2_holesOf_15 n_tr n_ho v1 i_1 j_1 n1 x_4 x_11 yg hi1_0 hi1_1 hmu1 t_3 t_7 t_13) ex_15
        refine lv_iinc (v := x_14) (lv' := [(3, .int x_14), (2, .int x_11), (0, .ref h0), (1, .int v1)]) hx hb dX2_holesOf_25 hl (k := 1) rfl ex_15.symm (by decide) rfl ?_
        clear hl; intro ls hl
        refine lv_goto (tgt := 4) hx hb dX2_holesOf_28 (by decide) ?_
        exact ih1 x_14 x_11  H locs ls (lg_X2_holesOf_16 n_tr n_ho v1 i_1 j_1 n1 x_4 x_11 x_14 yg hi1_0 hi1_1 hmu1 t_3 t_7 t_13 t_16) (lg_X2_holesOf_17 n_tr n_ho v1 i_1 j_1 n1 x_4 x_11 x_14 yg hi1_0 hi1_1 hmu1 t_3 t_7 t_13 t_16) (lg_X2_holesOf_18 n_tr n_ho v1 i_1 j_1 n1 x_4 x_11 x_14 yg hi1_0 hi1_1 hmu1 t_3 t_7 t_13 t_16)  (Cn_t hp1_0 (lg_X2_holesOf_19 n_tr n_ho f_holeTree v1 i_1 j_1 n1 x_4 x_11 x_14 yg hi1_0 hi1_1 hmu1 t_3 t_7 t_13 t_16 ex_5) (lg_X2_holesOf_20 n_tr n_ho v1 i_1 j_1 n1 x_4 x_11 x_14 yg hi1_0 hi1_1 hmu1 t_3 t_7 t_13 t_16) (lg_X2_holesOf_21 n_tr n_ho v1 i_1 j_1 n1 x_4 x_11 x_14 yg hi1_0 hi1_1 hmu1 t_3 t_7 t_13 t_16)) (lv_sub hl [0, 1, 2, 3] rfl) (hP.sub [0, 1] rfl) (hD.sub [0, 1] (by decide) rfl) hS

theorem lg_X2_isTooNear_0 (n_tr : Int32) (n_ho : Int32) (v2 : Int32) (v3 : Int32) (yg : 0 ≤ n_tr.toInt ∧ n_tr.toInt ≤ 60 ∧ 0 ≤ n_ho.toInt ∧ n_ho.toInt ≤ 300) (yv : (0 ≤ v2.toInt ∧ v2.toInt ≤ 359) ∧ (0 ≤ v3.toInt ∧ v3.toInt ≤ 20)) : (n_ho.toInt - (0 : Int)) < ((Int.toNat (n_ho.toInt - (0 : Int)) + 1 : Nat) : Int) := by
  have := rg_rng n_tr; have := rg_rng n_ho; have := rg_rng v2; have := rg_rng v3; omega
theorem lg_X2_isTooNear_1 (n_tr : Int32) (n_ho : Int32) (v2 : Int32) (v3 : Int32) (yg : 0 ≤ n_tr.toInt ∧ n_tr.toInt ≤ 60 ∧ 0 ≤ n_ho.toInt ∧ n_ho.toInt ≤ 300) (yv : (0 ≤ v2.toInt ∧ v2.toInt ≤ 359) ∧ (0 ≤ v3.toInt ∧ v3.toInt ≤ 20)) : 0 ≤ (0 : Int) ∧ (0 : Int) ≤ n_ho.toInt := by
  have := rg_rng n_tr; have := rg_rng n_ho; have := rg_rng v2; have := rg_rng v3; omega
theorem lg_X2_isTooNear_2 (n_tr : Int32) (n_ho : Int32) (v2 : Int32) (v3 : Int32) (i_1 : Int32) (yg : 0 ≤ n_tr.toInt ∧ n_tr.toInt ≤ 60 ∧ 0 ≤ n_ho.toInt ∧ n_ho.toInt ≤ 300) (yv : (0 ≤ v2.toInt ∧ v2.toInt ≤ 359) ∧ (0 ≤ v3.toInt ∧ v3.toInt ≤ 20)) (hi1_0 : 0 ≤ i_1.toInt ∧ i_1.toInt ≤ n_ho.toInt) (hmu1 : (n_ho.toInt - i_1.toInt) < ((0 : Nat) : Int)) : False := by
  have := rg_rng n_tr; have := rg_rng n_ho; have := rg_rng v2; have := rg_rng v3; have := rg_rng i_1; omega
theorem lg_X2_isTooNear_3 (n_tr : Int32) (n_ho : Int32) (v2 : Int32) (v3 : Int32) (i_1 : Int32) (n1 : Nat) (yg : 0 ≤ n_tr.toInt ∧ n_tr.toInt ≤ 60 ∧ 0 ≤ n_ho.toInt ∧ n_ho.toInt ≤ 300) (yv : (0 ≤ v2.toInt ∧ v2.toInt ≤ 359) ∧ (0 ≤ v3.toInt ∧ v3.toInt ≤ 20)) (hi1_0 : 0 ≤ i_1.toInt ∧ i_1.toInt ≤ n_ho.toInt) (hmu1 : (n_ho.toInt - i_1.toInt) < ((n1 + 1 : Nat) : Int)) (t_3 : n_ho.toInt ≤ i_1.toInt) : i_1.toInt = n_ho.toInt := by
  have := rg_rng n_tr; have := rg_rng n_ho; have := rg_rng v2; have := rg_rng v3; have := rg_rng i_1; omega
theorem lg_X2_isTooNear_4 (n_tr : Int32) (n_ho : Int32) (v2 : Int32) (v3 : Int32) (i_1 : Int32) (n1 : Nat) (yg : 0 ≤ n_tr.toInt ∧ n_tr.toInt ≤ 60 ∧ 0 ≤ n_ho.toInt ∧ n_ho.toInt ≤ 300) (yv : (0 ≤ v2.toInt ∧ v2.toInt ≤ 359) ∧ (0 ≤ v3.toInt ∧ v3.toInt ≤ 20)) (hi1_0 : 0 ≤ i_1.toInt ∧ i_1.toInt ≤ n_ho.toInt) (hmu1 : (n_ho.toInt - i_1.toInt) < ((n1 + 1 : Nat) : Int)) (t_3 : i_1.toInt < n_ho.toInt) : 0 ≤ i_1.toInt ∧ i_1.toInt < ((300 : Nat) : Int) := by
  have := rg_rng n_tr; have := rg_rng n_ho; have := rg_rng v2; have := rg_rng v3; have := rg_rng i_1; omega
theorem lg_X2_isTooNear_5 (n_tr : Int32) (n_ho : Int32) (v1 : Int32) (v2 : Int32) (v3 : Int32) (i_1 : Int32) (n1 : Nat) (x_4 : Int32) (yg : 0 ≤ n_tr.toInt ∧ n_tr.toInt ≤ 60 ∧ 0 ≤ n_ho.toInt ∧ n_ho.toInt ≤ 300) (yv : (0 ≤ v2.toInt ∧ v2.toInt ≤ 359) ∧ (0 ≤ v3.toInt ∧ v3.toInt ≤ 20)) (hi1_0 : 0 ≤ i_1.toInt ∧ i_1.toInt ≤ n_ho.toInt) (hmu1 : (n_ho.toInt - i_1.toInt) < ((n1 + 1 : Nat) : Int)) (t_3 : i_1.toInt < n_ho.toInt) (t_7 : ¬ x_4.toInt = v1.toInt) : -2147483648 ≤ i_1.toInt + 1 ∧ i_1.toInt + 1 < 2147483648 := by
  have := rg_rng n_tr; have := rg_rng n_ho; have := rg_rng v1; have := rg_rng v2; have := rg_rng v3; have := rg_rng i_1; have := rg_rng x_4; omega
theorem lg_X2_isTooNear_6 (n_tr : Int32) (n_ho : Int32) (v1 : Int32) (v2 : Int32) (v3 : Int32) (i_1 : Int32) (n1 : Nat) (x_4 : Int32) (x_8 : Int32) (yg : 0 ≤ n_tr.toInt ∧ n_tr.toInt ≤ 60 ∧ 0 ≤ n_ho.toInt ∧ n_ho.toInt ≤ 300) (yv : (0 ≤ v2.toInt ∧ v2.toInt ≤ 359) ∧ (0 ≤ v3.toInt ∧ v3.toInt ≤ 20)) (hi1_0 : 0 ≤ i_1.toInt ∧ i_1.toInt ≤ n_ho.toInt) (hmu1 : (n_ho.toInt - i_1.toInt) < ((n1 + 1 : Nat) : Int)) (t_3 : i_1.toInt < n_ho.toInt) (t_7 : ¬ x_4.toInt = v1.toInt) (t_10 : x_8.toInt = i_1.toInt + 1) : (n_ho.toInt - x_8.toInt) < (n1 : Int) := by
  have := rg_rng n_tr; have := rg_rng n_ho; have := rg_rng v1; have := rg_rng v2; have := rg_rng v3; have := rg_rng i_1; have := rg_rng x_4; have := rg_rng x_8; omega
theorem lg_X2_isTooNear_7 (n_tr : Int32) (n_ho : Int32) (v1 : Int32) (v2 : Int32) (v3 : Int32) (i_1 : Int32) (n1 : Nat) (x_4 : Int32) (x_8 : Int32) (yg : 0 ≤ n_tr.toInt ∧ n_tr.toInt ≤ 60 ∧ 0 ≤ n_ho.toInt ∧ n_ho.toInt ≤ 300) (yv : (0 ≤ v2.toInt ∧ v2.toInt ≤ 359) ∧ (0 ≤ v3.toInt ∧ v3.toInt ≤ 20)) (hi1_0 : 0 ≤ i_1.toInt ∧ i_1.toInt ≤ n_ho.toInt) (hmu1 : (n_ho.toInt - i_1.toInt) < ((n1 + 1 : Nat) : Int)) (t_3 : i_1.toInt < n_ho.toInt) (t_7 : ¬ x_4.toInt = v1.toInt) (t_10 : x_8.toInt = i_1.toInt + 1) : 0 ≤ x_8.toInt ∧ x_8.toInt ≤ n_ho.toInt := by
  have := rg_rng n_tr; have := rg_rng n_ho; have := rg_rng v1; have := rg_rng v2; have := rg_rng v3; have := rg_rng i_1; have := rg_rng x_4; have := rg_rng x_8; omega
theorem lg_X2_isTooNear_8 (n_tr : Int32) (n_ho : Int32) (f_holeTree : Nat → Int32) (f_holeAngle : Nat → Int32) (f_holeYear : Nat → Int32) (v1 : Int32) (v2 : Int32) (v3 : Int32) (i_1 : Int32) (n1 : Nat) (x_4 : Int32) (x_8 : Int32) (yg : 0 ≤ n_tr.toInt ∧ n_tr.toInt ≤ 60 ∧ 0 ≤ n_ho.toInt ∧ n_ho.toInt ≤ 300) (yv : (0 ≤ v2.toInt ∧ v2.toInt ≤ 359) ∧ (0 ≤ v3.toInt ∧ v3.toInt ≤ 20)) (hi1_0 : 0 ≤ i_1.toInt ∧ i_1.toInt ≤ n_ho.toInt) (hmu1 : (n_ho.toInt - i_1.toInt) < ((n1 + 1 : Nat) : Int)) (t_3 : i_1.toInt < n_ho.toInt) (t_7 : ¬ x_4.toInt = v1.toInt) (t_10 : x_8.toInt = i_1.toInt + 1) (ex_5 : x_4 = f_holeTree (Int32.toNatClampNeg i_1)) : (fun k => decide (f_holeTree k = v1 ∧ v3.toInt - 3 ≤ (f_holeYear k).toInt ∧ ((-40 < ((f_holeAngle k).toInt - v2.toInt) ∧ ((f_holeAngle k).toInt - v2.toInt) < 40) ∨ 320 < ((f_holeAngle k).toInt - v2.toInt) ∨ ((f_holeAngle k).toInt - v2.toInt) < -320))) (Int32.toNatClampNeg i_1) = false := by
  have := rg_rng n_tr; have := rg_rng n_ho; have := rg_rng v1; have := rg_rng v2; have := rg_rng v3; have := rg_rng i_1; have := rg_rng x_4; have := rg_rng x_8; refine decide_eq_false ?_
  simp only [← ex_5, ← Int32.toInt_inj]
  omega
theorem lg_X2_isTooNear_9 (n_tr : Int32) (n_ho : Int32) (v1 : Int32) (v2 : Int32) (v3 : Int32) (i_1 : Int32) (n1 : Nat) (x_4 : Int32) (x_8 : Int32) (yg : 0 ≤ n_tr.toInt ∧ n_tr.toInt ≤ 60 ∧ 0 ≤ n_ho.toInt ∧ n_ho.toInt ≤ 300) (yv : (0 ≤ v2.toInt ∧ v2.toInt ≤ 359) ∧ (0 ≤ v3.toInt ∧ v3.toInt ≤ 20)) (hi1_0 : 0 ≤ i_1.toInt ∧ i_1.toInt ≤ n_ho.toInt) (hmu1 : (n_ho.toInt - i_1.toInt) < ((n1 + 1 : Nat) : Int)) (t_3 : i_1.toInt < n_ho.toInt) (t_7 : ¬ x_4.toInt = v1.toInt) (t_10 : x_8.toInt = i_1.toInt + 1) : x_8.toInt = i_1.toInt + 1 := by
  have := rg_rng n_tr; have := rg_rng n_ho; have := rg_rng v1; have := rg_rng v2; have := rg_rng v3; have := rg_rng i_1; have := rg_rng x_4; have := rg_rng x_8; omega
theorem lg_X2_isTooNear_10 (n_tr : Int32) (n_ho : Int32) (v1 : Int32) (v2 : Int32) (v3 : Int32) (i_1 : Int32) (n1 : Nat) (x_4 : Int32) (yg : 0 ≤ n_tr.toInt ∧ n_tr.toInt ≤ 60 ∧ 0 ≤ n_ho.toInt ∧ n_ho.toInt ≤ 300) (yv : (0 ≤ v2.toInt ∧ v2.toInt ≤ 359) ∧ (0 ≤ v3.toInt ∧ v3.toInt ≤ 20)) (hi1_0 : 0 ≤ i_1.toInt ∧ i_1.toInt ≤ n_ho.toInt) (hmu1 : (n_ho.toInt - i_1.toInt) < ((n1 + 1 : Nat) : Int)) (t_3 : i_1.toInt < n_ho.toInt) (t_7 : x_4.toInt = v1.toInt) : 0 ≤ i_1.toInt ∧ i_1.toInt < ((300 : Nat) : Int) := by
  have := rg_rng n_tr; have := rg_rng n_ho; have := rg_rng v1; have := rg_rng v2; have := rg_rng v3; have := rg_rng i_1; have := rg_rng x_4; omega
theorem lg_X2_isTooNear_11 (n_tr : Int32) (n_ho : Int32) (v1 : Int32) (v2 : Int32) (v3 : Int32) (i_1 : Int32) (n1 : Nat) (x_4 : Int32) (yg : 0 ≤ n_tr.toInt ∧ n_tr.toInt ≤ 60 ∧ 0 ≤ n_ho.toInt ∧ n_ho.toInt ≤ 300) (yv : (0 ≤ v2.toInt ∧ v2.toInt ≤ 359) ∧ (0 ≤ v3.toInt ∧ v3.toInt ≤ 20)) (hi1_0 : 0 ≤ i_1.toInt ∧ i_1.toInt ≤ n_ho.toInt) (hmu1 : (n_ho.toInt - i_1.toInt) < ((n1 + 1 : Nat) : Int)) (t_3 : i_1.toInt < n_ho.toInt) (t_7 : x_4.toInt = v1.toInt) : -2147483648 ≤ v3.toInt - (3 : Int) ∧ v3.toInt - (3 : Int) < 2147483648 := by
  have := rg_rng n_tr; have := rg_rng n_ho; have := rg_rng v1; have := rg_rng v2; have := rg_rng v3; have := rg_rng i_1; have := rg_rng x_4; omega
theorem lg_X2_isTooNear_12 (n_tr : Int32) (n_ho : Int32) (v1 : Int32) (v2 : Int32) (v3 : Int32) (i_1 : Int32) (n1 : Nat) (x_4 : Int32) (x_11 : Int32) (x_13 : Int32) (yg : 0 ≤ n_tr.toInt ∧ n_tr.toInt ≤ 60 ∧ 0 ≤ n_ho.toInt ∧ n_ho.toInt ≤ 300) (yv : (0 ≤ v2.toInt ∧ v2.toInt ≤ 359) ∧ (0 ≤ v3.toInt ∧ v3.toInt ≤ 20)) (hi1_0 : 0 ≤ i_1.toInt ∧ i_1.toInt ≤ n_ho.toInt) (hmu1 : (n_ho.toInt - i_1.toInt) < ((n1 + 1 : Nat) : Int)) (t_3 : i_1.toInt < n_ho.toInt) (t_7 : x_4.toInt = v1.toInt) (t_15 : x_13.toInt = v3.toInt - (3 : Int)) (t_17 : x_11.toInt < x_13.toInt) : -2147483648 ≤ i_1.toInt + 1 ∧ i_1.toInt + 1 < 2147483648 := by
  have := rg_rng n_tr; have := rg_rng n_ho; have := rg_rng v1; have := rg_rng v2; have := rg_rng v3; have := rg_rng i_1; have := rg_rng x_4; have := rg_rng x_11; have := rg_rng x_13; omega
theorem lg_X2_isTooNear_13 (n_tr : Int32) (n_ho : Int32) (v1 : Int32) (v2 : Int32) (v3 : Int32) (i_1 : Int32) (n1 : Nat) (x_4 : Int32) (x_11 : Int32) (x_13 : Int32) (x_18 : Int32) (yg : 0 ≤ n_tr.toInt ∧ n_tr.toInt ≤ 60 ∧ 0 ≤ n_ho.toInt ∧ n_ho.toInt ≤ 300) (yv : (0 ≤ v2.toInt ∧ v2.toInt ≤ 359) ∧ (0 ≤ v3.toInt ∧ v3.toInt ≤ 20)) (hi1_0 : 0 ≤ i_1.toInt ∧ i_1.toInt ≤ n_ho.toInt) (hmu1 : (n_ho.toInt - i_1.toInt) < ((n1 + 1 : Nat) : Int)) (t_3 : i_1.toInt < n_ho.toInt) (t_7 : x_4.toInt = v1.toInt) (t_15 : x_13.toInt = v3.toInt - (3 : Int)) (t_17 : x_11.toInt < x_13.toInt) (t_20 : x_18.toInt = i_1.toInt + 1) : (n_ho.toInt - x_18.toInt) < (n1 : Int) := by
  have := rg_rng n_tr; have := rg_rng n_ho; have := rg_rng v1; have := rg_rng v2; have := rg_rng v3; have := rg_rng i_1; have := rg_rng x_4; have := rg_rng x_11; have := rg_rng x_13; have := rg_rng x_18; omega
theorem lg_X2_isTooNear_14 (n_tr : Int32) (n_ho : Int32) (v1 : Int32) (v2 : Int32) (v3 : Int32) (i_1 : Int32) (n1 : Nat) (x_4 : Int32) (x_11 : Int32) (x_13 : Int32) (x_18 : Int32) (yg : 0 ≤ n_tr.toInt ∧ n_tr.toInt ≤ 60 ∧ 0 ≤ n_ho.toInt ∧ n_ho.toInt ≤ 300) (yv : (0 ≤ v2.toInt ∧ v2.toInt ≤ 359) ∧ (0 ≤ v3.toInt ∧ v3.toInt ≤ 20)) (hi1_0 : 0 ≤ i_1.toInt ∧ i_1.toInt ≤ n_ho.toInt) (hmu1 : (n_ho.toInt - i_1.toInt) < ((n1 + 1 : Nat) : Int)) (t_3 : i_1.toInt < n_ho.toInt) (t_7 : x_4.toInt = v1.toInt) (t_15 : x_13.toInt = v3.toInt - (3 : Int)) (t_17 : x_11.toInt < x_13.toInt) (t_20 : x_18.toInt = i_1.toInt + 1) : 0 ≤ x_18.toInt ∧ x_18.toInt ≤ n_ho.toInt := by
  have := rg_rng n_tr; have := rg_rng n_ho; have := rg_rng v1; have := rg_rng v2; have := rg_rng v3; have := rg_rng i_1; have := rg_rng x_4; have := rg_rng x_11; have := rg_rng x_13; have := rg_rng x_18; omega
theorem lg_X2_isTooNear_15 (n_tr : Int32) (n_ho : Int32) (f_holeTree : Nat → Int32) (f_holeAngle : Nat → Int32) (f_holeYear : Nat → Int32) (v1 : Int32) (v2 : Int32) (v3 : Int32) (i_1 : Int32) (n1 : Nat) (x_4 : Int32) (x_11 : Int32) (x_13 : Int32) (x_18 : Int32) (yg : 0 ≤ n_tr.toInt ∧ n_tr.toInt ≤ 60 ∧ 0 ≤ n_ho.toInt ∧ n_ho.toInt ≤ 300) (yv : (0 ≤ v2.toInt ∧ v2.toInt ≤ 359) ∧ (0 ≤ v3.toInt ∧ v3.toInt ≤ 20)) (hi1_0 : 0 ≤ i_1.toInt ∧ i_1.toInt ≤ n_ho.toInt) (hmu1 : (n_ho.toInt - i_1.toInt) < ((n1 + 1 : Nat) : Int)) (t_3 : i_1.toInt < n_ho.toInt) (t_7 : x_4.toInt = v1.toInt) (t_15 : x_13.toInt = v3.toInt - (3 : Int)) (t_17 : x_11.toInt < x_13.toInt) (t_20 : x_18.toInt = i_1.toInt + 1) (ex_5 : x_4 = f_holeTree (Int32.toNatClampNeg i_1)) (ex_12 : x_11 = f_holeYear (Int32.toNatClampNeg i_1)) : (fun k => decide (f_holeTree k = v1 ∧ v3.toInt - 3 ≤ (f_holeYear k).toInt ∧ ((-40 < ((f_holeAngle k).toInt - v2.toInt) ∧ ((f_holeAngle k).toInt - v2.toInt) < 40) ∨ 320 < ((f_holeAngle k).toInt - v2.toInt) ∨ ((f_holeAngle k).toInt - v2.toInt) < -320))) (Int32.toNatClampNeg i_1) = false := by
  have := rg_rng n_tr; have := rg_rng n_ho; have := rg_rng v1; have := rg_rng v2; have := rg_rng v3; have := rg_rng i_1; have := rg_rng x_4; have := rg_rng x_11; have := rg_rng x_13; have := rg_rng x_18; refine decide_eq_false ?_
  simp only [← ex_5, ← ex_12, ← Int32.toInt_inj]
  omega
theorem lg_X2_isTooNear_16 (n_tr : Int32) (n_ho : Int32) (v1 : Int32) (v2 : Int32) (v3 : Int32) (i_1 : Int32) (n1 : Nat) (x_4 : Int32) (x_11 : Int32) (x_13 : Int32) (x_18 : Int32) (yg : 0 ≤ n_tr.toInt ∧ n_tr.toInt ≤ 60 ∧ 0 ≤ n_ho.toInt ∧ n_ho.toInt ≤ 300) (yv : (0 ≤ v2.toInt ∧ v2.toInt ≤ 359) ∧ (0 ≤ v3.toInt ∧ v3.toInt ≤ 20)) (hi1_0 : 0 ≤ i_1.toInt ∧ i_1.toInt ≤ n_ho.toInt) (hmu1 : (n_ho.toInt - i_1.toInt) < ((n1 + 1 : Nat) : Int)) (t_3 : i_1.toInt < n_ho.toInt) (t_7 : x_4.toInt = v1.toInt) (t_15 : x_13.toInt = v3.toInt - (3 : Int)) (t_17 : x_11.toInt < x_13.toInt) (t_20 : x_18.toInt = i_1.toInt + 1) : x_18.toInt = i_1.toInt + 1 := by
  have := rg_rng n_tr; have := rg_rng n_ho; have := rg_rng v1; have := rg_rng v2; have := rg_rng v3; have := rg_rng i_1; have := rg_rng x_4; have := rg_rng x_11; have := rg_rng x_13; have := rg_rng x_18; omega
theorem lg_X2_isTooNear_17 (n_tr : Int32) (n_ho : Int32) (v1 : Int32) (v2 : Int32) (v3 : Int32) (i_1 : Int32) (n1 : Nat) (x_4 : Int32) (x_11 : Int32) (x_13 : Int32) (yg : 0 ≤ n_tr.toInt ∧ n_tr.toInt ≤ 60 ∧ 0 ≤ n_ho.toInt ∧ n_ho.toInt ≤ 300) (yv : (0 ≤ v2.toInt ∧ v2.toInt ≤ 359) ∧ (0 ≤ v3.toInt ∧ v3.toInt ≤ 20)) (hi1_0 : 0 ≤ i_1.toInt ∧ i_1.toInt ≤ n_ho.toInt) (hmu1 : (n_ho.toInt - i_1.toInt) < ((n1 + 1 : Nat) : Int)) (t_3 : i_1.toInt < n_ho.toInt) (t_7 : x_4.toInt = v1.toInt) (t_15 : x_13.toInt = v3.toInt - (3 : Int)) (t_17 : x_13.toInt ≤ x_11.toInt) : 0 ≤ i_1.toInt ∧ i_1.toInt < ((300 : Nat) : Int) := by
  have := rg_rng n_tr; have := rg_rng n_ho; have := rg_rng v1; have := rg_rng v2; have := rg_rng v3; have := rg_rng i_1; have := rg_rng x_4; have := rg_rng x_11; have := rg_rng x_13; omega
theorem lg_X2_isTooNear_18 (n_tr : Int32) (n_ho : Int32) (v1 : Int32) (v2 : Int32) (v3 : Int32) (i_1 : Int32) (n1 : Nat) (x_4 : Int32) (x_11 : Int32) (x_13 : Int32) (x_21 : Int32) (yg : 0 ≤ n_tr.toInt ∧ n_tr.toInt ≤ 60 ∧ 0 ≤ n_ho.toInt ∧ n_ho.toInt ≤ 300) (yv : (0 ≤ v2.toInt ∧ v2.toInt ≤ 359) ∧ (0 ≤ v3.toInt ∧ v3.toInt ≤ 20)) (hi1_0 : 0 ≤ i_1.toInt ∧ i_1.toInt ≤ n_ho.toInt) (hmu1 : (n_ho.toInt - i_1.toInt) < ((n1 + 1 : Nat) : Int)) (t_3 : i_1.toInt < n_ho.toInt) (t_7 : x_4.toInt = v1.toInt) (t_15 : x_13.toInt = v3.toInt - (3 : Int)) (t_17 : x_13.toInt ≤ x_11.toInt) (t_23 : 0 ≤ x_21.toInt ∧ x_21.toInt ≤ 359) : (0 ≤ x_21.toInt ∧ x_21.toInt ≤ 359) ∧ (0 ≤ v2.toInt ∧ v2.toInt ≤ 359) := by
  have := rg_rng n_tr; have := rg_rng n_ho; have := rg_rng v1; have := rg_rng v2; have := rg_rng v3; have := rg_rng i_1; have := rg_rng x_4; have := rg_rng x_11; have := rg_rng x_13; have := rg_rng x_21; omega
theorem lg_X2_isTooNear_19 (n_tr : Int32) (n_ho : Int32) (v1 : Int32) (v2 : Int32) (v3 : Int32) (i_1 : Int32) (n1 : Nat) (x_4 : Int32) (x_11 : Int32) (x_13 : Int32) (x_21 : Int32) (r_24 : Int32) (yg : 0 ≤ n_tr.toInt ∧ n_tr.toInt ≤ 60 ∧ 0 ≤ n_ho.toInt ∧ n_ho.toInt ≤ 300) (yv : (0 ≤ v2.toInt ∧ v2.toInt ≤ 359) ∧ (0 ≤ v3.toInt ∧ v3.toInt ≤ 20)) (hi1_0 : 0 ≤ i_1.toInt ∧ i_1.toInt ≤ n_ho.toInt) (hmu1 : (n_ho.toInt - i_1.toInt) < ((n1 + 1 : Nat) : Int)) (t_3 : i_1.toInt < n_ho.toInt) (t_7 : x_4.toInt = v1.toInt) (t_15 : x_13.toInt = v3.toInt - (3 : Int)) (t_17 : x_13.toInt ≤ x_11.toInt) (t_23 : 0 ≤ x_21.toInt ∧ x_21.toInt ≤ 359) (h_25 : (r_24.toInt < 40 ∧ ((-40 < (x_21.toInt - v2.toInt) ∧ (x_21.toInt - v2.toInt) < 40) ∨ 320 < (x_21.toInt - v2.toInt) ∨ (x_21.toInt - v2.toInt) < -320)) ∨ (40 ≤ r_24.toInt ∧ ¬ ((-40 < (x_21.toInt - v2.toInt) ∧ (x_21.toInt - v2.toInt) < 40) ∨ 320 < (x_21.toInt - v2.toInt) ∨ (x_21.toInt - v2.toInt) < -320))) (t_27 : (40 : Int) ≤ r_24.toInt) : -2147483648 ≤ i_1.toInt + 1 ∧ i_1.toInt + 1 < 2147483648 := by
  have := rg_rng n_tr; have := rg_rng n_ho; have := rg_rng v1; have := rg_rng v2; have := rg_rng v3; have := rg_rng i_1; have := rg_rng x_4; have := rg_rng x_11; have := rg_rng x_13; have := rg_rng x_21; have := rg_rng r_24; omega
theorem lg_X2_isTooNear_20 (n_tr : Int32) (n_ho : Int32) (v1 : Int32) (v2 : Int32) (v3 : Int32) (i_1 : Int32) (n1 : Nat) (x_4 : Int32) (x_11 : Int32) (x_13 : Int32) (x_21 : Int32) (r_24 : Int32) (x_28 : Int32) (yg : 0 ≤ n_tr.toInt ∧ n_tr.toInt ≤ 60 ∧ 0 ≤ n_ho.toInt ∧ n_ho.toInt ≤ 300) (yv : (0 ≤ v2.toInt ∧ v2.toInt ≤ 359) ∧ (0 ≤ v3.toInt ∧ v3.toInt ≤ 20)) (hi1_0 : 0 ≤ i_1.toInt ∧ i_1.toInt ≤ n_ho.toInt) (hmu1 : (n_ho.toInt - i_1.toInt) < ((n1 + 1 : Nat) : Int)) (t_3 : i_1.toInt < n_ho.toInt) (t_7 : x_4.toInt = v1.toInt) (t_15 : x_13.toInt = v3.toInt - (3 : Int)) (t_17 : x_13.toInt ≤ x_11.toInt) (t_23 : 0 ≤ x_21.toInt ∧ x_21.toInt ≤ 359) (h_25 : (r_24.toInt < 40 ∧ ((-40 < (x_21.toInt - v2.toInt) ∧ (x_21.toInt - v2.toInt) < 40) ∨ 320 < (x_21.toInt - v2.toInt) ∨ (x_21.toInt - v2.toInt) < -320)) ∨ (40 ≤ r_24.toInt ∧ ¬ ((-40 < (x_21.toInt - v2.toInt) ∧ (x_21.toInt - v2.toInt) < 40) ∨ 320 < (x_21.toInt - v2.toInt) ∨ (x_21.toInt - v2.toInt) < -320))) (t_27 : (40 : Int) ≤ r_24.toInt) (t_30 : x_28.toInt = i_1.toInt + 1) : (n_ho.toInt - x_28.toInt) < (n1 : Int) := by
  have := rg_rng n_tr; have := rg_rng n_ho; have := rg_rng v1; have := rg_rng v2; have := rg_rng v3; have := rg_rng i_1; have := rg_rng x_4; have := rg_rng x_11; have := rg_rng x_13; have := rg_rng x_21; have := rg_rng r_24; have := rg_rng x_28; omega
theorem lg_X2_isTooNear_21 (n_tr : Int32) (n_ho : Int32) (v1 : Int32) (v2 : Int32) (v3 : Int32) (i_1 : Int32) (n1 : Nat) (x_4 : Int32) (x_11 : Int32) (x_13 : Int32) (x_21 : Int32) (r_24 : Int32) (x_28 : Int32) (yg : 0 ≤ n_tr.toInt ∧ n_tr.toInt ≤ 60 ∧ 0 ≤ n_ho.toInt ∧ n_ho.toInt ≤ 300) (yv : (0 ≤ v2.toInt ∧ v2.toInt ≤ 359) ∧ (0 ≤ v3.toInt ∧ v3.toInt ≤ 20)) (hi1_0 : 0 ≤ i_1.toInt ∧ i_1.toInt ≤ n_ho.toInt) (hmu1 : (n_ho.toInt - i_1.toInt) < ((n1 + 1 : Nat) : Int)) (t_3 : i_1.toInt < n_ho.toInt) (t_7 : x_4.toInt = v1.toInt) (t_15 : x_13.toInt = v3.toInt - (3 : Int)) (t_17 : x_13.toInt ≤ x_11.toInt) (t_23 : 0 ≤ x_21.toInt ∧ x_21.toInt ≤ 359) (h_25 : (r_24.toInt < 40 ∧ ((-40 < (x_21.toInt - v2.toInt) ∧ (x_21.toInt - v2.toInt) < 40) ∨ 320 < (x_21.toInt - v2.toInt) ∨ (x_21.toInt - v2.toInt) < -320)) ∨ (40 ≤ r_24.toInt ∧ ¬ ((-40 < (x_21.toInt - v2.toInt) ∧ (x_21.toInt - v2.toInt) < 40) ∨ 320 < (x_21.toInt - v2.toInt) ∨ (x_21.toInt - v2.toInt) < -320))) (t_27 : (40 : Int) ≤ r_24.toInt) (t_30 : x_28.toInt = i_1.toInt + 1) : 0 ≤ x_28.toInt ∧ x_28.toInt ≤ n_ho.toInt := by
  have := rg_rng n_tr; have := rg_rng n_ho; have := rg_rng v1; have := rg_rng v2; have := rg_rng v3; have := rg_rng i_1; have := rg_rng x_4; have := rg_rng x_11; have := rg_rng x_13; have := rg_rng x_21; have := rg_rng r_24; have := rg_rng x_28; omega
theorem lg_X2_isTooNear_22 (n_tr : Int32) (n_ho : Int32) (f_holeTree : Nat → Int32) (f_holeAngle : Nat → Int32) (f_holeYear : Nat → Int32) (v1 : Int32) (v2 : Int32) (v3 : Int32) (i_1 : Int32) (n1 : Nat) (x_4 : Int32) (x_11 : Int32) (x_13 : Int32) (x_21 : Int32) (r_24 : Int32) (x_28 : Int32) (yg : 0 ≤ n_tr.toInt ∧ n_tr.toInt ≤ 60 ∧ 0 ≤ n_ho.toInt ∧ n_ho.toInt ≤ 300) (yv : (0 ≤ v2.toInt ∧ v2.toInt ≤ 359) ∧ (0 ≤ v3.toInt ∧ v3.toInt ≤ 20)) (hi1_0 : 0 ≤ i_1.toInt ∧ i_1.toInt ≤ n_ho.toInt) (hmu1 : (n_ho.toInt - i_1.toInt) < ((n1 + 1 : Nat) : Int)) (t_3 : i_1.toInt < n_ho.toInt) (t_7 : x_4.toInt = v1.toInt) (t_15 : x_13.toInt = v3.toInt - (3 : Int)) (t_17 : x_13.toInt ≤ x_11.toInt) (t_23 : 0 ≤ x_21.toInt ∧ x_21.toInt ≤ 359) (h_25 : (r_24.toInt < 40 ∧ ((-40 < (x_21.toInt - v2.toInt) ∧ (x_21.toInt - v2.toInt) < 40) ∨ 320 < (x_21.toInt - v2.toInt) ∨ (x_21.toInt - v2.toInt) < -320)) ∨ (40 ≤ r_24.toInt ∧ ¬ ((-40 < (x_21.toInt - v2.toInt) ∧ (x_21.toInt - v2.toInt) < 40) ∨ 320 < (x_21.toInt - v2.toInt) ∨ (x_21.toInt - v2.toInt) < -320))) (t_27 : (40 : Int) ≤ r_24.toInt) (t_30 : x_28.toInt = i_1.toInt + 1) (ex_5 : x_4 = f_holeTree (Int32.toNatClampNeg i_1)) (ex_12 : x_11 = f_holeYear (Int32.toNatClampNeg i_1)) (ex_22 : x_21 = f_holeAngle (Int32.toNatClampNeg i_1)) : (fun k => decide (f_holeTree k = v1 ∧ v3.toInt - 3 ≤ (f_holeYear k).toInt ∧ ((-40 < ((f_holeAngle k).toInt - v2.toInt) ∧ ((f_holeAngle k).toInt - v2.toInt) < 40) ∨ 320 < ((f_holeAngle k).toInt - v2.toInt) ∨ ((f_holeAngle k).toInt - v2.toInt) < -320))) (Int32.toNatClampNeg i_1) = false := by
  have := rg_rng n_tr; have := rg_rng n_ho; have := rg_rng v1; have := rg_rng v2; have := rg_rng v3; have := rg_rng i_1; have := rg_rng x_4; have := rg_rng x_11; have := rg_rng x_13; have := rg_rng x_21; have := rg_rng r_24; have := rg_rng x_28; refine decide_eq_false ?_
  simp only [← ex_5, ← ex_12, ← ex_22, ← Int32.toInt_inj]
  omega
theorem lg_X2_isTooNear_23 (n_tr : Int32) (n_ho : Int32) (v1 : Int32) (v2 : Int32) (v3 : Int32) (i_1 : Int32) (n1 : Nat) (x_4 : Int32) (x_11 : Int32) (x_13 : Int32) (x_21 : Int32) (r_24 : Int32) (x_28 : Int32) (yg : 0 ≤ n_tr.toInt ∧ n_tr.toInt ≤ 60 ∧ 0 ≤ n_ho.toInt ∧ n_ho.toInt ≤ 300) (yv : (0 ≤ v2.toInt ∧ v2.toInt ≤ 359) ∧ (0 ≤ v3.toInt ∧ v3.toInt ≤ 20)) (hi1_0 : 0 ≤ i_1.toInt ∧ i_1.toInt ≤ n_ho.toInt) (hmu1 : (n_ho.toInt - i_1.toInt) < ((n1 + 1 : Nat) : Int)) (t_3 : i_1.toInt < n_ho.toInt) (t_7 : x_4.toInt = v1.toInt) (t_15 : x_13.toInt = v3.toInt - (3 : Int)) (t_17 : x_13.toInt ≤ x_11.toInt) (t_23 : 0 ≤ x_21.toInt ∧ x_21.toInt ≤ 359) (h_25 : (r_24.toInt < 40 ∧ ((-40 < (x_21.toInt - v2.toInt) ∧ (x_21.toInt - v2.toInt) < 40) ∨ 320 < (x_21.toInt - v2.toInt) ∨ (x_21.toInt - v2.toInt) < -320)) ∨ (40 ≤ r_24.toInt ∧ ¬ ((-40 < (x_21.toInt - v2.toInt) ∧ (x_21.toInt - v2.toInt) < 40) ∨ 320 < (x_21.toInt - v2.toInt) ∨ (x_21.toInt - v2.toInt) < -320))) (t_27 : (40 : Int) ≤ r_24.toInt) (t_30 : x_28.toInt = i_1.toInt + 1) : x_28.toInt = i_1.toInt + 1 := by
  have := rg_rng n_tr; have := rg_rng n_ho; have := rg_rng v1; have := rg_rng v2; have := rg_rng v3; have := rg_rng i_1; have := rg_rng x_4; have := rg_rng x_11; have := rg_rng x_13; have := rg_rng x_21; have := rg_rng r_24; have := rg_rng x_28; omega
theorem lg_X2_isTooNear_24 (n_tr : Int32) (n_ho : Int32) (v1 : Int32) (v2 : Int32) (v3 : Int32) (i_1 : Int32) (n1 : Nat) (x_4 : Int32) (x_11 : Int32) (x_13 : Int32) (x_21 : Int32) (r_24 : Int32) (yg : 0 ≤ n_tr.toInt ∧ n_tr.toInt ≤ 60 ∧ 0 ≤ n_ho.toInt ∧ n_ho.toInt ≤ 300) (yv : (0 ≤ v2.toInt ∧ v2.toInt ≤ 359) ∧ (0 ≤ v3.toInt ∧ v3.toInt ≤ 20)) (hi1_0 : 0 ≤ i_1.toInt ∧ i_1.toInt ≤ n_ho.toInt) (hmu1 : (n_ho.toInt - i_1.toInt) < ((n1 + 1 : Nat) : Int)) (t_3 : i_1.toInt < n_ho.toInt) (t_7 : x_4.toInt = v1.toInt) (t_15 : x_13.toInt = v3.toInt - (3 : Int)) (t_17 : x_13.toInt ≤ x_11.toInt) (t_23 : 0 ≤ x_21.toInt ∧ x_21.toInt ≤ 359) (h_25 : (r_24.toInt < 40 ∧ ((-40 < (x_21.toInt - v2.toInt) ∧ (x_21.toInt - v2.toInt) < 40) ∨ 320 < (x_21.toInt - v2.toInt) ∨ (x_21.toInt - v2.toInt) < -320)) ∨ (40 ≤ r_24.toInt ∧ ¬ ((-40 < (x_21.toInt - v2.toInt) ∧ (x_21.toInt - v2.toInt) < 40) ∨ 320 < (x_21.toInt - v2.toInt) ∨ (x_21.toInt - v2.toInt) < -320))) (t_27 : r_24.toInt < (40 : Int)) : 0 ≤ i_1.toInt ∧ i_1.toInt < n_ho.toInt := by
  have := rg_rng n_tr; have := rg_rng n_ho; have := rg_rng v1; have := rg_rng v2; have := rg_rng v3; have := rg_rng i_1; have := rg_rng x_4; have := rg_rng x_11; have := rg_rng x_13; have := rg_rng x_21; have := rg_rng r_24; omega
theorem lg_X2_isTooNear_25 (n_tr : Int32) (n_ho : Int32) (f_holeTree : Nat → Int32) (f_holeAngle : Nat → Int32) (f_holeYear : Nat → Int32) (v1 : Int32) (v2 : Int32) (v3 : Int32) (i_1 : Int32) (n1 : Nat) (x_4 : Int32) (x_11 : Int32) (x_13 : Int32) (x_21 : Int32) (r_24 : Int32) (yg : 0 ≤ n_tr.toInt ∧ n_tr.toInt ≤ 60 ∧ 0 ≤ n_ho.toInt ∧ n_ho.toInt ≤ 300) (yv : (0 ≤ v2.toInt ∧ v2.toInt ≤ 359) ∧ (0 ≤ v3.toInt ∧ v3.toInt ≤ 20)) (hi1_0 : 0 ≤ i_1.toInt ∧ i_1.toInt ≤ n_ho.toInt) (hmu1 : (n_ho.toInt - i_1.toInt) < ((n1 + 1 : Nat) : Int)) (t_3 : i_1.toInt < n_ho.toInt) (t_7 : x_4.toInt = v1.toInt) (t_15 : x_13.toInt = v3.toInt - (3 : Int)) (t_17 : x_13.toInt ≤ x_11.toInt) (t_23 : 0 ≤ x_21.toInt ∧ x_21.toInt ≤ 359) (h_25 : (r_24.toInt < 40 ∧ ((-40 < (x_21.toInt - v2.toInt) ∧ (x_21.toInt - v2.toInt) < 40) ∨ 320 < (x_21.toInt - v2.toInt) ∨ (x_21.toInt - v2.toInt) < -320)) ∨ (40 ≤ r_24.toInt ∧ ¬ ((-40 < (x_21.toInt - v2.toInt) ∧ (x_21.toInt - v2.toInt) < 40) ∨ 320 < (x_21.toInt - v2.toInt) ∨ (x_21.toInt - v2.toInt) < -320))) (t_27 : r_24.toInt < (40 : Int)) (ex_5 : x_4 = f_holeTree (Int32.toNatClampNeg i_1)) (ex_12 : x_11 = f_holeYear (Int32.toNatClampNeg i_1)) (ex_22 : x_21 = f_holeAngle (Int32.toNatClampNeg i_1)) : (fun k => decide (f_holeTree k = v1 ∧ v3.toInt - 3 ≤ (f_holeYear k).toInt ∧ ((-40 < ((f_holeAngle k).toInt - v2.toInt) ∧ ((f_holeAngle k).toInt - v2.toInt) < 40) ∨ 320 < ((f_holeAngle k).toInt - v2.toInt) ∨ ((f_holeAngle k).toInt - v2.toInt) < -320))) (Int32.toNatClampNeg i_1) = true := by
  have := rg_rng n_tr; have := rg_rng n_ho; have := rg_rng v1; have := rg_rng v2; have := rg_rng v3; have := rg_rng i_1; have := rg_rng x_4; have := rg_rng x_11; have := rg_rng x_13; have := rg_rng x_21; have := rg_rng r_24; refine decide_eq_true ?_
  simp only [← ex_5, ← ex_12, ← ex_22, ← Int32.toInt_inj]
  omega
set_option maxHeartbeats 4000000 in
set_option maxRecDepth 100000 in
theorem kX2_isTooNear (l : Launch) (dC : Nat → ClassId) (dI : Nat → Nat → Nat) (sz : Nat) (h0 : Nat) (g_node : Nat) (g_girth : Nat) (g_gave : Nat) (g_holeTree : Nat) (g_holeAngle : Nat) (g_holeYear : Nat) (n_tr : Int32) (n_ho : Int32) (k_holeTree : ClassId) (k_holeAngle : ClassId) (k_holeYear : ClassId) (f_holeTree : Nat → Int32) (f_holeAngle : Nat → Int32) (f_holeYear : Nat → Int32) (v1 : Int32) (v2 : Int32) (v3 : Int32) (yg : 0 ≤ n_tr.toInt ∧ n_tr.toInt ≤ 60 ∧ 0 ≤ n_ho.toInt ∧ n_ho.toInt ≤ 300) (yan : Rg f_holeAngle 300 0 359) (yv : (0 ≤ v2.toInt ∧ v2.toInt ≤ 359) ∧ (0 ≤ v3.toInt ∧ v3.toInt ≤ 20)) : Met l yX2_isTooNear (Cond.code yX2_isTooNear cX2_isTooNear 5 (some .boolean) :: bg) ({ frames := 2, cells := 0, slots := 0, locals := 35 }) (pcW dC dI [.ref h0, .int v1, .int v2, .int v3] sz [(h0, .inr (2, [.ref g_node, .ref g_girth, .ref g_gave, .ref g_holeTree, .ref g_holeAngle, .ref g_holeYear, .int n_tr, .int n_ho])), (g_holeTree, .inl (k_holeTree, 300, .inl f_holeTree)), (g_holeAngle, .inl (k_holeAngle, 300, .inl f_holeAngle)), (g_holeYear, .inl (k_holeYear, 300, .inl f_holeYear))] [(k_holeTree, .int), (k_holeAngle, .int), (k_holeYear, .int)]) (va_Qi (fun (r : Int32) (u : Unit) => (r = 1 ∧ 0 < cntB (fun k => decide (f_holeTree k = v1 ∧ v3.toInt - 3 ≤ (f_holeYear k).toInt ∧ ((-40 < ((f_holeAngle k).toInt - v2.toInt) ∧ ((f_holeAngle k).toInt - v2.toInt) < 40) ∨ 320 < ((f_holeAngle k).toInt - v2.toInt) ∨ ((f_holeAngle k).toInt - v2.toInt) < -320))) (Int32.toNatClampNeg n_ho)) ∨ (r = 0 ∧ cntB (fun k => decide (f_holeTree k = v1 ∧ v3.toInt - 3 ≤ (f_holeYear k).toInt ∧ ((-40 < ((f_holeAngle k).toInt - v2.toInt) ∧ ((f_holeAngle k).toInt - v2.toInt) < 40) ∨ 320 < ((f_holeAngle k).toInt - v2.toInt) ∨ ((f_holeAngle k).toInt - v2.toInt) < -320))) (Int32.toNatClampNeg n_ho) = 0)) (fun (u : Unit) (t : State) => va_P (dC, dI) vwCl [(h0, .inr (2, [.ref g_node, .ref g_girth, .ref g_gave, .ref g_holeTree, .ref g_holeAngle, .ref g_holeYear, .int n_tr, .int n_ho])), (g_holeTree, .inl (k_holeTree, 300, .inl f_holeTree)), (g_holeAngle, .inl (k_holeAngle, 300, .inl f_holeAngle)), (g_holeYear, .inl (k_holeYear, 300, .inl f_holeYear))] t.heap ∧ va_K (dC, dI) vwCl [(k_holeTree, .int), (k_holeAngle, .int), (k_holeYear, .int)] t ∧ va_D (va_A [(h0, .inr (2, [.ref g_node, .ref g_girth, .ref g_gave, .ref g_holeTree, .ref g_holeAngle, .ref g_holeYear, .int n_tr, .int n_ho])), (g_holeTree, .inl (k_holeTree, 300, .inl f_holeTree)), (g_holeAngle, .inl (k_holeAngle, 300, .inl f_holeAngle)), (g_holeYear, .inl (k_holeYear, 300, .inl f_holeYear))] sz) [(h0, .inr (2, [.ref g_node, .ref g_girth, .ref g_gave, .ref g_holeTree, .ref g_holeAngle, .ref g_holeYear, .int n_tr, .int n_ho])), (g_holeTree, .inl (k_holeTree, 300, .inl f_holeTree)), (g_holeAngle, .inl (k_holeAngle, 300, .inl f_holeAngle)), (g_holeYear, .inl (k_holeYear, 300, .inl f_holeYear))]) (va_A [(h0, .inr (2, [.ref g_node, .ref g_girth, .ref g_gave, .ref g_holeTree, .ref g_holeAngle, .ref g_holeYear, .int n_tr, .int n_ho])), (g_holeTree, .inl (k_holeTree, 300, .inl f_holeTree)), (g_holeAngle, .inl (k_holeAngle, 300, .inl f_holeAngle)), (g_holeYear, .inl (k_holeYear, 300, .inl f_holeYear))] sz)) 0 0 (va_A [(h0, .inr (2, [.ref g_node, .ref g_girth, .ref g_gave, .ref g_holeTree, .ref g_holeAngle, .ref g_holeYear, .int n_tr, .int n_ho])), (g_holeTree, .inl (k_holeTree, 300, .inl f_holeTree)), (g_holeAngle, .inl (k_holeAngle, 300, .inl f_holeAngle)), (g_holeYear, .inl (k_holeYear, 300, .inl f_holeYear))] sz) := by
  refine Met.ofW (cc := cX2_isTooNear) (maxL := 5) (ret := (some .boolean)) pnX2 rfl ?_
  intro p e s m args below meth c s₁ B hml hv
  obtain ⟨rfl, hsz, hP, hK, hD0, hN⟩ := hv
  have hx := B.exec
  have hb := B.bytes
  have hr := B.returns
  have htb : ∀ w ∈ bg, w.before [.ref h0, .int v1, .int v2, .int v3].toArray s = true := fun w h => atoms_spec (ws := Cond.code yX2_isTooNear cX2_isTooNear 5 (some .boolean) :: bg) B.pre w (List.mem_cons_of_mem _ h)
  have hown : s.vm.findClass RX2 = some m.cls := findClass_of_methodNamed B.named
  have hlocks := B.notSynchronized
  subst hsz
  have hD := hD0.self (sz := s.heap.size)
  generalize hAe : va_A [(h0, .inr (2, [.ref g_node, .ref g_girth, .ref g_gave, .ref g_holeTree, .ref g_holeAngle, .ref g_holeYear, .int n_tr, .int n_ho])), (g_holeTree, .inl (k_holeTree, 300, .inl f_holeTree)), (g_holeAngle, .inl (k_holeAngle, 300, .inl f_holeAngle)), (g_holeYear, .inl (k_holeYear, 300, .inl f_holeYear))] s.heap.size = A at hD ⊢
  have hA : ∀ q : Nat, s.heap.size ≤ q → A q := fun q h => by rw [← hAe]; exact Or.inr h
  have hS : va_S A s.heap s.heap [] := va_S.rf
  have hl := lv_entry ([.ref h0, .int v1, .int v2, .int v3]) (n := 5) (Nat.le_of_ble_eq_true rfl)
  rw [lg_entry_eq]
  generalize (lg_sl ([.ref h0, .int v1, .int v2, .int v3]) ++ List.replicate (5 - (lg_sl ([.ref h0, .int v1, .int v2, .int v3])).length) Slot.unset).toArray = ls at hl ⊢
  change lv_has ls 5 [(0, .ref h0), (1, .int v1), (2, .int v2), (3, .int v3)] at hl
  clear hD0 hAe
  refine go0 (wsP := fun H => va_P (dC, dI) vwCl [(h0, .inr (2, [.ref g_node, .ref g_girth, .ref g_gave, .ref g_holeTree, .ref g_holeAngle, .ref g_holeYear, .int n_tr, .int n_ho])), (g_holeTree, .inl (k_holeTree, 300, .inl f_holeTree)), (g_holeAngle, .inl (k_holeAngle, 300, .inl f_holeAngle)), (g_holeYear, .inl (k_holeYear, 300, .inl f_holeYear))] H) hP hS ?_
  clear hP hS; intro H locs hP hS
  change va_P (dC, dI) vwCl [(h0, .inr (2, [.ref g_node, .ref g_girth, .ref g_gave, .ref g_holeTree, .ref g_holeAngle, .ref g_holeYear, .int n_tr, .int n_ho])), (g_holeTree, .inl (k_holeTree, 300, .inl f_holeTree)), (g_holeAngle, .inl (k_holeAngle, 300, .inl f_holeAngle)), (g_holeYear, .inl (k_holeYear, 300, .inl f_holeYear))] H at hP
  refine lv_iconst (v := 0) hx hb dX2_isTooNear_0 (by decide) ?_
  refine lv_istore (lv' := [(4, .int 0), (0, .ref h0), (1, .int v1), (2, .int v2), (3, .int v3)]) hx hb dX2_isTooNear_1 hl (by decide) rfl ?_
  clear hl; intro ls hl
  refine (fun (lp : ∀ (n1 : Nat) (i_1 : Int32) (H : Heap) (locs : List Loc) (ls : Array Slot), (n_ho.toInt - i_1.toInt) < (n1 : Int) → (0 ≤ i_1.toInt ∧ i_1.toInt ≤ n_ho.toInt) → (No (fun k => decide (f_holeTree k = v1 ∧ v3.toInt - 3 ≤ (f_holeYear k).toInt ∧ ((-40 < ((f_holeAngle k).toInt - v2.toInt) ∧ ((f_holeAngle k).toInt - v2.toInt) < 40) ∨ 320 < ((f_holeAngle k).toInt - v2.toInt) ∨ ((f_holeAngle k).toInt - v2.toInt) < -320))) i_1) → lv_has ls 5 [(4, .int i_1), (0, .ref h0), (1, .int v1), (2, .int v2), (3, .int v3)] → va_P (dC, dI) vwCl [(h0, .inr (2, [.ref g_node, .ref g_girth, .ref g_gave, .ref g_holeTree, .ref g_holeAngle, .ref g_holeYear, .int n_tr, .int n_ho])), (g_holeTree, .inl (k_holeTree, 300, .inl f_holeTree)), (g_holeAngle, .inl (k_holeAngle, 300, .inl f_holeAngle)), (g_holeYear, .inl (k_holeYear, 300, .inl f_holeYear))] H → va_D A [(h0, .inr (2, [.ref g_node, .ref g_girth, .ref g_gave, .ref g_holeTree, .ref g_holeAngle, .ref g_holeYear, .int n_tr, .int n_ho])), (g_holeTree, .inl (k_holeTree, 300, .inl f_holeTree)), (g_holeAngle, .inl (k_holeAngle, 300, .inl f_holeAngle)), (g_holeYear, .inl (k_holeYear, 300, .inl f_holeYear))] → va_S A s.heap H locs → W p l e _ s m _ below meth c H locs _ _ _ (F0 m 3 ls [])) => lp (Int.toNat (n_ho.toInt - (0 : Int)) + 1) 0   H locs ls ((lg_X2_isTooNear_0 n_tr n_ho v2 v3 yg yv)) (lg_X2_isTooNear_1 n_tr n_ho v2 v3 yg yv)  No_0 hl hP hD hS) ?_
  clear hP hD hS hl
  intro n1
  induction n1 with
  | zero =>
    intro i_1 H locs ls hmu1 hi1_0  hp1_0 hl hP hD hS
    exact False.elim (lg_X2_isTooNear_2 n_tr n_ho v2 v3 i_1 yg yv hi1_0 hmu1)
  | succ n1 ih1 =>
    intro i_1 H locs ls hmu1 hi1_0  hp1_0 hl hP hD hS
    refine lv_iload hx hb dX2_isTooNear_3 (lv_at hl 0 rfl) ?_
    refine lv_aload_n hx hb dX2_isTooNear_5 rfl (lv_at hl 1 rfl) ?_
    refine va_get (D := (dC, dI)) (ci := 2) (v := .int n_ho) (C := RX2) (T := TX2) (N := 8) hx hb htb iX2 hown hK hP 0 rfl rfl 7 (Nat.le_of_ble_eq_true rfl) (htb _ m_79) (fun _ h9 => h9) rfl dX2_isTooNear_6 ?_
    refine lv_icmp_ge (tgt := 60) hx hb dX2_isTooNear_9 (by decide) (fun c_2 => ?_) (fun c_2 => ?_)
    · have t_3 : n_ho.toInt ≤ i_1.toInt := i_le rfl rfl c_2
      refine lv_iconst (v := 0) hx hb dX2_isTooNear_60 (by decide) ?_
      refine W.widen (k := 0) (n := 0) (Nat.le_of_ble_eq_true rfl) (Nat.le_of_ble_eq_true rfl) ?_
      have hP9 := hP.sub (ws' := [(h0, .inr (2, [.ref g_node, .ref g_girth, .ref g_gave, .ref g_holeTree, .ref g_holeAngle, .ref g_holeYear, .int n_tr, .int n_ho])), (g_holeTree, .inl (k_holeTree, 300, .inl f_holeTree)), (g_holeAngle, .inl (k_holeAngle, 300, .inl f_holeAngle)), (g_holeYear, .inl (k_holeYear, 300, .inl f_holeYear))]) [0, 1, 2, 3] rfl
      have hD9 := hD.sub (ws' := [(h0, .inr (2, [.ref g_node, .ref g_girth, .ref g_gave, .ref g_holeTree, .ref g_holeAngle, .ref g_holeYear, .int n_tr, .int n_ho])), (g_holeTree, .inl (k_holeTree, 300, .inl f_holeTree)), (g_holeAngle, .inl (k_holeAngle, 300, .inl f_holeAngle)), (g_holeYear, .inl (k_holeYear, 300, .inl f_holeYear))]) [0, 1, 2, 3] (by decide) rfl
      have hK9 := hK.sub (tys' := [(k_holeTree, .int), (k_holeAngle, .int), (k_holeYear, .int)]) [0, 1, 2] rfl
      exact W.zret (ty := .boolean) (v := 0) hx hb hr rfl (fun t ht hW => ⟨⟨0, (), rfl, (Or.inr (⟨rfl, (No_e hp1_0 (lg_X2_isTooNear_3 n_tr n_ho v2 v3 i_1 n1 yg yv hi1_0 hmu1 t_3))⟩)), ⟨by rw [ht]; exact hP9, va_K.moved hW.alike hK9, hD9⟩⟩, hS.F ht⟩) hS.2.2 dX2_isTooNear_61
    · have t_3 : i_1.toInt < n_ho.toInt := i_nle rfl rfl c_2
      refine lv_aload_n hx hb dX2_isTooNear_12 rfl (lv_at hl 1 rfl) ?_
      refine va_get (D := (dC, dI)) (ci := 2) (v := .ref g_holeTree) (C := RX2) (T := TX2) (N := 8) hx hb htb iX2 hown hK hP 0 rfl rfl 3 (Nat.le_of_ble_eq_true rfl) (htb _ m_74) (fun _ h9 => h9) rfl dX2_isTooNear_13 ?_
      refine lv_iload hx hb dX2_isTooNear_16 (lv_at hl 0 rfl) ?_
      refine va_iald hx hb hK hP 1 0 rfl rfl (i_in rfl (lg_X2_isTooNear_4 n_tr n_ho v2 v3 i_1 n1 yg yv hi1_0 hmu1 t_3)) dX2_isTooNear_18 ?_
      refine lv_topi (fun x_4 ex_5 => ?_)
      refine lv_iload_n hx hb dX2_isTooNear_19 rfl (lv_at hl 2 rfl) ?_
      refine lv_icmp_ne (tgt := 54) hx hb dX2_isTooNear_20 (by decide) (fun c_6 => ?_) (fun c_6 => ?_)
      · have t_7 : ¬ x_4.toInt = v1.toInt := i_ne rfl rfl c_6
        obtain ⟨x_8, ex_9⟩ : ∃ y : Int32, y = i_1 + Int32.ofInt 1 := ⟨_, rfl⟩
        have t_10 : x_8.toInt = i_1.toInt + 1 := i_add rfl (by decide) (lg_X2_isTooNear_5 n_tr n_ho v1 v2 v3 i_1 n1 x_4 yg yv hi1_0 hmu1 t_3 t_7) ex_9
        refine lv_iinc (v := x_8) (lv' := [(4, .int x_8), (0, .ref h0), (1, .int v1), (2, .int v2), (3, .int v3)]) hx hb dX2_isTooNear_54 hl (k := 0) rfl ex_9.symm (by decide) rfl ?_
        clear hl; intro ls hl
        refine lv_goto (tgt := 3) hx hb dX2_isTooNear_57 (by decide) ?_
        exact ih1 x_8  H locs ls (lg_X2_isTooNear_6 n_tr n_ho v1 v2 v3 i_1 n1 x_4 x_8 yg yv hi1_0 hmu1 t_3 t_7 t_10) (lg_X2_isTooNear_7 n_tr n_ho v1 v2 v3 i_1 n1 x_4 x_8 yg yv hi1_0 hmu1 t_3 t_7 t_10)  (No_f hp1_0 (lg_X2_isTooNear_8 n_tr n_ho f_holeTree f_holeAngle f_holeYear v1 v2 v3 i_1 n1 x_4 x_8 yg yv hi1_0 hmu1 t_3 t_7 t_10 ex_5) (lg_X2_isTooNear_9 n_tr n_ho v1 v2 v3 i_1 n1 x_4 x_8 yg yv hi1_0 hmu1 t_3 t_7 t_10)) (lv_sub hl [0, 1, 2, 3, 4] rfl) (hP.sub [0, 1, 2, 3] rfl) (hD.sub [0, 1, 2, 3] (by decide) rfl) hS
      · have t_7 : x_4.toInt = v1.toInt := i_eq rfl rfl c_6
        refine lv_aload_n hx hb dX2_isTooNear_23 rfl (lv_at hl 1 rfl) ?_
        refine va_get (D := (dC, dI)) (ci := 2) (v := .ref g_holeYear) (C := RX2) (T := TX2) (N := 8) hx hb htb iX2 hown hK hP 0 rfl rfl 5 (Nat.le_of_ble_eq_true rfl) (htb _ m_76) (fun _ h9 => h9) rfl dX2_isTooNear_24 ?_
        refine lv_iload hx hb dX2_isTooNear_27 (lv_at hl 0 rfl) ?_
        refine va_iald hx hb hK hP 3 2 rfl rfl (i_in rfl (lg_X2_isTooNear_10 n_tr n_ho v1 v2 v3 i_1 n1 x_4 yg yv hi1_0 hmu1 t_3 t_7)) dX2_isTooNear_29 ?_
        refine lv_topi (fun x_11 ex_12 => ?_)
        refine lv_iload_n hx hb dX2_isTooNear_30 rfl (lv_at hl 4 rfl) ?_
        refine lv_iconst (v := 3) hx hb dX2_isTooNear_31 (by decide) ?_
        refine lv_isub hx hb dX2_isTooNear_32 ?_
        refine lv_topi (fun x_13 ex_14 => ?_)
        have t_15 : x_13.toInt = v3.toInt - (3 : Int) := i_sub rfl (by decide) (lg_X2_isTooNear_11 n_tr n_ho v1 v2 v3 i_1 n1 x_4 yg yv hi1_0 hmu1 t_3 t_7) ex_14
        refine lv_icmp_lt (tgt := 54) hx hb dX2_isTooNear_33 (by decide) (fun c_16 => ?_) (fun c_16 => ?_)
        · have t_17 : x_11.toInt < x_13.toInt := i_lt rfl rfl c_16
          obtain ⟨x_18, ex_19⟩ : ∃ y : Int32, y = i_1 + Int32.ofInt 1 := ⟨_, rfl⟩
          have t_20 : x_18.toInt = i_1.toInt + 1 := i_add rfl (by decide) (lg_X2_isTooNear_12 n_tr n_ho v1 v2 v3 i_1 n1 x_4 x_11 x_13 yg yv hi1_0 hmu1 t_3 t_7 t_15 t_17) ex_19
          refine lv_iinc (v := x_18) (lv' := [(4, .int x_18), (0, .ref h0), (1, .int v1), (2, .int v2), (3, .int v3)]) hx hb dX2_isTooNear_54 hl (k := 0) rfl ex_19.symm (by decide) rfl ?_
          clear hl; intro ls hl
          refine lv_goto (tgt := 3) hx hb dX2_isTooNear_57 (by decide) ?_
          exact ih1 x_18  H locs ls (lg_X2_isTooNear_13 n_tr n_ho v1 v2 v3 i_1 n1 x_4 x_11 x_13 x_18 yg yv hi1_0 hmu1 t_3 t_7 t_15 t_17 t_20) (lg_X2_isTooNear_14 n_tr n_ho v1 v2 v3 i_1 n1 x_4 x_11 x_13 x_18 yg yv hi1_0 hmu1 t_3 t_7 t_15 t_17 t_20)  (No_f hp1_0 (lg_X2_isTooNear_15 n_tr n_ho f_holeTree f_holeAngle f_holeYear v1 v2 v3 i_1 n1 x_4 x_11 x_13 x_18 yg yv hi1_0 hmu1 t_3 t_7 t_15 t_17 t_20 ex_5 ex_12) (lg_X2_isTooNear_16 n_tr n_ho v1 v2 v3 i_1 n1 x_4 x_11 x_13 x_18 yg yv hi1_0 hmu1 t_3 t_7 t_15 t_17 t_20)) (lv_sub hl [0, 1, 2, 3, 4] rfl) (hP.sub [0, 1, 2, 3] rfl) (hD.sub [0, 1, 2, 3] (by decide) rfl) hS
        · have t_17 : x_13.toInt ≤ x_11.toInt := i_nlt rfl rfl c_16
          refine lv_aload_n hx hb dX2_isTooNear_36 rfl (lv_at hl 1 rfl) ?_
          refine va_get (D := (dC, dI)) (ci := 2) (v := .ref g_holeAngle) (C := RX2) (T := TX2) (N := 8) hx hb htb iX2 hown hK hP 0 rfl rfl 4 (Nat.le_of_ble_eq_true rfl) (htb _ m_75) (fun _ h9 => h9) rfl dX2_isTooNear_37 ?_
          refine lv_iload hx hb dX2_isTooNear_40 (lv_at hl 0 rfl) ?_
          refine va_iald hx hb hK hP 2 1 rfl rfl (i_in rfl (lg_X2_isTooNear_17 n_tr n_ho v1 v2 v3 i_1 n1 x_4 x_11 x_13 yg yv hi1_0 hmu1 t_3 t_7 t_15 t_17)) dX2_isTooNear_42 ?_
          refine lv_topi (fun x_21 ex_22 => ?_)
          have t_23 : 0 ≤ x_21.toInt ∧ x_21.toInt ≤ 359 := Rg_ld yan (i_in rfl (lg_X2_isTooNear_17 n_tr n_ho v1 v2 v3 i_1 n1 x_4 x_11 x_13 yg yv hi1_0 hmu1 t_3 t_7 t_15 t_17)) ex_22
          refine lv_iload_n hx hb dX2_isTooNear_43 rfl (lv_at hl 3 rfl) ?_
          have hPc := hP.sub (ws' := []) [] rfl
          have hDc := hD.sub (ws' := []) [] (by decide) rfl
          have hKc := hK.sub (tys' := []) [] rfl
          have hFc := va_free (wc := []) hD hS hA [] rfl
          refine va_calli (va_runS (As := [.int x_21, .int v2]) (rest := []) ⟨hx, hb, hml, hown, htb⟩ (kX2_degreesApart l dC dI H.size x_21 v2 (lg_X2_isTooNear_18 n_tr n_ho v1 v2 v3 i_1 n1 x_4 x_11 x_13 x_21 yg yv hi1_0 hmu1 t_3 t_7 t_15 t_17 t_23)) ⟨callB_of 2 htb (gd_c m_403) rfl rfl rfl (htb _ m_3) (htb _ m_401) hdX2_degreesApart ⟨(Nat.le_of_ble_eq_true rfl), (Nat.le_of_ble_eq_true rfl)⟩, htb _ m_402⟩ ⟨pcW_blind, pcW_at hPc hKc hDc hN⟩ rfl rfl hl.1 rfl (lv_room (Nat.le_of_ble_eq_true rfl)) dX2_isTooNear_44 ⟨(Nat.le_of_ble_eq_true rfl), (Nat.le_of_ble_eq_true rfl)⟩) hS (fun q _ h => hFc q h) hFc (fun r_24 u t H1 locs1 ht hvm h_25 hB hz1 hk1 hS1 => ?_)
          obtain ⟨hP1, hK1, hD1⟩ := hB
          rw [ht] at hP1
          obtain ⟨hPn, hDn⟩ := va_join (wr := [(h0, .inr (2, [.ref g_node, .ref g_girth, .ref g_gave, .ref g_holeTree, .ref g_holeAngle, .ref g_holeYear, .int n_tr, .int n_ho])), (g_holeTree, .inl (k_holeTree, 300, .inl f_holeTree)), (g_holeAngle, .inl (k_holeAngle, 300, .inl f_holeAngle)), (g_holeYear, .inl (k_holeYear, 300, .inl f_holeYear))]) (w1 := []) hP hD [] [0, 1, 2, 3] rfl rfl (by decide) (by decide) hk1 hFc hP1 hD1
          clear hP1 hD1 hK1
          clear hP hD hS hPc hDc hKc hFc hk1 hz1 ht hvm
          clear t
          revert hS1 hPn hDn; generalize H1 = H; generalize locs1 = locs; intro hS hP hD
          change va_P (dC, dI) vwCl [(h0, .inr (2, [.ref g_node, .ref g_girth, .ref g_gave, .ref g_holeTree, .ref g_holeAngle, .ref g_holeYear, .int n_tr, .int n_ho])), (g_holeTree, .inl (k_holeTree, 300, .inl f_holeTree)), (g_holeAngle, .inl (k_holeAngle, 300, .inl f_holeAngle)), (g_holeYear, .inl (k_holeYear, 300, .inl f_holeYear))] H at hP
          change va_D A [(h0, .inr (2, [.ref g_node, .ref g_girth, .ref g_gave, .ref g_holeTree, .ref g_holeAngle, .ref g_holeYear, .int n_tr, .int n_ho])), (g_holeTree, .inl (k_holeTree, 300, .inl f_holeTree)), (g_holeAngle, .inl (k_holeAngle, 300, .inl f_holeAngle)), (g_holeYear, .inl (k_holeYear, 300, .inl f_holeYear))] at hD
          refine lv_bipush (v := 40) hx hb dX2_isTooNear_47 (by decide) ?_
          refine lv_icmp_ge (tgt := 54) hx hb dX2_isTooNear_49 (by decide) (fun c_26 => ?_) (fun c_26 => ?_)
          · have t_27 : (40 : Int) ≤ r_24.toInt := i_le (by decide) rfl c_26
            obtain ⟨x_28, ex_29⟩ : ∃ y : Int32, y = i_1 + Int32.ofInt 1 := ⟨_, rfl⟩
            have t_30 : x_28.toInt = i_1.toInt + 1 := i_add rfl (by decide) (lg_X2_isTooNear_19 n_tr n_ho v1 v2 v3 i_1 n1 x_4 x_11 x_13 x_21 r_24 yg yv hi1_0 hmu1 t_3 t_7 t_15 t_17 t_23 h_25 t_27) ex_29
            refine lv_iinc (v := x_28) (lv' := [(4, .int x_28), (0, .ref h0), (1, .int v1), (2, .int v2), (3, .int v3)]) hx hb dX2_isTooNear_54 hl (k := 0) rfl ex_29.symm (by decide) rfl ?_
            clear hl; intro ls hl
            refine lv_goto (tgt := 3) hx hb dX2_isTooNear_57 (by decide) ?_
            exact ih1 x_28  H locs ls (lg_X2_isTooNear_20 n_tr n_ho v1 v2 v3 i_1 n1 x_4 x_11 x_13 x_21 r_24 x_28 yg yv hi1_0 hmu1 t_3 t_7 t_15 t_17 t_23 h_25 t_27 t_30) (lg_X2_isTooNear_21 n_tr n_ho v1 v2 v3 i_1 n1 x_4 x_11 x_13 x_21 r_24 x_28 yg yv hi1_0 hmu1 t_3 t_7 t_15 t_17 t_23 h_25 t_27 t_30)  (No_f hp1_0 (lg_X2_isTooNear_22 n_tr n_ho f_holeTree f_holeAngle f_holeYear v1 v2 v3 i_1 n1 x_4 x_11 x_13 x_21 r_24 x_28 yg yv hi1_0 hmu1 t_3 t_7 t_15 t_17 t_23 h_25 t_27 t_30 ex_5 ex_12 ex_22) (lg_X2_isTooNear_23 n_tr n_ho v1 v2 v3 i_1 n1 x_4 x_11 x_13 x_21 r_24 x_28 yg yv hi1_0 hmu1 t_3 t_7 t_15 t_17 t_23 h_25 t_27 t_30)) (lv_sub hl [0, 1, 2, 3, 4] rfl) (hP.sub [0, 1, 2, 3] rfl) (hD.sub [0, 1, 2, 3] (by decide) rfl) hS
          · have t_27 : r_24.toInt < (40 : Int) := i_nle (by decide) rfl c_26
            refine lv_iconst (v := 1) hx hb dX2_isTooNear_52 (by decide) ?_
            refine W.widen (k := 0) (n := 0) (Nat.le_of_ble_eq_true rfl) (Nat.le_of_ble_eq_true rfl) ?_
            have hP9 := hP.sub (ws' := [(h0, .inr (2, [.ref g_node, .ref g_girth, .ref g_gave, .ref g_holeTree, .ref g_holeAngle, .ref g_holeYear, .int n_tr, .int n_ho])), (g_holeTree, .inl (k_holeTree, 300, .inl f_holeTree)), (g_holeAngle, .inl (k_holeAngle, 300, .inl f_holeAngle)), (g_holeYear, .inl (k_holeYear, 300, .inl f_holeYear))]) [0, 1, 2, 3] rfl
            have hD9 := hD.sub (ws' := [(h0, .inr (2, [.ref g_node, .ref g_girth, .ref g_gave, .ref g_holeTree, .ref g_holeAngle, .ref g_holeYear, .int n_tr, .int n_ho])), (g_holeTree, .inl (k_holeTree, 300, .inl f_holeTree)), (g_holeAngle, .inl (k_holeAngle, 300, .inl f_holeAngle)), (g_holeYear, .inl (k_holeYear, 300, .inl f_holeYear))]) [0, 1, 2, 3] (by decide) rfl
            have hK9 := hK.sub (tys' := [(k_holeTree, .int), (k_holeAngle, .int), (k_holeYear, .int)]) [0, 1, 2] rfl
            exact W.zret (ty := .boolean) (v := 1) hx hb hr rfl (fun t ht hW => ⟨⟨1, (), rfl, (Or.inl ⟨rfl, (No_t (lg_X2_isTooNear_24 n_tr n_ho v1 v2 v3 i_1 n1 x_4 x_11 x_13 x_21 r_24 yg yv hi1_0 hmu1 t_3 t_7 t_15 t_17 t_23 h_25 t_27) (lg_X2_isTooNear_25 n_tr n_ho f_holeTree f_holeAngle f_holeYear v1 v2 v3 i_1 n1 x_4 x_11 x_13 x_21 r_24 yg yv hi1_0 hmu1 t_3 t_7 t_15 t_17 t_23 h_25 t_27 ex_5 ex_12 ex_22))⟩), ⟨by rw [ht]; exact hP9, va_K.moved hW.alike hK9, hD9⟩⟩, hS.F ht⟩) hS.2.2 dX2_isTooNear_53

theorem lg_X2_drill_0 (n_tr : Int32) (n_ho : Int32) (v2 : Int32) (yg : 0 ≤ n_tr.toInt ∧ n_tr.toInt ≤ 60 ∧ 0 ≤ n_ho.toInt ∧ n_ho.toInt ≤ 300) (yv : 0 ≤ v2.toInt ∧ v2.toInt ≤ 359) (t_2 : n_ho.toInt < (300 : Int)) : 0 ≤ n_ho.toInt ∧ n_ho.toInt < ((300 : Nat) : Int) := by
  have := rg_rng n_tr; have := rg_rng n_ho; have := rg_rng v2; omega
theorem lg_X2_drill_1 (n_tr : Int32) (n_ho : Int32) (v2 : Int32) (yg : 0 ≤ n_tr.toInt ∧ n_tr.toInt ≤ 60 ∧ 0 ≤ n_ho.toInt ∧ n_ho.toInt ≤ 300) (yv : 0 ≤ v2.toInt ∧ v2.toInt ≤ 359) (t_2 : n_ho.toInt < (300 : Int)) : 0 ≤ v2.toInt ∧ v2.toInt ≤ 359 := by
  have := rg_rng n_tr; have := rg_rng n_ho; have := rg_rng v2; omega
theorem lg_X2_drill_2 (n_tr : Int32) (n_ho : Int32) (v2 : Int32) (yg : 0 ≤ n_tr.toInt ∧ n_tr.toInt ≤ 60 ∧ 0 ≤ n_ho.toInt ∧ n_ho.toInt ≤ 300) (yv : 0 ≤ v2.toInt ∧ v2.toInt ≤ 359) (t_2 : n_ho.toInt < (300 : Int)) : -2147483648 ≤ n_ho.toInt + (1 : Int) ∧ n_ho.toInt + (1 : Int) < 2147483648 := by
  have := rg_rng n_tr; have := rg_rng n_ho; have := rg_rng v2; omega
theorem lg_X2_drill_3 (n_tr : Int32) (n_ho : Int32) (v2 : Int32) (x_10 : Int32) (yg : 0 ≤ n_tr.toInt ∧ n_tr.toInt ≤ 60 ∧ 0 ≤ n_ho.toInt ∧ n_ho.toInt ≤ 300) (yv : 0 ≤ v2.toInt ∧ v2.toInt ≤ 359) (t_2 : n_ho.toInt < (300 : Int)) (t_12 : x_10.toInt = n_ho.toInt + (1 : Int)) : (n_ho.toInt < 300 ∧ x_10.toInt = n_ho.toInt + 1) ∨ (n_ho.toInt = 300 ∧ x_10.toInt = n_ho.toInt) := by
  have := rg_rng n_tr; have := rg_rng n_ho; have := rg_rng v2; have := rg_rng x_10; omega
theorem lg_X2_drill_4 (n_tr : Int32) (n_ho : Int32) (v2 : Int32) (x_10 : Int32) (yg : 0 ≤ n_tr.toInt ∧ n_tr.toInt ≤ 60 ∧ 0 ≤ n_ho.toInt ∧ n_ho.toInt ≤ 300) (yv : 0 ≤ v2.toInt ∧ v2.toInt ≤ 359) (t_2 : n_ho.toInt < (300 : Int)) (t_12 : x_10.toInt = n_ho.toInt + (1 : Int)) : x_10.toInt = n_ho.toInt + 1 := by
  have := rg_rng n_tr; have := rg_rng n_ho; have := rg_rng v2; have := rg_rng x_10; omega
theorem lg_X2_drill_5 (n_tr : Int32) (n_ho : Int32) (v2 : Int32) (x_10 : Int32) (yg : 0 ≤ n_tr.toInt ∧ n_tr.toInt ≤ 60 ∧ 0 ≤ n_ho.toInt ∧ n_ho.toInt ≤ 300) (yv : 0 ≤ v2.toInt ∧ v2.toInt ≤ 359) (t_2 : n_ho.toInt < (300 : Int)) (t_12 : x_10.toInt = n_ho.toInt + (1 : Int)) : n_ho.toInt < 300 := by
  have := rg_rng n_tr; have := rg_rng n_ho; have := rg_rng v2; have := rg_rng x_10; omega
theorem lg_X2_drill_6 (n_tr : Int32) (n_ho : Int32) (v2 : Int32) (yg : 0 ≤ n_tr.toInt ∧ n_tr.toInt ≤ 60 ∧ 0 ≤ n_ho.toInt ∧ n_ho.toInt ≤ 300) (yv : 0 ≤ v2.toInt ∧ v2.toInt ≤ 359) (t_2 : (300 : Int) ≤ n_ho.toInt) : (n_ho.toInt < 300 ∧ n_ho.toInt = n_ho.toInt + 1) ∨ (n_ho.toInt = 300 ∧ n_ho.toInt = n_ho.toInt) := by
  have := rg_rng n_tr; have := rg_rng n_ho; have := rg_rng v2; omega
theorem lg_X2_drill_7 (n_tr : Int32) (n_ho : Int32) (v2 : Int32) (yg : 0 ≤ n_tr.toInt ∧ n_tr.toInt ≤ 60 ∧ 0 ≤ n_ho.toInt ∧ n_ho.toInt ≤ 300) (yv : 0 ≤ v2.toInt ∧ v2.toInt ≤ 359) (t_2 : (300 : Int) ≤ n_ho.toInt) : n_ho.toInt = n_ho.toInt := by
  have := rg_rng n_tr; have := rg_rng n_ho; have := rg_rng v2; omega
theorem lg_X2_drill_8 (n_tr : Int32) (n_ho : Int32) (v2 : Int32) (yg : 0 ≤ n_tr.toInt ∧ n_tr.toInt ≤ 60 ∧ 0 ≤ n_ho.toInt ∧ n_ho.toInt ≤ 300) (yv : 0 ≤ v2.toInt ∧ v2.toInt ≤ 359) (t_2 : (300 : Int) ≤ n_ho.toInt) : n_ho.toInt = 300 := by
  have := rg_rng n_tr; have := rg_rng n_ho; have := rg_rng v2; omega
set_option maxHeartbeats 4000000 in
set_option maxRecDepth 100000 in
theorem kX2_drill (l : Launch) (dC : Nat → ClassId) (dI : Nat → Nat → Nat) (sz : Nat) (h0 : Nat) (g_node : Nat) (g_girth : Nat) (g_gave : Nat) (g_holeTree : Nat) (g_holeAngle : Nat) (g_holeYear : Nat) (n_tr : Int32) (n_ho : Int32) (k_holeTree : ClassId) (k_holeAngle : ClassId) (k_holeYear : ClassId) (f_holeTree : Nat → Int32) (f_holeAngle : Nat → Int32) (f_holeYear : Nat → Int32) (v1 : Int32) (v2 : Int32) (v3 : Int32) (yg : 0 ≤ n_tr.toInt ∧ n_tr.toInt ≤ 60 ∧ 0 ≤ n_ho.toInt ∧ n_ho.toInt ≤ 300) (yan : Rg f_holeAngle 300 0 359) (yv : 0 ≤ v2.toInt ∧ v2.toInt ≤ 359) : Met l yX2_drill (Cond.code yX2_drill cX2_drill 4 (some .boolean) :: bg) ({ frames := 0, cells := 0, slots := 0, locals := 0 }) (pcW dC dI [.ref h0, .int v1, .int v2, .int v3] sz [(h0, .inr (2, [.ref g_node, .ref g_girth, .ref g_gave, .ref g_holeTree, .ref g_holeAngle, .ref g_holeYear, .int n_tr, .int n_ho])), (g_holeTree, .inl (k_holeTree, 300, .inl f_holeTree)), (g_holeAngle, .inl (k_holeAngle, 300, .inl f_holeAngle)), (g_holeYear, .inl (k_holeYear, 300, .inl f_holeYear))] [(k_holeTree, .int), (k_holeAngle, .int), (k_holeYear, .int)]) (va_Qi (fun (r : Int32) (u : Unit) => (r = 1 ∧ n_ho.toInt < 300) ∨ (r = 0 ∧ n_ho.toInt = 300)) (fun (u : Unit) (t : State) => ∃ (w_ho : Int32) (w_holeTree : Nat → Int32) (w_holeAngle : Nat → Int32) (w_holeYear : Nat → Int32), ((n_ho.toInt < 300 ∧ w_ho.toInt = n_ho.toInt + 1) ∨ (n_ho.toInt = 300 ∧ w_ho.toInt = n_ho.toInt)) ∧ Rg w_holeAngle 300 0 359 ∧ Ua w_holeTree f_holeTree n_ho v1 w_ho ∧ Ua w_holeAngle f_holeAngle n_ho v2 w_ho ∧ Ua w_holeYear f_holeYear n_ho v3 w_ho ∧ va_P (dC, dI) vwCl [(h0, .inr (2, [.ref g_node, .ref g_girth, .ref g_gave, .ref g_holeTree, .ref g_holeAngle, .ref g_holeYear, .int n_tr, .int w_ho])), (g_holeTree, .inl (k_holeTree, 300, .inl w_holeTree)), (g_holeAngle, .inl (k_holeAngle, 300, .inl w_holeAngle)), (g_holeYear, .inl (k_holeYear, 300, .inl w_holeYear))] t.heap ∧ va_K (dC, dI) vwCl [] t ∧ va_D (va_A [(h0, .inr (2, [.ref g_node, .ref g_girth, .ref g_gave, .ref g_holeTree, .ref g_holeAngle, .ref g_holeYear, .int n_tr, .int n_ho])), (g_holeTree, .inl (k_holeTree, 300, .inl f_holeTree)), (g_holeAngle, .inl (k_holeAngle, 300, .inl f_holeAngle)), (g_holeYear, .inl (k_holeYear, 300, .inl f_holeYear))] sz) [(h0, .inr (2, [.ref g_node, .ref g_girth, .ref g_gave, .ref g_holeTree, .ref g_holeAngle, .ref g_holeYear, .int n_tr, .int w_ho])), (g_holeTree, .inl (k_holeTree, 300, .inl w_holeTree)), (g_holeAngle, .inl (k_holeAngle, 300, .inl w_holeAngle)), (g_holeYear, .inl (k_holeYear, 300, .inl w_holeYear))]) (va_A [(h0, .inr (2, [.ref g_node, .ref g_girth, .ref g_gave, .ref g_holeTree, .ref g_holeAngle, .ref g_holeYear, .int n_tr, .int n_ho])), (g_holeTree, .inl (k_holeTree, 300, .inl f_holeTree)), (g_holeAngle, .inl (k_holeAngle, 300, .inl f_holeAngle)), (g_holeYear, .inl (k_holeYear, 300, .inl f_holeYear))] sz)) 0 0 (va_A [(h0, .inr (2, [.ref g_node, .ref g_girth, .ref g_gave, .ref g_holeTree, .ref g_holeAngle, .ref g_holeYear, .int n_tr, .int n_ho])), (g_holeTree, .inl (k_holeTree, 300, .inl f_holeTree)), (g_holeAngle, .inl (k_holeAngle, 300, .inl f_holeAngle)), (g_holeYear, .inl (k_holeYear, 300, .inl f_holeYear))] sz) := by
  refine Met.ofW (cc := cX2_drill) (maxL := 4) (ret := (some .boolean)) pnX2 rfl ?_
  intro p e s m args below meth c s₁ B hml hv
  obtain ⟨rfl, hsz, hP, hK, hD0, hN⟩ := hv
  have hx := B.exec
  have hb := B.bytes
  have hr := B.returns
  have htb : ∀ w ∈ bg, w.before [.ref h0, .int v1, .int v2, .int v3].toArray s = true := fun w h => atoms_spec (ws := Cond.code yX2_drill cX2_drill 4 (some .boolean) :: bg) B.pre w (List.mem_cons_of_mem _ h)
  have hown : s.vm.findClass RX2 = some m.cls := findClass_of_methodNamed B.named
  have hlocks := B.notSynchronized
  subst hsz
  have hD := hD0.self (sz := s.heap.size)
  generalize hAe : va_A [(h0, .inr (2, [.ref g_node, .ref g_girth, .ref g_gave, .ref g_holeTree, .ref g_holeAngle, .ref g_holeYear, .int n_tr, .int n_ho])), (g_holeTree, .inl (k_holeTree, 300, .inl f_holeTree)), (g_holeAngle, .inl (k_holeAngle, 300, .inl f_holeAngle)), (g_holeYear, .inl (k_holeYear, 300, .inl f_holeYear))] s.heap.size = A at hD ⊢
  have hA : ∀ q : Nat, s.heap.size ≤ q → A q := fun q h => by rw [← hAe]; exact Or.inr h
  have hS : va_S A s.heap s.heap [] := va_S.rf
  have hl := lv_entry ([.ref h0, .int v1, .int v2, .int v3]) (n := 4) (Nat.le_of_ble_eq_true rfl)
  rw [lg_entry_eq]
  generalize (lg_sl ([.ref h0, .int v1, .int v2, .int v3]) ++ List.replicate (4 - (lg_sl ([.ref h0, .int v1, .int v2, .int v3])).length) Slot.unset).toArray = ls at hl ⊢
  change lv_has ls 4 [(0, .ref h0), (1, .int v1), (2, .int v2), (3, .int v3)] at hl
  clear hD0 hAe
  refine go0 (wsP := fun H => va_P (dC, dI) vwCl [(h0, .inr (2, [.ref g_node, .ref g_girth, .ref g_gave, .ref g_holeTree, .ref g_holeAngle, .ref g_holeYear, .int n_tr, .int n_ho])), (g_holeTree, .inl (k_holeTree, 300, .inl f_holeTree)), (g_holeAngle, .inl (k_holeAngle, 300, .inl f_holeAngle)), (g_holeYear, .inl (k_holeYear, 300, .inl f_holeYear))] H) hP hS ?_
  clear hP hS; intro H locs hP hS
  change va_P (dC, dI) vwCl [(h0, .inr (2, [.ref g_node, .ref g_girth, .ref g_gave, .ref g_holeTree, .ref g_holeAngle, .ref g_holeYear, .int n_tr, .int n_ho])), (g_holeTree, .inl (k_holeTree, 300, .inl f_holeTree)), (g_holeAngle, .inl (k_holeAngle, 300, .inl f_holeAngle)), (g_holeYear, .inl (k_holeYear, 300, .inl f_holeYear))] H at hP
  refine lv_aload_n hx hb dX2_drill_0 rfl (lv_at hl 0 rfl) ?_
  refine va_get (D := (dC, dI)) (ci := 2) (v := .int n_ho) (C := RX2) (T := TX2) (N := 8) hx hb htb iX2 hown hK hP 0 rfl rfl 7 (Nat.le_of_ble_eq_true rfl) (htb _ m_79) (fun _ h9 => h9) rfl dX2_drill_1 ?_
  refine lv_sipush (v := 300) hx hb dX2_drill_4 (by decide) ?_
  refine lv_icmp_lt (tgt := 12) hx hb dX2_drill_7 (by decide) (fun c_1 => ?_) (fun c_1 => ?_)
  · have t_2 : n_ho.toInt < (300 : Int) := i_lt rfl (by decide) c_1
    refine lv_aload_n hx hb dX2_drill_12 rfl (lv_at hl 0 rfl) ?_
    refine va_get (D := (dC, dI)) (ci := 2) (v := .ref g_holeTree) (C := RX2) (T := TX2) (N := 8) hx hb htb iX2 hown hK hP 0 rfl rfl 3 (Nat.le_of_ble_eq_true rfl) (htb _ m_74) (fun _ h9 => h9) rfl dX2_drill_13 ?_
    refine lv_aload_n hx hb dX2_drill_16 rfl (lv_at hl 0 rfl) ?_
    refine va_get (D := (dC, dI)) (ci := 2) (v := .int n_ho) (C := RX2) (T := TX2) (N := 8) hx hb htb iX2 hown hK hP 0 rfl rfl 7 (Nat.le_of_ble_eq_true rfl) (htb _ m_79) (fun _ h9 => h9) rfl dX2_drill_17 ?_
    refine lv_iload_n hx hb dX2_drill_20 rfl (lv_at hl 1 rfl) ?_
    refine va_iast hx hb hK hP hD hS 1 0 rfl rfl (i_in rfl (lg_X2_drill_0 n_tr n_ho v2 yg yv t_2)) dX2_drill_21 ?_
    clear hP hD hS; intro H locs hP hD hS
    change va_P (dC, dI) vwCl [(h0, .inr (2, [.ref g_node, .ref g_girth, .ref g_gave, .ref g_holeTree, .ref g_holeAngle, .ref g_holeYear, .int n_tr, .int n_ho])), (g_holeTree, .inl (k_holeTree, 300, .inl (upd f_holeTree (Int32.toNatClampNeg n_ho) v1))), (g_holeAngle, .inl (k_holeAngle, 300, .inl f_holeAngle)), (g_holeYear, .inl (k_holeYear, 300, .inl f_holeYear))] H at hP
    change va_D A [(h0, .inr (2, [.ref g_node, .ref g_girth, .ref g_gave, .ref g_holeTree, .ref g_holeAngle, .ref g_holeYear, .int n_tr, .int n_ho])), (g_holeTree, .inl (k_holeTree, 300, .inl (upd f_holeTree (Int32.toNatClampNeg n_ho) v1))), (g_holeAngle, .inl (k_holeAngle, 300, .inl f_holeAngle)), (g_holeYear, .inl (k_holeYear, 300, .inl f_holeYear))] at hD
    generalize hG_4 : upd f_holeTree (Int32.toNatClampNeg n_ho) v1 = g_3 at hP hD
    refine lv_aload_n hx hb dX2_drill_22 rfl (lv_at hl 0 rfl) ?_
    refine va_get (D := (dC, dI)) (ci := 2) (v := .ref g_holeAngle) (C := RX2) (T := TX2) (N := 8) hx hb htb iX2 hown hK hP 0 rfl rfl 4 (Nat.le_of_ble_eq_true rfl) (htb _ m_75) (fun _ h9 => h9) rfl dX2_drill_23 ?_
    refine lv_aload_n hx hb dX2_drill_26 rfl (lv_at hl 0 rfl) ?_
    refine va_get (D := (dC, dI)) (ci := 2) (v := .int n_ho) (C := RX2) (T := TX2) (N := 8) hx hb htb iX2 hown hK hP 0 rfl rfl 7 (Nat.le_of_ble_eq_true rfl) (htb _ m_79) (fun _ h9 => h9) rfl dX2_drill_27 ?_
    refine lv_iload_n hx hb dX2_drill_30 rfl (lv_at hl 2 rfl) ?_
    refine va_iast hx hb hK hP hD hS 2 1 rfl rfl (i_in rfl (lg_X2_drill_0 n_tr n_ho v2 yg yv t_2)) dX2_drill_31 ?_
    clear hP hD hS; intro H locs hP hD hS
    change va_P (dC, dI) vwCl [(h0, .inr (2, [.ref g_node, .ref g_girth, .ref g_gave, .ref g_holeTree, .ref g_holeAngle, .ref g_holeYear, .int n_tr, .int n_ho])), (g_holeTree, .inl (k_holeTree, 300, .inl g_3)), (g_holeAngle, .inl (k_holeAngle, 300, .inl (upd f_holeAngle (Int32.toNatClampNeg n_ho) v2))), (g_holeYear, .inl (k_holeYear, 300, .inl f_holeYear))] H at hP
    change va_D A [(h0, .inr (2, [.ref g_node, .ref g_girth, .ref g_gave, .ref g_holeTree, .ref g_holeAngle, .ref g_holeYear, .int n_tr, .int n_ho])), (g_holeTree, .inl (k_holeTree, 300, .inl g_3)), (g_holeAngle, .inl (k_holeAngle, 300, .inl (upd f_holeAngle (Int32.toNatClampNeg n_ho) v2))), (g_holeYear, .inl (k_holeYear, 300, .inl f_holeYear))] at hD
    have hR_6 : Rg (upd f_holeAngle (Int32.toNatClampNeg n_ho) v2) 300 0 359 := Rg_st yan rfl (lg_X2_drill_1 n_tr n_ho v2 yg yv t_2)
    generalize hG_7 : upd f_holeAngle (Int32.toNatClampNeg n_ho) v2 = g_5 at hP hD hR_6
    refine lv_aload_n hx hb dX2_drill_32 rfl (lv_at hl 0 rfl) ?_
    refine va_get (D := (dC, dI)) (ci := 2) (v := .ref g_holeYear) (C := RX2) (T := TX2) (N := 8) hx hb htb iX2 hown hK hP 0 rfl rfl 5 (Nat.le_of_ble_eq_true rfl) (htb _ m_76) (fun _ h9 => h9) rfl dX2_drill_33 ?_
    refine lv_aload_n hx hb dX2_drill_36 rfl (lv_at hl 0 rfl) ?_
    refine va_get (D := (dC, dI)) (ci := 2) (v := .int n_ho) (C := RX2) (T := TX2) (N := 8) hx hb htb iX2 hown hK hP 0 rfl rfl 7 (Nat.le_of_ble_eq_true rfl) (htb _ m_79) (fun _ h9 => h9) rfl dX2_drill_37 ?_
    refine lv_iload_n hx hb dX2_drill_40 rfl (lv_at hl 3 rfl) ?_
    refine va_iast hx hb hK hP hD hS 3 2 rfl rfl (i_in rfl (lg_X2_drill_0 n_tr n_ho v2 yg yv t_2)) dX2_drill_41 ?_
    clear hP hD hS; intro H locs hP hD hS
    change va_P (dC, dI) vwCl [(h0, .inr (2, [.ref g_node, .ref g_girth, .ref g_gave, .ref g_holeTree, .ref g_holeAngle, .ref g_holeYear, .int n_tr, .int n_ho])), (g_holeTree, .inl (k_holeTree, 300, .inl g_3)), (g_holeAngle, .inl (k_holeAngle, 300, .inl g_5)), (g_holeYear, .inl (k_holeYear, 300, .inl (upd f_holeYear (Int32.toNatClampNeg n_ho) v3)))] H at hP
    change va_D A [(h0, .inr (2, [.ref g_node, .ref g_girth, .ref g_gave, .ref g_holeTree, .ref g_holeAngle, .ref g_holeYear, .int n_tr, .int n_ho])), (g_holeTree, .inl (k_holeTree, 300, .inl g_3)), (g_holeAngle, .inl (k_holeAngle, 300, .inl g_5)), (g_holeYear, .inl (k_holeYear, 300, .inl (upd f_holeYear (Int32.toNatClampNeg n_ho) v3)))] at hD
    generalize hG_9 : upd f_holeYear (Int32.toNatClampNeg n_ho) v3 = g_8 at hP hD
    refine lv_aload_n hx hb dX2_drill_42 rfl (lv_at hl 0 rfl) ?_
    refine lv_dup hx hb dX2_drill_43 rfl ?_
    refine va_get (D := (dC, dI)) (ci := 2) (v := .int n_ho) (C := RX2) (T := TX2) (N := 8) hx hb htb iX2 hown hK hP 0 rfl rfl 7 (Nat.le_of_ble_eq_true rfl) (htb _ m_79) (fun _ h9 => h9) rfl dX2_drill_44 ?_
    refine lv_iconst (v := 1) hx hb dX2_drill_47 (by decide) ?_
    refine lv_iadd hx hb dX2_drill_48 ?_
    refine lv_topi (fun x_10 ex_11 => ?_)
    have t_12 : x_10.toInt = n_ho.toInt + (1 : Int) := i_add rfl (by decide) (lg_X2_drill_2 n_tr n_ho v2 yg yv t_2) ex_11
    refine va_put (D := (dC, dI)) (ci := 2) (v := .int x_10) (C := RX2) (T := TX2) (N := 8) hx hb htb iX2 tyX2 tyX2_ok nmX2 hown hK hP hD hS 0 rfl rfl 7 (Nat.le_of_ble_eq_true rfl) (htb _ m_79) (fun _ h9 => h9) rfl (tyX2_ok 7 (Nat.le_of_ble_eq_true rfl)) rfl rfl (Nat.le_of_ble_eq_true rfl) dX2_drill_49 ?_
    clear hP hD hS; intro H locs hP hD hS
    change va_P (dC, dI) vwCl [(h0, .inr (2, [.ref g_node, .ref g_girth, .ref g_gave, .ref g_holeTree, .ref g_holeAngle, .ref g_holeYear, .int n_tr, .int x_10])), (g_holeTree, .inl (k_holeTree, 300, .inl g_3)), (g_holeAngle, .inl (k_holeAngle, 300, .inl g_5)), (g_holeYear, .inl (k_holeYear, 300, .inl g_8))] H at hP
    change va_D A [(h0, .inr (2, [.ref g_node, .ref g_girth, .ref g_gave, .ref g_holeTree, .ref g_holeAngle, .ref g_holeYear, .int n_tr, .int x_10])), (g_holeTree, .inl (k_holeTree, 300, .inl g_3)), (g_holeAngle, .inl (k_holeAngle, 300, .inl g_5)), (g_holeYear, .inl (k_holeYear, 300, .inl g_8))] at hD
    refine lv_iconst (v := 1) hx hb dX2_drill_52 (by decide) ?_
    refine W.widen (k := 0) (n := 0) (Nat.le_of_ble_eq_true rfl) (Nat.le_of_ble_eq_true rfl) ?_
    have hP9 := hP.sub (ws' := [(h0, .inr (2, [.ref g_node, .ref g_girth, .ref g_gave, .ref g_holeTree, .ref g_holeAngle, .ref g_holeYear, .int n_tr, .int x_10])), (g_holeTree, .inl (k_holeTree, 300, .inl g_3)), (g_holeAngle, .inl (k_holeAngle, 300, .inl g_5)), (g_holeYear, .inl (k_holeYear, 300, .inl g_8))]) [0, 1, 2, 3] rfl
    have hD9 := hD.sub (ws' := [(h0, .inr (2, [.ref g_node, .ref g_girth, .ref g_gave, .ref g_holeTree, .ref g_holeAngle, .ref g_holeYear, .int n_tr, .int x_10])), (g_holeTree, .inl (k_holeTree, 300, .inl g_3)), (g_holeAngle, .inl (k_holeAngle, 300, .inl g_5)), (g_holeYear, .inl (k_holeYear, 300, .inl g_8))]) [0, 1, 2, 3] (by decide) rfl
    have hK9 := hK.sub (tys' := []) [] rfl
    exact W.zret (ty := .boolean) (v := 1) hx hb hr rfl (fun t ht hW => ⟨⟨1, (), rfl, (Or.inl ⟨rfl, (lg_X2_drill_5 n_tr n_ho v2 x_10 yg yv t_2 t_12)⟩), ⟨x_10, g_3, g_5, g_8, (lg_X2_drill_3 n_tr n_ho v2 x_10 yg yv t_2 t_12), hR_6, (Ua_u (lg_X2_drill_4 n_tr n_ho v2 x_10 yg yv t_2 t_12) hG_4), (Ua_u (lg_X2_drill_4 n_tr n_ho v2 x_10 yg yv t_2 t_12) hG_7), (Ua_u (lg_X2_drill_4 n_tr n_ho v2 x_10 yg yv t_2 t_12) hG_9), by rw [ht]; exact hP9, va_K.moved hW.alike hK9, hD9⟩⟩, hS.F ht⟩) hS.2.2 dX2_drill_53
  · have t_2 : (300 : Int) ≤ n_ho.toInt := i_nlt rfl (by decide) c_1
    refine lv_iconst (v := 0) hx hb dX2_drill_10 (by decide) ?_
    refine W.widen (k := 0) (n := 0) (Nat.le_of_ble_eq_true rfl) (Nat.le_of_ble_eq_true rfl) ?_
    have hP9 := hP.sub (ws' := [(h0, .inr (2, [.ref g_node, .ref g_girth, .ref g_gave, .ref g_holeTree, .ref g_holeAngle, .ref g_holeYear, .int n_tr, .int n_ho])), (g_holeTree, .inl (k_holeTree, 300, .inl f_holeTree)), (g_holeAngle, .inl (k_holeAngle, 300, .inl f_holeAngle)), (g_holeYear, .inl (k_holeYear, 300, .inl f_holeYear))]) [0, 1, 2, 3] rfl
    have hD9 := hD.sub (ws' := [(h0, .inr (2, [.ref g_node, .ref g_girth, .ref g_gave, .ref g_holeTree, .ref g_holeAngle, .ref g_holeYear, .int n_tr, .int n_ho])), (g_holeTree, .inl (k_holeTree, 300, .inl f_holeTree)), (g_holeAngle, .inl (k_holeAngle, 300, .inl f_holeAngle)), (g_holeYear, .inl (k_holeYear, 300, .inl f_holeYear))]) [0, 1, 2, 3] (by decide) rfl
    have hK9 := hK.sub (tys' := []) [] rfl
    exact W.zret (ty := .boolean) (v := 0) hx hb hr rfl (fun t ht hW => ⟨⟨0, (), rfl, (Or.inr (⟨rfl, (lg_X2_drill_8 n_tr n_ho v2 yg yv t_2)⟩)), ⟨n_ho, f_holeTree, f_holeAngle, f_holeYear, (lg_X2_drill_6 n_tr n_ho v2 yg yv t_2), yan, (Ua_s (lg_X2_drill_7 n_tr n_ho v2 yg yv t_2)), (Ua_s (lg_X2_drill_7 n_tr n_ho v2 yg yv t_2)), (Ua_s (lg_X2_drill_7 n_tr n_ho v2 yg yv t_2)), by rw [ht]; exact hP9, va_K.moved hW.alike hK9, hD9⟩⟩, hS.F ht⟩) hS.2.2 dX2_drill_11

theorem lg_X10_runsHome_0 (n_tb : Int32) (v1 : Int32) (yb : 1 ≤ n_tb.toInt ∧ n_tb.toInt ≤ 40) (h_2 : 0 ≤ v1.toInt ∧ v1.toInt < n_tb.toInt) : 0 ≤ v1.toInt ∧ v1.toInt < ((40 : Nat) : Int) := by
  have := rg_rng n_tb; have := rg_rng v1; omega
theorem lg_X10_runsHome_1 (n_tb : Int32) (v1 : Int32) (x_4 : Int32) (yb : 1 ≤ n_tb.toInt ∧ n_tb.toInt ≤ 40) (h_2 : 0 ≤ v1.toInt ∧ v1.toInt < n_tb.toInt) (t_7 : x_4.toInt = (0 : Int)) : True := by
  have := rg_rng n_tb; have := rg_rng v1; have := rg_rng x_4; trivial
theorem lg_X10_runsHome_2 (n_tb : Int32) (v1 : Int32) (x_4 : Int32) (yb : 1 ≤ n_tb.toInt ∧ n_tb.toInt ≤ 40) (h_2 : 0 ≤ v1.toInt ∧ v1.toInt < n_tb.toInt) (t_7 : ¬ x_4.toInt = (0 : Int)) : True := by
  have := rg_rng n_tb; have := rg_rng v1; have := rg_rng x_4; trivial
theorem lg_X10_runsHome_3 (n_tb : Int32) (v1 : Int32) (yb : 1 ≤ n_tb.toInt ∧ n_tb.toInt ≤ 40) (h_2 : ¬ (0 ≤ v1.toInt ∧ v1.toInt < n_tb.toInt)) : True := by
  have := rg_rng n_tb; have := rg_rng v1; trivial
set_option maxHeartbeats 4000000 in
set_option maxRecDepth 100000 in
theorem kX10_runsHome (l : Launch) (dC : Nat → ClassId) (dI : Nat → Nat → Nat) (sz : Nat) (h0 : Nat) (t_to : Nat) (t_height : Nat) (t_member : Nat) (t_lengthHome : Nat) (t_runs : Nat) (t_leak : Nat) (t_vacuum : Nat) (t_reading : Nat) (n_tb : Int32) (k_runs : ClassId) (f_runs : Nat → Int32) (v1 : Int32) (yb : 1 ≤ n_tb.toInt ∧ n_tb.toInt ≤ 40) : Met l yX10_runsHome (Cond.code yX10_runsHome cX10_runsHome 2 (some .boolean) :: bg) ({ frames := 1, cells := 0, slots := 0, locals := 21 }) (pcW dC dI [.ref h0, .int v1] sz [(h0, .inr (10, [.ref t_to, .ref t_height, .ref t_member, .ref t_lengthHome, .ref t_runs, .ref t_leak, .ref t_vacuum, .ref t_reading, .int n_tb])), (t_runs, .inl (k_runs, 40, .inl f_runs))] [(k_runs, .boolean)]) (va_Qi (fun (r : Int32) (u : Unit) => (r = 1 ∧ True) ∨ (r = 0 ∧ True)) (fun (u : Unit) (t : State) => va_P (dC, dI) vwCl [(h0, .inr (10, [.ref t_to, .ref t_height, .ref t_member, .ref t_lengthHome, .ref t_runs, .ref t_leak, .ref t_vacuum, .ref t_reading, .int n_tb])), (t_runs, .inl (k_runs, 40, .inl f_runs))] t.heap ∧ va_K (dC, dI) vwCl [(k_runs, .boolean)] t ∧ va_D (va_A [(h0, .inr (10, [.ref t_to, .ref t_height, .ref t_member, .ref t_lengthHome, .ref t_runs, .ref t_leak, .ref t_vacuum, .ref t_reading, .int n_tb])), (t_runs, .inl (k_runs, 40, .inl f_runs))] sz) [(h0, .inr (10, [.ref t_to, .ref t_height, .ref t_member, .ref t_lengthHome, .ref t_runs, .ref t_leak, .ref t_vacuum, .ref t_reading, .int n_tb])), (t_runs, .inl (k_runs, 40, .inl f_runs))]) (va_A [(h0, .inr (10, [.ref t_to, .ref t_height, .ref t_member, .ref t_lengthHome, .ref t_runs, .ref t_leak, .ref t_vacuum, .ref t_reading, .int n_tb])), (t_runs, .inl (k_runs, 40, .inl f_runs))] sz)) 0 0 (va_A [(h0, .inr (10, [.ref t_to, .ref t_height, .ref t_member, .ref t_lengthHome, .ref t_runs, .ref t_leak, .ref t_vacuum, .ref t_reading, .int n_tb])), (t_runs, .inl (k_runs, 40, .inl f_runs))] sz) := by
  refine Met.ofW (cc := cX10_runsHome) (maxL := 2) (ret := (some .boolean)) pnX10 rfl ?_
  intro p e s m args below meth c s₁ B hml hv
  obtain ⟨rfl, hsz, hP, hK, hD0, hN⟩ := hv
  have hx := B.exec
  have hb := B.bytes
  have hr := B.returns
  have htb : ∀ w ∈ bg, w.before [.ref h0, .int v1].toArray s = true := fun w h => atoms_spec (ws := Cond.code yX10_runsHome cX10_runsHome 2 (some .boolean) :: bg) B.pre w (List.mem_cons_of_mem _ h)
  have hown : s.vm.findClass RX10 = some m.cls := findClass_of_methodNamed B.named
  have hlocks := B.notSynchronized
  subst hsz
  have hD := hD0.self (sz := s.heap.size)
  generalize hAe : va_A [(h0, .inr (10, [.ref t_to, .ref t_height, .ref t_member, .ref t_lengthHome, .ref t_runs, .ref t_leak, .ref t_vacuum, .ref t_reading, .int n_tb])), (t_runs, .inl (k_runs, 40, .inl f_runs))] s.heap.size = A at hD ⊢
  have hA : ∀ q : Nat, s.heap.size ≤ q → A q := fun q h => by rw [← hAe]; exact Or.inr h
  have hS : va_S A s.heap s.heap [] := va_S.rf
  have hl := lv_entry ([.ref h0, .int v1]) (n := 2) (Nat.le_of_ble_eq_true rfl)
  rw [lg_entry_eq]
  generalize (lg_sl ([.ref h0, .int v1]) ++ List.replicate (2 - (lg_sl ([.ref h0, .int v1])).length) Slot.unset).toArray = ls at hl ⊢
  change lv_has ls 2 [(0, .ref h0), (1, .int v1)] at hl
  clear hD0 hAe
  refine go0 (wsP := fun H => va_P (dC, dI) vwCl [(h0, .inr (10, [.ref t_to, .ref t_height, .ref t_member, .ref t_lengthHome, .ref t_runs, .ref t_leak, .ref t_vacuum, .ref t_reading, .int n_tb])), (t_runs, .inl (k_runs, 40, .inl f_runs))] H) hP hS ?_
  clear hP hS; intro H locs hP hS
  change va_P (dC, dI) vwCl [(h0, .inr (10, [.ref t_to, .ref t_height, .ref t_member, .ref t_lengthHome, .ref t_runs, .ref t_leak, .ref t_vacuum, .ref t_reading, .int n_tb])), (t_runs, .inl (k_runs, 40, .inl f_runs))] H at hP
  refine lv_aload_n hx hb dX10_runsHome_0 rfl (lv_at hl 0 rfl) ?_
  refine lv_iload_n hx hb dX10_runsHome_1 rfl (lv_at hl 1 rfl) ?_
  have hPc := hP.sub (ws' := [(h0, .inr (10, [.ref t_to, .ref t_height, .ref t_member, .ref t_lengthHome, .ref t_runs, .ref t_leak, .ref t_vacuum, .ref t_reading, .int n_tb]))]) [0] rfl
  have hDc := hD.sub (ws' := [(h0, .inr (10, [.ref t_to, .ref t_height, .ref t_member, .ref t_lengthHome, .ref t_runs, .ref t_leak, .ref t_vacuum, .ref t_reading, .int n_tb]))]) [0] (by decide) rfl
  have hKc := hK.sub (tys' := []) [] rfl
  have hFc := va_free (wc := [(h0, .inr (10, [.ref t_to, .ref t_height, .ref t_member, .ref t_lengthHome, .ref t_runs, .ref t_leak, .ref t_vacuum, .ref t_reading, .int n_tb]))]) hD hS hA [0] rfl
  refine va_calli (va_runV (C := RX10) (As := [.int v1]) (rest := []) ⟨hx, hb, hml, hown, htb⟩ (kX10_has l dC dI H.size h0 t_to t_height t_member t_lengthHome t_runs t_leak t_vacuum t_reading n_tb v1 ) ⟨callB_of 1 htb (gd_c m_352) rfl rfl rfl (htb _ m_2) (htb _ m_363) hdX10_has ⟨(Nat.le_of_ble_eq_true rfl), (Nat.le_of_ble_eq_true rfl)⟩, htb _ m_350, htb _ m_351⟩ ⟨pcW_blind, va_recv hKc hPc (ci := 10) (q0 := 0) rfl rfl, pcW_at hPc hKc hDc hN⟩ rfl rfl hl.1 rfl (lv_room (Nat.le_of_ble_eq_true rfl)) dX10_runsHome_2 ⟨(Nat.le_of_ble_eq_true rfl), (Nat.le_of_ble_eq_true rfl)⟩) hS (fun q _ h => hFc q h) hFc (fun r_1 u t H1 locs1 ht hvm h_2 hB hz1 hk1 hS1 => ?_)
  obtain ⟨hP1, hK1, hD1⟩ := hB
  rw [ht] at hP1
  obtain ⟨hPn, hDn⟩ := va_join (wr := [(t_runs, .inl (k_runs, 40, .inl f_runs))]) (w1 := [(h0, .inr (10, [.ref t_to, .ref t_height, .ref t_member, .ref t_lengthHome, .ref t_runs, .ref t_leak, .ref t_vacuum, .ref t_reading, .int n_tb]))]) hP hD [0] [1] rfl rfl (by decide) (by decide) hk1 hFc hP1 hD1
  clear hP1 hD1 hK1
  clear hP hD hS hPc hDc hKc hFc hk1 hz1 ht hvm
  clear t
  revert hS1 hPn hDn; generalize H1 = H; generalize locs1 = locs; intro hS hP hD
  change va_P (dC, dI) vwCl [(t_runs, .inl (k_runs, 40, .inl f_runs)), (h0, .inr (10, [.ref t_to, .ref t_height, .ref t_member, .ref t_lengthHome, .ref t_runs, .ref t_leak, .ref t_vacuum, .ref t_reading, .int n_tb]))] H at hP
  change va_D A [(t_runs, .inl (k_runs, 40, .inl f_runs)), (h0, .inr (10, [.ref t_to, .ref t_height, .ref t_member, .ref t_lengthHome, .ref t_runs, .ref t_leak, .ref t_vacuum, .ref t_reading, .int n_tb]))] at hD
  rcases h_2 with ⟨rfl, h_2⟩ | ⟨rfl, h_2⟩
  · refine lv_if_eq (tgt := 21) hx hb dX10_runsHome_5 (by decide) (fun c_3 => absurd c_3 (by decide)) ?_
    intro _
    refine lv_aload_n hx hb dX10_runsHome_8 rfl (lv_at hl 0 rfl) ?_
    refine va_get (D := (dC, dI)) (ci := 10) (v := .ref t_runs) (C := RX10) (T := TX10) (N := 9) hx hb htb iX10 hown hK hP 1 rfl rfl 4 (Nat.le_of_ble_eq_true rfl) (htb _ m_38) (fun _ h9 => h9) rfl dX10_runsHome_9 ?_
    refine lv_iload_n hx hb dX10_runsHome_12 rfl (lv_at hl 1 rfl) ?_
    refine va_zald hx hb hK hP 0 0 rfl rfl (i_in rfl (lg_X10_runsHome_0 n_tb v1 yb h_2)) dX10_runsHome_13 ?_
    refine lv_topi (fun x_4 ex_5 => ?_)
    refine lv_if_eq (tgt := 21) hx hb dX10_runsHome_14 (by decide) (fun c_6 => ?_) (fun c_6 => ?_)
    · have t_7 : x_4.toInt = (0 : Int) := i_eq rfl (by decide) c_6
      refine lv_iconst (v := 0) hx hb dX10_runsHome_21 (by decide) ?_
      refine W.widen (k := 0) (n := 0) (Nat.le_of_ble_eq_true rfl) (Nat.le_of_ble_eq_true rfl) ?_
      have hP9 := hP.sub (ws' := [(h0, .inr (10, [.ref t_to, .ref t_height, .ref t_member, .ref t_lengthHome, .ref t_runs, .ref t_leak, .ref t_vacuum, .ref t_reading, .int n_tb])), (t_runs, .inl (k_runs, 40, .inl f_runs))]) [1, 0] rfl
      have hD9 := hD.sub (ws' := [(h0, .inr (10, [.ref t_to, .ref t_height, .ref t_member, .ref t_lengthHome, .ref t_runs, .ref t_leak, .ref t_vacuum, .ref t_reading, .int n_tb])), (t_runs, .inl (k_runs, 40, .inl f_runs))]) [1, 0] (by decide) rfl
      have hK9 := hK.sub (tys' := [(k_runs, .boolean)]) [0] rfl
      exact W.zret (ty := .boolean) (v := 0) hx hb hr rfl (fun t ht hW => ⟨⟨0, (), rfl, (Or.inr (⟨rfl, (lg_X10_runsHome_1 n_tb v1 x_4 yb h_2 t_7)⟩)), ⟨by rw [ht]; exact hP9, va_K.moved hW.alike hK9, hD9⟩⟩, hS.F ht⟩) hS.2.2 dX10_runsHome_22
    · have t_7 : ¬ x_4.toInt = (0 : Int) := i_ne rfl (by decide) c_6
      refine lv_iconst (v := 1) hx hb dX10_runsHome_17 (by decide) ?_
      refine lv_goto (tgt := 22) hx hb dX10_runsHome_18 (by decide) ?_
      refine W.widen (k := 0) (n := 0) (Nat.le_of_ble_eq_true rfl) (Nat.le_of_ble_eq_true rfl) ?_
      have hP9 := hP.sub (ws' := [(h0, .inr (10, [.ref t_to, .ref t_height, .ref t_member, .ref t_lengthHome, .ref t_runs, .ref t_leak, .ref t_vacuum, .ref t_reading, .int n_tb])), (t_runs, .inl (k_runs, 40, .inl f_runs))]) [1, 0] rfl
      have hD9 := hD.sub (ws' := [(h0, .inr (10, [.ref t_to, .ref t_height, .ref t_member, .ref t_lengthHome, .ref t_runs, .ref t_leak, .ref t_vacuum, .ref t_reading, .int n_tb])), (t_runs, .inl (k_runs, 40, .inl f_runs))]) [1, 0] (by decide) rfl
      have hK9 := hK.sub (tys' := [(k_runs, .boolean)]) [0] rfl
      exact W.zret (ty := .boolean) (v := 1) hx hb hr rfl (fun t ht hW => ⟨⟨1, (), rfl, (Or.inl ⟨rfl, (lg_X10_runsHome_2 n_tb v1 x_4 yb h_2 t_7)⟩), ⟨by rw [ht]; exact hP9, va_K.moved hW.alike hK9, hD9⟩⟩, hS.F ht⟩) hS.2.2 dX10_runsHome_22
  · refine lv_if_eq (tgt := 21) hx hb dX10_runsHome_5 (by decide) ?_ (fun c_8 => absurd (by decide) c_8)
    intro _
    refine lv_iconst (v := 0) hx hb dX10_runsHome_21 (by decide) ?_
    refine W.widen (k := 0) (n := 0) (Nat.le_of_ble_eq_true rfl) (Nat.le_of_ble_eq_true rfl) ?_
    have hP9 := hP.sub (ws' := [(h0, .inr (10, [.ref t_to, .ref t_height, .ref t_member, .ref t_lengthHome, .ref t_runs, .ref t_leak, .ref t_vacuum, .ref t_reading, .int n_tb])), (t_runs, .inl (k_runs, 40, .inl f_runs))]) [1, 0] rfl
    have hD9 := hD.sub (ws' := [(h0, .inr (10, [.ref t_to, .ref t_height, .ref t_member, .ref t_lengthHome, .ref t_runs, .ref t_leak, .ref t_vacuum, .ref t_reading, .int n_tb])), (t_runs, .inl (k_runs, 40, .inl f_runs))]) [1, 0] (by decide) rfl
    have hK9 := hK.sub (tys' := [(k_runs, .boolean)]) [0] rfl
    exact W.zret (ty := .boolean) (v := 0) hx hb hr rfl (fun t ht hW => ⟨⟨0, (), rfl, (Or.inr (⟨rfl, (lg_X10_runsHome_3 n_tb v1 yb h_2)⟩)), ⟨by rw [ht]; exact hP9, va_K.moved hW.alike hK9, hD9⟩⟩, hS.F ht⟩) hS.2.2 dX10_runsHome_22

theorem lg_X10_memberAt_0 (n_tb : Int32) (v1 : Int32) (yb : 1 ≤ n_tb.toInt ∧ n_tb.toInt ≤ 40) (h_2 : 0 ≤ v1.toInt ∧ v1.toInt < n_tb.toInt) : 0 ≤ v1.toInt ∧ v1.toInt < ((40 : Nat) : Int) := by
  have := rg_rng n_tb; have := rg_rng v1; omega
theorem lg_X10_memberAt_1 (n_tb : Int32) (v1 : Int32) (yb : 1 ≤ n_tb.toInt ∧ n_tb.toInt ≤ 40) (h_2 : 0 ≤ v1.toInt ∧ v1.toInt < n_tb.toInt) : True := by
  have := rg_rng n_tb; have := rg_rng v1; trivial
theorem lg_X10_memberAt_2 (n_tb : Int32) (v1 : Int32) (yb : 1 ≤ n_tb.toInt ∧ n_tb.toInt ≤ 40) (h_2 : ¬ (0 ≤ v1.toInt ∧ v1.toInt < n_tb.toInt)) : True := by
  have := rg_rng n_tb; have := rg_rng v1; trivial
set_option maxHeartbeats 4000000 in
set_option maxRecDepth 100000 in
theorem kX10_memberAt (l : Launch) (dC : Nat → ClassId) (dI : Nat → Nat → Nat) (sz : Nat) (h0 : Nat) (t_to : Nat) (t_height : Nat) (t_member : Nat) (t_lengthHome : Nat) (t_runs : Nat) (t_leak : Nat) (t_vacuum : Nat) (t_reading : Nat) (n_tb : Int32) (k_member : ClassId) (f_member : Nat → Int32) (v1 : Int32) (yb : 1 ≤ n_tb.toInt ∧ n_tb.toInt ≤ 40) : Met l yX10_memberAt (Cond.code yX10_memberAt cX10_memberAt 2 (some .int) :: bg) ({ frames := 1, cells := 0, slots := 0, locals := 21 }) (pcW dC dI [.ref h0, .int v1] sz [(h0, .inr (10, [.ref t_to, .ref t_height, .ref t_member, .ref t_lengthHome, .ref t_runs, .ref t_leak, .ref t_vacuum, .ref t_reading, .int n_tb])), (t_member, .inl (k_member, 40, .inl f_member))] [(k_member, .int)]) (va_Qi (fun (r : Int32) (u : Unit) => True) (fun (u : Unit) (t : State) => va_P (dC, dI) vwCl [(h0, .inr (10, [.ref t_to, .ref t_height, .ref t_member, .ref t_lengthHome, .ref t_runs, .ref t_leak, .ref t_vacuum, .ref t_reading, .int n_tb])), (t_member, .inl (k_member, 40, .inl f_member))] t.heap ∧ va_K (dC, dI) vwCl [(k_member, .int)] t ∧ va_D (va_A [(h0, .inr (10, [.ref t_to, .ref t_height, .ref t_member, .ref t_lengthHome, .ref t_runs, .ref t_leak, .ref t_vacuum, .ref t_reading, .int n_tb])), (t_member, .inl (k_member, 40, .inl f_member))] sz) [(h0, .inr (10, [.ref t_to, .ref t_height, .ref t_member, .ref t_lengthHome, .ref t_runs, .ref t_leak, .ref t_vacuum, .ref t_reading, .int n_tb])), (t_member, .inl (k_member, 40, .inl f_member))]) (va_A [(h0, .inr (10, [.ref t_to, .ref t_height, .ref t_member, .ref t_lengthHome, .ref t_runs, .ref t_leak, .ref t_vacuum, .ref t_reading, .int n_tb])), (t_member, .inl (k_member, 40, .inl f_member))] sz)) 0 0 (va_A [(h0, .inr (10, [.ref t_to, .ref t_height, .ref t_member, .ref t_lengthHome, .ref t_runs, .ref t_leak, .ref t_vacuum, .ref t_reading, .int n_tb])), (t_member, .inl (k_member, 40, .inl f_member))] sz) := by
  refine Met.ofW (cc := cX10_memberAt) (maxL := 2) (ret := (some .int)) pnX10 rfl ?_
  intro p e s m args below meth c s₁ B hml hv
  obtain ⟨rfl, hsz, hP, hK, hD0, hN⟩ := hv
  have hx := B.exec
  have hb := B.bytes
  have hr := B.returns
  have htb : ∀ w ∈ bg, w.before [.ref h0, .int v1].toArray s = true := fun w h => atoms_spec (ws := Cond.code yX10_memberAt cX10_memberAt 2 (some .int) :: bg) B.pre w (List.mem_cons_of_mem _ h)
  have hown : s.vm.findClass RX10 = some m.cls := findClass_of_methodNamed B.named
  have hlocks := B.notSynchronized
  subst hsz
  have hD := hD0.self (sz := s.heap.size)
  generalize hAe : va_A [(h0, .inr (10, [.ref t_to, .ref t_height, .ref t_member, .ref t_lengthHome, .ref t_runs, .ref t_leak, .ref t_vacuum, .ref t_reading, .int n_tb])), (t_member, .inl (k_member, 40, .inl f_member))] s.heap.size = A at hD ⊢
  have hA : ∀ q : Nat, s.heap.size ≤ q → A q := fun q h => by rw [← hAe]; exact Or.inr h
  have hS : va_S A s.heap s.heap [] := va_S.rf
  have hl := lv_entry ([.ref h0, .int v1]) (n := 2) (Nat.le_of_ble_eq_true rfl)
  rw [lg_entry_eq]
  generalize (lg_sl ([.ref h0, .int v1]) ++ List.replicate (2 - (lg_sl ([.ref h0, .int v1])).length) Slot.unset).toArray = ls at hl ⊢
  change lv_has ls 2 [(0, .ref h0), (1, .int v1)] at hl
  clear hD0 hAe
  refine go0 (wsP := fun H => va_P (dC, dI) vwCl [(h0, .inr (10, [.ref t_to, .ref t_height, .ref t_member, .ref t_lengthHome, .ref t_runs, .ref t_leak, .ref t_vacuum, .ref t_reading, .int n_tb])), (t_member, .inl (k_member, 40, .inl f_member))] H) hP hS ?_
  clear hP hS; intro H locs hP hS
  change va_P (dC, dI) vwCl [(h0, .inr (10, [.ref t_to, .ref t_height, .ref t_member, .ref t_lengthHome, .ref t_runs, .ref t_leak, .ref t_vacuum, .ref t_reading, .int n_tb])), (t_member, .inl (k_member, 40, .inl f_member))] H at hP
  refine lv_aload_n hx hb dX10_memberAt_0 rfl (lv_at hl 0 rfl) ?_
  refine lv_iload_n hx hb dX10_memberAt_1 rfl (lv_at hl 1 rfl) ?_
  have hPc := hP.sub (ws' := [(h0, .inr (10, [.ref t_to, .ref t_height, .ref t_member, .ref t_lengthHome, .ref t_runs, .ref t_leak, .ref t_vacuum, .ref t_reading, .int n_tb]))]) [0] rfl
  have hDc := hD.sub (ws' := [(h0, .inr (10, [.ref t_to, .ref t_height, .ref t_member, .ref t_lengthHome, .ref t_runs, .ref t_leak, .ref t_vacuum, .ref t_reading, .int n_tb]))]) [0] (by decide) rfl
  have hKc := hK.sub (tys' := []) [] rfl
  have hFc := va_free (wc := [(h0, .inr (10, [.ref t_to, .ref t_height, .ref t_member, .ref t_lengthHome, .ref t_runs, .ref t_leak, .ref t_vacuum, .ref t_reading, .int n_tb]))]) hD hS hA [0] rfl
  refine va_calli (va_runV (C := RX10) (As := [.int v1]) (rest := []) ⟨hx, hb, hml, hown, htb⟩ (kX10_has l dC dI H.size h0 t_to t_height t_member t_lengthHome t_runs t_leak t_vacuum t_reading n_tb v1 ) ⟨callB_of 1 htb (gd_c m_352) rfl rfl rfl (htb _ m_2) (htb _ m_363) hdX10_has ⟨(Nat.le_of_ble_eq_true rfl), (Nat.le_of_ble_eq_true rfl)⟩, htb _ m_350, htb _ m_351⟩ ⟨pcW_blind, va_recv hKc hPc (ci := 10) (q0 := 0) rfl rfl, pcW_at hPc hKc hDc hN⟩ rfl rfl hl.1 rfl (lv_room (Nat.le_of_ble_eq_true rfl)) dX10_memberAt_2 ⟨(Nat.le_of_ble_eq_true rfl), (Nat.le_of_ble_eq_true rfl)⟩) hS (fun q _ h => hFc q h) hFc (fun r_1 u t H1 locs1 ht hvm h_2 hB hz1 hk1 hS1 => ?_)
  obtain ⟨hP1, hK1, hD1⟩ := hB
  rw [ht] at hP1
  obtain ⟨hPn, hDn⟩ := va_join (wr := [(t_member, .inl (k_member, 40, .inl f_member))]) (w1 := [(h0, .inr (10, [.ref t_to, .ref t_height, .ref t_member, .ref t_lengthHome, .ref t_runs, .ref t_leak, .ref t_vacuum, .ref t_reading, .int n_tb]))]) hP hD [0] [1] rfl rfl (by decide) (by decide) hk1 hFc hP1 hD1
  clear hP1 hD1 hK1
  clear hP hD hS hPc hDc hKc hFc hk1 hz1 ht hvm
  clear t
  revert hS1 hPn hDn; generalize H1 = H; generalize locs1 = locs; intro hS hP hD
  change va_P (dC, dI) vwCl [(t_member, .inl (k_member, 40, .inl f_member)), (h0, .inr (10, [.ref t_to, .ref t_height, .ref t_member, .ref t_lengthHome, .ref t_runs, .ref t_leak, .ref t_vacuum, .ref t_reading, .int n_tb]))] H at hP
  change va_D A [(t_member, .inl (k_member, 40, .inl f_member)), (h0, .inr (10, [.ref t_to, .ref t_height, .ref t_member, .ref t_lengthHome, .ref t_runs, .ref t_leak, .ref t_vacuum, .ref t_reading, .int n_tb]))] at hD
  rcases h_2 with ⟨rfl, h_2⟩ | ⟨rfl, h_2⟩
  · refine lv_if_eq (tgt := 17) hx hb dX10_memberAt_5 (by decide) (fun c_3 => absurd c_3 (by decide)) ?_
    intro _
    refine lv_aload_n hx hb dX10_memberAt_8 rfl (lv_at hl 0 rfl) ?_
    refine va_get (D := (dC, dI)) (ci := 10) (v := .ref t_member) (C := RX10) (T := TX10) (N := 9) hx hb htb iX10 hown hK hP 1 rfl rfl 2 (Nat.le_of_ble_eq_true rfl) (htb _ m_36) (fun _ h9 => h9) rfl dX10_memberAt_9 ?_
    refine lv_iload_n hx hb dX10_memberAt_12 rfl (lv_at hl 1 rfl) ?_
    refine va_iald hx hb hK hP 0 0 rfl rfl (i_in rfl (lg_X10_memberAt_0 n_tb v1 yb h_2)) dX10_memberAt_13 ?_
    refine lv_topi (fun x_4 ex_5 => ?_)
    refine lv_goto (tgt := 18) hx hb dX10_memberAt_14 (by decide) ?_
    refine W.widen (k := 0) (n := 0) (Nat.le_of_ble_eq_true rfl) (Nat.le_of_ble_eq_true rfl) ?_
    have hP9 := hP.sub (ws' := [(h0, .inr (10, [.ref t_to, .ref t_height, .ref t_member, .ref t_lengthHome, .ref t_runs, .ref t_leak, .ref t_vacuum, .ref t_reading, .int n_tb])), (t_member, .inl (k_member, 40, .inl f_member))]) [1, 0] rfl
    have hD9 := hD.sub (ws' := [(h0, .inr (10, [.ref t_to, .ref t_height, .ref t_member, .ref t_lengthHome, .ref t_runs, .ref t_leak, .ref t_vacuum, .ref t_reading, .int n_tb])), (t_member, .inl (k_member, 40, .inl f_member))]) [1, 0] (by decide) rfl
    have hK9 := hK.sub (tys' := [(k_member, .int)]) [0] rfl
    exact W.iret (v := x_4) hx hb hr (fun t ht hW => ⟨⟨x_4, (), rfl, (lg_X10_memberAt_1 n_tb v1 yb h_2), ⟨by rw [ht]; exact hP9, va_K.moved hW.alike hK9, hD9⟩⟩, hS.F ht⟩) hS.2.2 dX10_memberAt_18
  · refine lv_if_eq (tgt := 17) hx hb dX10_memberAt_5 (by decide) ?_ (fun c_6 => absurd (by decide) c_6)
    intro _
    refine lv_iconst (v := (-1)) hx hb dX10_memberAt_17 (by decide) ?_
    refine W.widen (k := 0) (n := 0) (Nat.le_of_ble_eq_true rfl) (Nat.le_of_ble_eq_true rfl) ?_
    have hP9 := hP.sub (ws' := [(h0, .inr (10, [.ref t_to, .ref t_height, .ref t_member, .ref t_lengthHome, .ref t_runs, .ref t_leak, .ref t_vacuum, .ref t_reading, .int n_tb])), (t_member, .inl (k_member, 40, .inl f_member))]) [1, 0] rfl
    have hD9 := hD.sub (ws' := [(h0, .inr (10, [.ref t_to, .ref t_height, .ref t_member, .ref t_lengthHome, .ref t_runs, .ref t_leak, .ref t_vacuum, .ref t_reading, .int n_tb])), (t_member, .inl (k_member, 40, .inl f_member))]) [1, 0] (by decide) rfl
    have hK9 := hK.sub (tys' := [(k_member, .int)]) [0] rfl
    exact W.iret (v := (-1)) hx hb hr (fun t ht hW => ⟨⟨(-1), (), rfl, (lg_X10_memberAt_2 n_tb v1 yb h_2), ⟨by rw [ht]; exact hP9, va_K.moved hW.alike hK9, hD9⟩⟩, hS.F ht⟩) hS.2.2 dX10_memberAt_18

theorem lg_X10_setReading_0 (n_tb : Int32) (v1 : Int32) (yb : 1 ≤ n_tb.toInt ∧ n_tb.toInt ≤ 40) (h_2 : 1 ≤ v1.toInt ∧ v1.toInt < n_tb.toInt) : 0 ≤ v1.toInt ∧ v1.toInt < ((40 : Nat) : Int) := by
  have := rg_rng n_tb; have := rg_rng v1; omega
theorem lg_X10_setReading_1 (n_tb : Int32) (v1 : Int32) (yb : 1 ≤ n_tb.toInt ∧ n_tb.toInt ≤ 40) (h_2 : 1 ≤ v1.toInt ∧ v1.toInt < n_tb.toInt) : 1 ≤ v1.toInt ∧ v1.toInt < n_tb.toInt := by
  have := rg_rng n_tb; have := rg_rng v1; omega
theorem lg_X10_setReading_2 (n_tb : Int32) (v1 : Int32) (yb : 1 ≤ n_tb.toInt ∧ n_tb.toInt ≤ 40) (h_2 : ¬ (1 ≤ v1.toInt ∧ v1.toInt < n_tb.toInt)) : ¬ (1 ≤ v1.toInt ∧ v1.toInt < n_tb.toInt) := by
  have := rg_rng n_tb; have := rg_rng v1; omega
set_option maxHeartbeats 4000000 in
set_option maxRecDepth 100000 in
theorem kX10_setReading (l : Launch) (dC : Nat → ClassId) (dI : Nat → Nat → Nat) (sz : Nat) (h0 : Nat) (t_to : Nat) (t_height : Nat) (t_member : Nat) (t_lengthHome : Nat) (t_runs : Nat) (t_leak : Nat) (t_vacuum : Nat) (t_reading : Nat) (n_tb : Int32) (k_reading : ClassId) (f_reading : Nat → Int32) (v1 : Int32) (v2 : Int32) (yb : 1 ≤ n_tb.toInt ∧ n_tb.toInt ≤ 40) : Met l yX10_setReading (Cond.code yX10_setReading cX10_setReading 3 none :: bg) ({ frames := 2, cells := 0, slots := 0, locals := 42 }) (pcW dC dI [.ref h0, .int v1, .int v2] sz [(h0, .inr (10, [.ref t_to, .ref t_height, .ref t_member, .ref t_lengthHome, .ref t_runs, .ref t_leak, .ref t_vacuum, .ref t_reading, .int n_tb])), (t_reading, .inl (k_reading, 40, .inl f_reading))] [(k_reading, .int)]) (va_Qv (fun (u : Unit) => True) (fun (u : Unit) (t : State) => ∃ (w_reading : Nat → Int32), (Uc w_reading f_reading v1 v2 (1 ≤ v1.toInt ∧ v1.toInt < n_tb.toInt)) ∧ va_P (dC, dI) vwCl [(h0, .inr (10, [.ref t_to, .ref t_height, .ref t_member, .ref t_lengthHome, .ref t_runs, .ref t_leak, .ref t_vacuum, .ref t_reading, .int n_tb])), (t_reading, .inl (k_reading, 40, .inl w_reading))] t.heap ∧ va_K (dC, dI) vwCl [] t ∧ va_D (va_A [(h0, .inr (10, [.ref t_to, .ref t_height, .ref t_member, .ref t_lengthHome, .ref t_runs, .ref t_leak, .ref t_vacuum, .ref t_reading, .int n_tb])), (t_reading, .inl (k_reading, 40, .inl f_reading))] sz) [(h0, .inr (10, [.ref t_to, .ref t_height, .ref t_member, .ref t_lengthHome, .ref t_runs, .ref t_leak, .ref t_vacuum, .ref t_reading, .int n_tb])), (t_reading, .inl (k_reading, 40, .inl w_reading))]) (va_A [(h0, .inr (10, [.ref t_to, .ref t_height, .ref t_member, .ref t_lengthHome, .ref t_runs, .ref t_leak, .ref t_vacuum, .ref t_reading, .int n_tb])), (t_reading, .inl (k_reading, 40, .inl f_reading))] sz)) 0 0 (va_A [(h0, .inr (10, [.ref t_to, .ref t_height, .ref t_member, .ref t_lengthHome, .ref t_runs, .ref t_leak, .ref t_vacuum, .ref t_reading, .int n_tb])), (t_reading, .inl (k_reading, 40, .inl f_reading))] sz) := by
  refine Met.ofW (cc := cX10_setReading) (maxL := 3) (ret := none) pnX10 rfl ?_
  intro p e s m args below meth c s₁ B hml hv
  obtain ⟨rfl, hsz, hP, hK, hD0, hN⟩ := hv
  have hx := B.exec
  have hb := B.bytes
  have hr := B.returns
  have htb : ∀ w ∈ bg, w.before [.ref h0, .int v1, .int v2].toArray s = true := fun w h => atoms_spec (ws := Cond.code yX10_setReading cX10_setReading 3 none :: bg) B.pre w (List.mem_cons_of_mem _ h)
  have hown : s.vm.findClass RX10 = some m.cls := findClass_of_methodNamed B.named
  have hlocks := B.notSynchronized
  subst hsz
  have hD := hD0.self (sz := s.heap.size)
  generalize hAe : va_A [(h0, .inr (10, [.ref t_to, .ref t_height, .ref t_member, .ref t_lengthHome, .ref t_runs, .ref t_leak, .ref t_vacuum, .ref t_reading, .int n_tb])), (t_reading, .inl (k_reading, 40, .inl f_reading))] s.heap.size = A at hD ⊢
  have hA : ∀ q : Nat, s.heap.size ≤ q → A q := fun q h => by rw [← hAe]; exact Or.inr h
  have hS : va_S A s.heap s.heap [] := va_S.rf
  have hl := lv_entry ([.ref h0, .int v1, .int v2]) (n := 3) (Nat.le_of_ble_eq_true rfl)
  rw [lg_entry_eq]
  generalize (lg_sl ([.ref h0, .int v1, .int v2]) ++ List.replicate (3 - (lg_sl ([.ref h0, .int v1, .int v2])).length) Slot.unset).toArray = ls at hl ⊢
  change lv_has ls 3 [(0, .ref h0), (1, .int v1), (2, .int v2)] at hl
  clear hD0 hAe
  refine go0 (wsP := fun H => va_P (dC, dI) vwCl [(h0, .inr (10, [.ref t_to, .ref t_height, .ref t_member, .ref t_lengthHome, .ref t_runs, .ref t_leak, .ref t_vacuum, .ref t_reading, .int n_tb])), (t_reading, .inl (k_reading, 40, .inl f_reading))] H) hP hS ?_
  clear hP hS; intro H locs hP hS
  change va_P (dC, dI) vwCl [(h0, .inr (10, [.ref t_to, .ref t_height, .ref t_member, .ref t_lengthHome, .ref t_runs, .ref t_leak, .ref t_vacuum, .ref t_reading, .int n_tb])), (t_reading, .inl (k_reading, 40, .inl f_reading))] H at hP
  refine lv_aload_n hx hb dX10_setReading_0 rfl (lv_at hl 0 rfl) ?_
  refine lv_iload_n hx hb dX10_setReading_1 rfl (lv_at hl 1 rfl) ?_
  have hPc := hP.sub (ws' := [(h0, .inr (10, [.ref t_to, .ref t_height, .ref t_member, .ref t_lengthHome, .ref t_runs, .ref t_leak, .ref t_vacuum, .ref t_reading, .int n_tb]))]) [0] rfl
  have hDc := hD.sub (ws' := [(h0, .inr (10, [.ref t_to, .ref t_height, .ref t_member, .ref t_lengthHome, .ref t_runs, .ref t_leak, .ref t_vacuum, .ref t_reading, .int n_tb]))]) [0] (by decide) rfl
  have hKc := hK.sub (tys' := []) [] rfl
  have hFc := va_free (wc := [(h0, .inr (10, [.ref t_to, .ref t_height, .ref t_member, .ref t_lengthHome, .ref t_runs, .ref t_leak, .ref t_vacuum, .ref t_reading, .int n_tb]))]) hD hS hA [0] rfl
  refine va_calli (va_runV (C := RX10) (As := [.int v1]) (rest := []) ⟨hx, hb, hml, hown, htb⟩ (kX10_hasTube l dC dI H.size h0 t_to t_height t_member t_lengthHome t_runs t_leak t_vacuum t_reading n_tb v1 ) ⟨callB_of 1 htb (gd_c m_371) rfl rfl rfl (htb _ m_2) (htb _ m_426) hdX10_hasTube ⟨(Nat.le_of_ble_eq_true rfl), (Nat.le_of_ble_eq_true rfl)⟩, htb _ m_369, htb _ m_370⟩ ⟨pcW_blind, va_recv hKc hPc (ci := 10) (q0 := 0) rfl rfl, pcW_at hPc hKc hDc hN⟩ rfl rfl hl.1 rfl (lv_room (Nat.le_of_ble_eq_true rfl)) dX10_setReading_2 ⟨(Nat.le_of_ble_eq_true rfl), (Nat.le_of_ble_eq_true rfl)⟩) hS (fun q _ h => hFc q h) hFc (fun r_1 u t H1 locs1 ht hvm h_2 hB hz1 hk1 hS1 => ?_)
  obtain ⟨hP1, hK1, hD1⟩ := hB
  rw [ht] at hP1
  obtain ⟨hPn, hDn⟩ := va_join (wr := [(t_reading, .inl (k_reading, 40, .inl f_reading))]) (w1 := [(h0, .inr (10, [.ref t_to, .ref t_height, .ref t_member, .ref t_lengthHome, .ref t_runs, .ref t_leak, .ref t_vacuum, .ref t_reading, .int n_tb]))]) hP hD [0] [1] rfl rfl (by decide) (by decide) hk1 hFc hP1 hD1
  clear hP1 hD1 hK1
  clear hP hD hS hPc hDc hKc hFc hk1 hz1 ht hvm
  clear t
  revert hS1 hPn hDn; generalize H1 = H; generalize locs1 = locs; intro hS hP hD
  change va_P (dC, dI) vwCl [(t_reading, .inl (k_reading, 40, .inl f_reading)), (h0, .inr (10, [.ref t_to, .ref t_height, .ref t_member, .ref t_lengthHome, .ref t_runs, .ref t_leak, .ref t_vacuum, .ref t_reading, .int n_tb]))] H at hP
  change va_D A [(t_reading, .inl (k_reading, 40, .inl f_reading)), (h0, .inr (10, [.ref t_to, .ref t_height, .ref t_member, .ref t_lengthHome, .ref t_runs, .ref t_leak, .ref t_vacuum, .ref t_reading, .int n_tb]))] at hD
  rcases h_2 with ⟨rfl, h_2⟩ | ⟨rfl, h_2⟩
  · refine lv_if_eq (tgt := 15) hx hb dX10_setReading_5 (by decide) (fun c_3 => absurd c_3 (by decide)) ?_
    intro _
    refine lv_aload_n hx hb dX10_setReading_8 rfl (lv_at hl 0 rfl) ?_
    refine va_get (D := (dC, dI)) (ci := 10) (v := .ref t_reading) (C := RX10) (T := TX10) (N := 9) hx hb htb iX10 hown hK hP 1 rfl rfl 7 (Nat.le_of_ble_eq_true rfl) (htb _ m_41) (fun _ h9 => h9) rfl dX10_setReading_9 ?_
    refine lv_iload_n hx hb dX10_setReading_12 rfl (lv_at hl 1 rfl) ?_
    refine lv_iload_n hx hb dX10_setReading_13 rfl (lv_at hl 2 rfl) ?_
    refine va_iast hx hb hK hP hD hS 0 0 rfl rfl (i_in rfl (lg_X10_setReading_0 n_tb v1 yb h_2)) dX10_setReading_14 ?_
    clear hP hD hS; intro H locs hP hD hS
    change va_P (dC, dI) vwCl [(t_reading, .inl (k_reading, 40, .inl (upd f_reading (Int32.toNatClampNeg v1) v2))), (h0, .inr (10, [.ref t_to, .ref t_height, .ref t_member, .ref t_lengthHome, .ref t_runs, .ref t_leak, .ref t_vacuum, .ref t_reading, .int n_tb]))] H at hP
    change va_D A [(t_reading, .inl (k_reading, 40, .inl (upd f_reading (Int32.toNatClampNeg v1) v2))), (h0, .inr (10, [.ref t_to, .ref t_height, .ref t_member, .ref t_lengthHome, .ref t_runs, .ref t_leak, .ref t_vacuum, .ref t_reading, .int n_tb]))] at hD
    generalize hG_5 : upd f_reading (Int32.toNatClampNeg v1) v2 = g_4 at hP hD
    refine W.widen (k := 0) (n := 0) (Nat.le_of_ble_eq_true rfl) (Nat.le_of_ble_eq_true rfl) ?_
    have hP9 := hP.sub (ws' := [(h0, .inr (10, [.ref t_to, .ref t_height, .ref t_member, .ref t_lengthHome, .ref t_runs, .ref t_leak, .ref t_vacuum, .ref t_reading, .int n_tb])), (t_reading, .inl (k_reading, 40, .inl g_4))]) [1, 0] rfl
    have hD9 := hD.sub (ws' := [(h0, .inr (10, [.ref t_to, .ref t_height, .ref t_member, .ref t_lengthHome, .ref t_runs, .ref t_leak, .ref t_vacuum, .ref t_reading, .int n_tb])), (t_reading, .inl (k_reading, 40, .inl g_4))]) [1, 0] (by decide) rfl
    have hK9 := hK.sub (tys' := []) [] rfl
    exact W.vret hx hb hr (fun t ht hW => ⟨⟨(), rfl, trivial, ⟨g_4, (Uc_t (lg_X10_setReading_1 n_tb v1 yb h_2) hG_5), by rw [ht]; exact hP9, va_K.moved hW.alike hK9, hD9⟩⟩, hS.F ht⟩) hS.2.2 dX10_setReading_15
  · refine lv_if_eq (tgt := 15) hx hb dX10_setReading_5 (by decide) ?_ (fun c_6 => absurd (by decide) c_6)
    intro _
    refine W.widen (k := 0) (n := 0) (Nat.le_of_ble_eq_true rfl) (Nat.le_of_ble_eq_true rfl) ?_
    have hP9 := hP.sub (ws' := [(h0, .inr (10, [.ref t_to, .ref t_height, .ref t_member, .ref t_lengthHome, .ref t_runs, .ref t_leak, .ref t_vacuum, .ref t_reading, .int n_tb])), (t_reading, .inl (k_reading, 40, .inl f_reading))]) [1, 0] rfl
    have hD9 := hD.sub (ws' := [(h0, .inr (10, [.ref t_to, .ref t_height, .ref t_member, .ref t_lengthHome, .ref t_runs, .ref t_leak, .ref t_vacuum, .ref t_reading, .int n_tb])), (t_reading, .inl (k_reading, 40, .inl f_reading))]) [1, 0] (by decide) rfl
    have hK9 := hK.sub (tys' := []) [] rfl
    exact W.vret hx hb hr (fun t ht hW => ⟨⟨(), rfl, trivial, ⟨f_reading, (Uc_f (lg_X10_setReading_2 n_tb v1 yb h_2)), by rw [ht]; exact hP9, va_K.moved hW.alike hK9, hD9⟩⟩, hS.F ht⟩) hS.2.2 dX10_setReading_15

theorem lg_X10_suspectBy_0 (n_tb : Int32) (v1 : Int32) (yb : 1 ≤ n_tb.toInt ∧ n_tb.toInt ≤ 40) (yv1 : 0 ≤ v1.toInt ∧ v1.toInt < n_tb.toInt) (h_2 : 1 ≤ v1.toInt ∧ v1.toInt < n_tb.toInt) : 0 ≤ v1.toInt ∧ v1.toInt < ((40 : Nat) : Int) := by
  have := rg_rng n_tb; have := rg_rng v1; omega
theorem lg_X10_suspectBy_1 (n_tb : Int32) (v1 : Int32) (yb : 1 ≤ n_tb.toInt ∧ n_tb.toInt ≤ 40) (yv1 : 0 ≤ v1.toInt ∧ v1.toInt < n_tb.toInt) (h_2 : 1 ≤ v1.toInt ∧ v1.toInt < n_tb.toInt) : 0 ≤ v1.toInt ∧ v1.toInt < n_tb.toInt := by
  have := rg_rng n_tb; have := rg_rng v1; omega
theorem lg_X10_suspectBy_2 (n_tb : Int32) (v1 : Int32) (e_reading : Nat → Int32) (x_4 : Int32) (yb : 1 ≤ n_tb.toInt ∧ n_tb.toInt ≤ 40) (yv1 : 0 ≤ v1.toInt ∧ v1.toInt < n_tb.toInt) (h_2 : 1 ≤ v1.toInt ∧ v1.toInt < n_tb.toInt) (t_7 : x_4.toInt = (e_reading (Int32.toNatClampNeg v1)).toInt) : 0 ≤ v1.toInt ∧ v1.toInt < ((40 : Nat) : Int) := by
  have := rg_rng n_tb; have := rg_rng v1; have := rg_rng x_4; omega
theorem lg_X10_suspectBy_3 (n_tb : Int32) (f_reading : Nat → Int32) (v1 : Int32) (e_to : Nat → Int32) (e_reading : Nat → Int32) (nv : Int32) (x_4 : Int32) (r_12 : Int32) (yb : 1 ≤ n_tb.toInt ∧ n_tb.toInt ≤ 40) (yv1 : 0 ≤ v1.toInt ∧ v1.toInt < n_tb.toInt) (h_2 : 1 ≤ v1.toInt ∧ v1.toInt < n_tb.toInt) (t_7 : x_4.toInt = (e_reading (Int32.toNatClampNeg v1)).toInt) (t_8 : (-1) ≤ x_4.toInt ∧ x_4.toInt ≤ 100) (t_9 : x_4.toInt = (f_reading (Int32.toNatClampNeg v1)).toInt) (t_11 : ¬ x_4.toInt = (-1 : Int)) (h_13 : r_12.toInt = raN e_to e_reading nv v1 ∧ (-1) ≤ r_12.toInt ∧ r_12.toInt ≤ 100) : 0 ≤ v1.toInt ∧ v1.toInt < ((40 : Nat) : Int) := by
  have := rg_rng n_tb; have := rg_rng v1; have := rg_rng x_4; have := rg_rng r_12; omega
theorem lg_X10_suspectBy_4 (n_tb : Int32) (f_reading : Nat → Int32) (v1 : Int32) (e_to : Nat → Int32) (e_reading : Nat → Int32) (nv : Int32) (x_4 : Int32) (r_12 : Int32) (yb : 1 ≤ n_tb.toInt ∧ n_tb.toInt ≤ 40) (yv1 : 0 ≤ v1.toInt ∧ v1.toInt < n_tb.toInt) (h_2 : 1 ≤ v1.toInt ∧ v1.toInt < n_tb.toInt) (t_7 : x_4.toInt = (e_reading (Int32.toNatClampNeg v1)).toInt) (t_8 : (-1) ≤ x_4.toInt ∧ x_4.toInt ≤ 100) (t_9 : x_4.toInt = (f_reading (Int32.toNatClampNeg v1)).toInt) (t_11 : ¬ x_4.toInt = (-1 : Int)) (h_13 : r_12.toInt = raN e_to e_reading nv v1 ∧ (-1) ≤ r_12.toInt ∧ r_12.toInt ≤ 100) : 0 ≤ v1.toInt ∧ v1.toInt < n_tb.toInt := by
  have := rg_rng n_tb; have := rg_rng v1; have := rg_rng x_4; have := rg_rng r_12; omega
theorem lg_X10_suspectBy_5 (n_tb : Int32) (f_reading : Nat → Int32) (v1 : Int32) (e_to : Nat → Int32) (e_reading : Nat → Int32) (nv : Int32) (x_4 : Int32) (r_12 : Int32) (x_14 : Int32) (yb : 1 ≤ n_tb.toInt ∧ n_tb.toInt ≤ 40) (yv1 : 0 ≤ v1.toInt ∧ v1.toInt < n_tb.toInt) (h_2 : 1 ≤ v1.toInt ∧ v1.toInt < n_tb.toInt) (t_7 : x_4.toInt = (e_reading (Int32.toNatClampNeg v1)).toInt) (t_8 : (-1) ≤ x_4.toInt ∧ x_4.toInt ≤ 100) (t_9 : x_4.toInt = (f_reading (Int32.toNatClampNeg v1)).toInt) (t_11 : ¬ x_4.toInt = (-1 : Int)) (h_13 : r_12.toInt = raN e_to e_reading nv v1 ∧ (-1) ≤ r_12.toInt ∧ r_12.toInt ≤ 100) (t_17 : x_14.toInt = (e_reading (Int32.toNatClampNeg v1)).toInt) : 0 ≤ v1.toInt ∧ v1.toInt < ((40 : Nat) : Int) := by
  have := rg_rng n_tb; have := rg_rng v1; have := rg_rng x_4; have := rg_rng r_12; have := rg_rng x_14; omega
theorem lg_X10_suspectBy_6 (n_tb : Int32) (f_reading : Nat → Int32) (v1 : Int32) (e_to : Nat → Int32) (e_reading : Nat → Int32) (nv : Int32) (x_4 : Int32) (r_12 : Int32) (x_14 : Int32) (yb : 1 ≤ n_tb.toInt ∧ n_tb.toInt ≤ 40) (yv1 : 0 ≤ v1.toInt ∧ v1.toInt < n_tb.toInt) (h_2 : 1 ≤ v1.toInt ∧ v1.toInt < n_tb.toInt) (t_7 : x_4.toInt = (e_reading (Int32.toNatClampNeg v1)).toInt) (t_8 : (-1) ≤ x_4.toInt ∧ x_4.toInt ≤ 100) (t_9 : x_4.toInt = (f_reading (Int32.toNatClampNeg v1)).toInt) (t_11 : ¬ x_4.toInt = (-1 : Int)) (h_13 : r_12.toInt = raN e_to e_reading nv v1 ∧ (-1) ≤ r_12.toInt ∧ r_12.toInt ≤ 100) (t_17 : x_14.toInt = (e_reading (Int32.toNatClampNeg v1)).toInt) (t_18 : (-1) ≤ x_14.toInt ∧ x_14.toInt ≤ 100) (t_19 : x_14.toInt = (f_reading (Int32.toNatClampNeg v1)).toInt) (t_20 : x_14.toInt = x_4.toInt) : -2147483648 ≤ r_12.toInt - x_14.toInt ∧ r_12.toInt - x_14.toInt < 2147483648 := by
  have := rg_rng n_tb; have := rg_rng v1; have := rg_rng x_4; have := rg_rng r_12; have := rg_rng x_14; omega
theorem lg_X10_suspectBy_7 (n_tb : Int32) (f_reading : Nat → Int32) (v1 : Int32) (e_to : Nat → Int32) (e_reading : Nat → Int32) (nv : Int32) (x_4 : Int32) (r_12 : Int32) (x_14 : Int32) (x_21 : Int32) (x_24 : Int32) (yb : 1 ≤ n_tb.toInt ∧ n_tb.toInt ≤ 40) (yv1 : 0 ≤ v1.toInt ∧ v1.toInt < n_tb.toInt) (h_2 : 1 ≤ v1.toInt ∧ v1.toInt < n_tb.toInt) (t_7 : x_4.toInt = (e_reading (Int32.toNatClampNeg v1)).toInt) (t_8 : (-1) ≤ x_4.toInt ∧ x_4.toInt ≤ 100) (t_9 : x_4.toInt = (f_reading (Int32.toNatClampNeg v1)).toInt) (t_11 : ¬ x_4.toInt = (-1 : Int)) (h_13 : r_12.toInt = raN e_to e_reading nv v1 ∧ (-1) ≤ r_12.toInt ∧ r_12.toInt ≤ 100) (t_17 : x_14.toInt = (e_reading (Int32.toNatClampNeg v1)).toInt) (t_18 : (-1) ≤ x_14.toInt ∧ x_14.toInt ≤ 100) (t_19 : x_14.toInt = (f_reading (Int32.toNatClampNeg v1)).toInt) (t_20 : x_14.toInt = x_4.toInt) (t_23 : x_21.toInt = r_12.toInt - x_14.toInt) (t_26 : ((0 : Int) < x_21.toInt ∧ x_24.toInt = x_21.toInt) ∨ (x_21.toInt ≤ (0 : Int) ∧ x_24.toInt = (0 : Int))) : x_24.toInt = suV v1.toInt (e_reading (Int32.toNatClampNeg v1)).toInt (raN e_to e_reading nv v1) := by
  have := rg_rng n_tb; have := rg_rng v1; have := rg_rng x_4; have := rg_rng r_12; have := rg_rng x_14; have := rg_rng x_21; have := rg_rng x_24; unfold suV; (repeat' split) <;> omega
theorem lg_X10_suspectBy_8 (n_tb : Int32) (f_reading : Nat → Int32) (v1 : Int32) (e_to : Nat → Int32) (e_reading : Nat → Int32) (nv : Int32) (x_4 : Int32) (yb : 1 ≤ n_tb.toInt ∧ n_tb.toInt ≤ 40) (yv1 : 0 ≤ v1.toInt ∧ v1.toInt < n_tb.toInt) (h_2 : 1 ≤ v1.toInt ∧ v1.toInt < n_tb.toInt) (t_7 : x_4.toInt = (e_reading (Int32.toNatClampNeg v1)).toInt) (t_8 : (-1) ≤ x_4.toInt ∧ x_4.toInt ≤ 100) (t_9 : x_4.toInt = (f_reading (Int32.toNatClampNeg v1)).toInt) (t_11 : x_4.toInt = (-1 : Int)) : (0 : Int) = suV v1.toInt (e_reading (Int32.toNatClampNeg v1)).toInt (raN e_to e_reading nv v1) := by
  have := rg_rng n_tb; have := rg_rng v1; have := rg_rng x_4; unfold suV; (repeat' split) <;> omega
theorem lg_X10_suspectBy_9 (n_tb : Int32) (v1 : Int32) (e_to : Nat → Int32) (e_reading : Nat → Int32) (nv : Int32) (yb : 1 ≤ n_tb.toInt ∧ n_tb.toInt ≤ 40) (yv1 : 0 ≤ v1.toInt ∧ v1.toInt < n_tb.toInt) (h_2 : ¬ (1 ≤ v1.toInt ∧ v1.toInt < n_tb.toInt)) : (0 : Int) = suV v1.toInt (e_reading (Int32.toNatClampNeg v1)).toInt (raN e_to e_reading nv v1) := by
  have := rg_rng n_tb; have := rg_rng v1; unfold suV; (repeat' split) <;> omega
set_option maxHeartbeats 4000000 in
set_option maxRecDepth 100000 in
theorem kX10_suspectBy (l : Launch) (dC : Nat → ClassId) (dI : Nat → Nat → Nat) (sz : Nat) (h0 : Nat) (t_to : Nat) (t_height : Nat) (t_member : Nat) (t_lengthHome : Nat) (t_runs : Nat) (t_leak : Nat) (t_vacuum : Nat) (t_reading : Nat) (n_tb : Int32) (k_to : ClassId) (k_reading : ClassId) (k_vacuum : ClassId) (f_to : Nat → Int32) (f_reading : Nat → Int32) (f_vacuum : Nat → Int32) (v1 : Int32) (e_to : Nat → Int32) (e_reading : Nat → Int32) (nv : Int32) (yb : 1 ≤ n_tb.toInt ∧ n_tb.toInt ≤ 40) (yvac : Rg f_vacuum 40 0 100) (yv1 : 0 ≤ v1.toInt ∧ v1.toInt < n_tb.toInt) (yTT : TbT f_to e_to n_tb.toInt) (yDn : Dn e_to) (yTE : TbE f_reading e_reading n_tb.toInt) (yRe : Rg e_reading 40 (-1) 100) (yV0 : V0 f_vacuum nv) : Met l yX10_suspectBy (Cond.code yX10_suspectBy cX10_suspectBy 2 (some .int) :: bg) ({ frames := 3, cells := 0, slots := 0, locals := 65 }) (pcW dC dI [.ref h0, .int v1] sz [(h0, .inr (10, [.ref t_to, .ref t_height, .ref t_member, .ref t_lengthHome, .ref t_runs, .ref t_leak, .ref t_vacuum, .ref t_reading, .int n_tb])), (t_to, .inl (k_to, 40, .inl f_to)), (t_reading, .inl (k_reading, 40, .inl f_reading)), (t_vacuum, .inl (k_vacuum, 40, .inl f_vacuum))] [(k_to, .int), (k_reading, .int), (k_vacuum, .int)]) (va_Qi (fun (r : Int32) (u : Unit) => r.toInt = suV v1.toInt (e_reading (Int32.toNatClampNeg v1)).toInt (raN e_to e_reading nv v1)) (fun (u : Unit) (t : State) => va_P (dC, dI) vwCl [(h0, .inr (10, [.ref t_to, .ref t_height, .ref t_member, .ref t_lengthHome, .ref t_runs, .ref t_leak, .ref t_vacuum, .ref t_reading, .int n_tb])), (t_to, .inl (k_to, 40, .inl f_to)), (t_reading, .inl (k_reading, 40, .inl f_reading)), (t_vacuum, .inl (k_vacuum, 40, .inl f_vacuum))] t.heap ∧ va_K (dC, dI) vwCl [(k_to, .int), (k_reading, .int), (k_vacuum, .int)] t ∧ va_D (va_A [(h0, .inr (10, [.ref t_to, .ref t_height, .ref t_member, .ref t_lengthHome, .ref t_runs, .ref t_leak, .ref t_vacuum, .ref t_reading, .int n_tb])), (t_to, .inl (k_to, 40, .inl f_to)), (t_reading, .inl (k_reading, 40, .inl f_reading)), (t_vacuum, .inl (k_vacuum, 40, .inl f_vacuum))] sz) [(h0, .inr (10, [.ref t_to, .ref t_height, .ref t_member, .ref t_lengthHome, .ref t_runs, .ref t_leak, .ref t_vacuum, .ref t_reading, .int n_tb])), (t_to, .inl (k_to, 40, .inl f_to)), (t_reading, .inl (k_reading, 40, .inl f_reading)), (t_vacuum, .inl (k_vacuum, 40, .inl f_vacuum))]) (va_A [(h0, .inr (10, [.ref t_to, .ref t_height, .ref t_member, .ref t_lengthHome, .ref t_runs, .ref t_leak, .ref t_vacuum, .ref t_reading, .int n_tb])), (t_to, .inl (k_to, 40, .inl f_to)), (t_reading, .inl (k_reading, 40, .inl f_reading)), (t_vacuum, .inl (k_vacuum, 40, .inl f_vacuum))] sz)) 0 0 (va_A [(h0, .inr (10, [.ref t_to, .ref t_height, .ref t_member, .ref t_lengthHome, .ref t_runs, .ref t_leak, .ref t_vacuum, .ref t_reading, .int n_tb])), (t_to, .inl (k_to, 40, .inl f_to)), (t_reading, .inl (k_reading, 40, .inl f_reading)), (t_vacuum, .inl (k_vacuum, 40, .inl f_vacuum))] sz) := by
  refine Met.ofW (cc := cX10_suspectBy) (maxL := 2) (ret := (some .int)) pnX10 rfl ?_
  intro p e s m args below meth c s₁ B hml hv
  obtain ⟨rfl, hsz, hP, hK, hD0, hN⟩ := hv
  have hx := B.exec
  have hb := B.bytes
  have hr := B.returns
  have htb : ∀ w ∈ bg, w.before [.ref h0, .int v1].toArray s = true := fun w h => atoms_spec (ws := Cond.code yX10_suspectBy cX10_suspectBy 2 (some .int) :: bg) B.pre w (List.mem_cons_of_mem _ h)
  have hown : s.vm.findClass RX10 = some m.cls := findClass_of_methodNamed B.named
  have hlocks := B.notSynchronized
  subst hsz
  have hD := hD0.self (sz := s.heap.size)
  generalize hAe : va_A [(h0, .inr (10, [.ref t_to, .ref t_height, .ref t_member, .ref t_lengthHome, .ref t_runs, .ref t_leak, .ref t_vacuum, .ref t_reading, .int n_tb])), (t_to, .inl (k_to, 40, .inl f_to)), (t_reading, .inl (k_reading, 40, .inl f_reading)), (t_vacuum, .inl (k_vacuum, 40, .inl f_vacuum))] s.heap.size = A at hD ⊢
  have hA : ∀ q : Nat, s.heap.size ≤ q → A q := fun q h => by rw [← hAe]; exact Or.inr h
  have hS : va_S A s.heap s.heap [] := va_S.rf
  have hl := lv_entry ([.ref h0, .int v1]) (n := 2) (Nat.le_of_ble_eq_true rfl)
  rw [lg_entry_eq]
  generalize (lg_sl ([.ref h0, .int v1]) ++ List.replicate (2 - (lg_sl ([.ref h0, .int v1])).length) Slot.unset).toArray = ls at hl ⊢
  change lv_has ls 2 [(0, .ref h0), (1, .int v1)] at hl
  clear hD0 hAe
  refine go0 (wsP := fun H => va_P (dC, dI) vwCl [(h0, .inr (10, [.ref t_to, .ref t_height, .ref t_member, .ref t_lengthHome, .ref t_runs, .ref t_leak, .ref t_vacuum, .ref t_reading, .int n_tb])), (t_to, .inl (k_to, 40, .inl f_to)), (t_reading, .inl (k_reading, 40, .inl f_reading)), (t_vacuum, .inl (k_vacuum, 40, .inl f_vacuum))] H) hP hS ?_
  clear hP hS; intro H locs hP hS
  change va_P (dC, dI) vwCl [(h0, .inr (10, [.ref t_to, .ref t_height, .ref t_member, .ref t_lengthHome, .ref t_runs, .ref t_leak, .ref t_vacuum, .ref t_reading, .int n_tb])), (t_to, .inl (k_to, 40, .inl f_to)), (t_reading, .inl (k_reading, 40, .inl f_reading)), (t_vacuum, .inl (k_vacuum, 40, .inl f_vacuum))] H at hP
  refine lv_aload_n hx hb dX10_suspectBy_0 rfl (lv_at hl 0 rfl) ?_
  refine lv_iload_n hx hb dX10_suspectBy_1 rfl (lv_at hl 1 rfl) ?_
  have hPc := hP.sub (ws' := [(h0, .inr (10, [.ref t_to, .ref t_height, .ref t_member, .ref t_lengthHome, .ref t_runs, .ref t_leak, .ref t_vacuum, .ref t_reading, .int n_tb]))]) [0] rfl
  have hDc := hD.sub (ws' := [(h0, .inr (10, [.ref t_to, .ref t_height, .ref t_member, .ref t_lengthHome, .ref t_runs, .ref t_leak, .ref t_vacuum, .ref t_reading, .int n_tb]))]) [0] (by decide) rfl
  have hKc := hK.sub (tys' := []) [] rfl
  have hFc := va_free (wc := [(h0, .inr (10, [.ref t_to, .ref t_height, .ref t_member, .ref t_lengthHome, .ref t_runs, .ref t_leak, .ref t_vacuum, .ref t_reading, .int n_tb]))]) hD hS hA [0] rfl
  refine va_calli (va_runV (C := RX10) (As := [.int v1]) (rest := []) ⟨hx, hb, hml, hown, htb⟩ (kX10_hasTube l dC dI H.size h0 t_to t_height t_member t_lengthHome t_runs t_leak t_vacuum t_reading n_tb v1 ) ⟨callB_of 1 htb (gd_c m_371) rfl rfl rfl (htb _ m_2) (htb _ m_426) hdX10_hasTube ⟨(Nat.le_of_ble_eq_true rfl), (Nat.le_of_ble_eq_true rfl)⟩, htb _ m_369, htb _ m_370⟩ ⟨pcW_blind, va_recv hKc hPc (ci := 10) (q0 := 0) rfl rfl, pcW_at hPc hKc hDc hN⟩ rfl rfl hl.1 rfl (lv_room (Nat.le_of_ble_eq_true rfl)) dX10_suspectBy_2 ⟨(Nat.le_of_ble_eq_true rfl), (Nat.le_of_ble_eq_true rfl)⟩) hS (fun q _ h => hFc q h) hFc (fun r_1 u t H1 locs1 ht hvm h_2 hB hz1 hk1 hS1 => ?_)
  obtain ⟨hP1, hK1, hD1⟩ := hB
  rw [ht] at hP1
  obtain ⟨hPn, hDn⟩ := va_join (wr := [(t_to, .inl (k_to, 40, .inl f_to)), (t_reading, .inl (k_reading, 40, .inl f_reading)), (t_vacuum, .inl (k_vacuum, 40, .inl f_vacuum))]) (w1 := [(h0, .inr (10, [.ref t_to, .ref t_height, .ref t_member, .ref t_lengthHome, .ref t_runs, .ref t_leak, .ref t_vacuum, .ref t_reading, .int n_tb]))]) hP hD [0] [1, 2, 3] rfl rfl (by decide) (by decide) hk1 hFc hP1 hD1
  clear hP1 hD1 hK1
  clear hP hD hS hPc hDc hKc hFc hk1 hz1 ht hvm
  clear t
  revert hS1 hPn hDn; generalize H1 = H; generalize locs1 = locs; intro hS hP hD
  change va_P (dC, dI) vwCl [(t_to, .inl (k_to, 40, .inl f_to)), (t_reading, .inl (k_reading, 40, .inl f_reading)), (t_vacuum, .inl (k_vacuum, 40, .inl f_vacuum)), (h0, .inr (10, [.ref t_to, .ref t_height, .ref t_member, .ref t_lengthHome, .ref t_runs, .ref t_leak, .ref t_vacuum, .ref t_reading, .int n_tb]))] H at hP
  change va_D A [(t_to, .inl (k_to, 40, .inl f_to)), (t_reading, .inl (k_reading, 40, .inl f_reading)), (t_vacuum, .inl (k_vacuum, 40, .inl f_vacuum)), (h0, .inr (10, [.ref t_to, .ref t_height, .ref t_member, .ref t_lengthHome, .ref t_runs, .ref t_leak, .ref t_vacuum, .ref t_reading, .int n_tb]))] at hD
  rcases h_2 with ⟨rfl, h_2⟩ | ⟨rfl, h_2⟩
  · refine lv_if_eq (tgt := 18) hx hb dX10_suspectBy_5 (by decide) (fun c_3 => absurd c_3 (by decide)) ?_
    intro _
    refine lv_aload_n hx hb dX10_suspectBy_8 rfl (lv_at hl 0 rfl) ?_
    refine va_get (D := (dC, dI)) (ci := 10) (v := .ref t_reading) (C := RX10) (T := TX10) (N := 9) hx hb htb iX10 hown hK hP 3 rfl rfl 7 (Nat.le_of_ble_eq_true rfl) (htb _ m_41) (fun _ h9 => h9) rfl dX10_suspectBy_9 ?_
    refine lv_iload_n hx hb dX10_suspectBy_12 rfl (lv_at hl 1 rfl) ?_
    refine va_iald hx hb hK hP 1 1 rfl rfl (i_in rfl (lg_X10_suspectBy_0 n_tb v1 yb yv1 h_2)) dX10_suspectBy_13 ?_
    refine lv_topi (fun x_4 ex_5 => ?_)
    have hq_6 : x_4 = e_reading (Int32.toNatClampNeg v1) := TbE_ld yTE (lg_X10_suspectBy_1 n_tb v1 yb yv1 h_2) ex_5
    have t_7 : x_4.toInt = (e_reading (Int32.toNatClampNeg v1)).toInt := by rw [hq_6]
    have t_8 : (-1) ≤ x_4.toInt ∧ x_4.toInt ≤ 100 := Rg_ld yRe (i_in rfl (lg_X10_suspectBy_2 n_tb v1 e_reading x_4 yb yv1 h_2 t_7)) hq_6
    have t_9 : x_4.toInt = (f_reading (Int32.toNatClampNeg v1)).toInt := by rw [ex_5]
    refine lv_iconst (v := (-1)) hx hb dX10_suspectBy_14 (by decide) ?_
    refine lv_icmp_ne (tgt := 20) hx hb dX10_suspectBy_15 (by decide) (fun c_10 => ?_) (fun c_10 => ?_)
    · have t_11 : ¬ x_4.toInt = (-1 : Int) := i_ne rfl (by decide) c_10
      refine lv_iconst (v := 0) hx hb dX10_suspectBy_20 (by decide) ?_
      refine lv_aload_n hx hb dX10_suspectBy_21 rfl (lv_at hl 0 rfl) ?_
      refine lv_iload_n hx hb dX10_suspectBy_22 rfl (lv_at hl 1 rfl) ?_
      have hPc := hP.sub (ws' := [(h0, .inr (10, [.ref t_to, .ref t_height, .ref t_member, .ref t_lengthHome, .ref t_runs, .ref t_leak, .ref t_vacuum, .ref t_reading, .int n_tb])), (t_to, .inl (k_to, 40, .inl f_to)), (t_reading, .inl (k_reading, 40, .inl f_reading)), (t_vacuum, .inl (k_vacuum, 40, .inl f_vacuum))]) [3, 0, 1, 2] rfl
      have hDc := hD.sub (ws' := [(h0, .inr (10, [.ref t_to, .ref t_height, .ref t_member, .ref t_lengthHome, .ref t_runs, .ref t_leak, .ref t_vacuum, .ref t_reading, .int n_tb])), (t_to, .inl (k_to, 40, .inl f_to)), (t_reading, .inl (k_reading, 40, .inl f_reading)), (t_vacuum, .inl (k_vacuum, 40, .inl f_vacuum))]) [3, 0, 1, 2] (by decide) rfl
      have hKc := hK.sub (tys' := [(k_to, .int), (k_reading, .int), (k_vacuum, .int)]) [0, 1, 2] rfl
      have hFc := va_free (wc := [(h0, .inr (10, [.ref t_to, .ref t_height, .ref t_member, .ref t_lengthHome, .ref t_runs, .ref t_leak, .ref t_vacuum, .ref t_reading, .int n_tb])), (t_to, .inl (k_to, 40, .inl f_to)), (t_reading, .inl (k_reading, 40, .inl f_reading)), (t_vacuum, .inl (k_vacuum, 40, .inl f_vacuum))]) hD hS hA [3, 0, 1, 2] rfl
      refine va_calli (va_runV (C := RX10) (As := [.int v1]) (rest := [.int 0]) ⟨hx, hb, hml, hown, htb⟩ (kX10_readingAhead l dC dI H.size h0 t_to t_height t_member t_lengthHome t_runs t_leak t_vacuum t_reading n_tb k_to k_reading k_vacuum f_to f_reading f_vacuum v1 e_to e_reading nv yb yvac h_2 yTT yDn yTE yRe yV0) ⟨callB_of 1 htb (gd_c m_473) rfl rfl rfl (htb _ m_2) (htb _ m_470) hdX10_readingAhead ⟨(Nat.le_of_ble_eq_true rfl), (Nat.le_of_ble_eq_true rfl)⟩, htb _ m_472, htb _ ms_2⟩ ⟨pcW_blind, va_recv hKc hPc (ci := 10) (q0 := 0) rfl rfl, pcW_at hPc hKc hDc hN⟩ rfl rfl hl.1 rfl (lv_room (Nat.le_of_ble_eq_true rfl)) dX10_suspectBy_23 ⟨(Nat.le_of_ble_eq_true rfl), (Nat.le_of_ble_eq_true rfl)⟩) hS (fun q _ h => hFc q h) hFc (fun r_12 u t H1 locs1 ht hvm h_13 hB hz1 hk1 hS1 => ?_)
      obtain ⟨hP1, hK1, hD1⟩ := hB
      rw [ht] at hP1
      obtain ⟨hPn, hDn⟩ := va_join (wr := []) (w1 := [(h0, .inr (10, [.ref t_to, .ref t_height, .ref t_member, .ref t_lengthHome, .ref t_runs, .ref t_leak, .ref t_vacuum, .ref t_reading, .int n_tb])), (t_to, .inl (k_to, 40, .inl f_to)), (t_reading, .inl (k_reading, 40, .inl f_reading)), (t_vacuum, .inl (k_vacuum, 40, .inl f_vacuum))]) hP hD [3, 0, 1, 2] [] rfl rfl (by decide) (by decide) hk1 hFc hP1 hD1
      clear hP1 hD1 hK1
      clear hP hD hS hPc hDc hKc hFc hk1 hz1 ht hvm
      clear t
      revert hS1 hPn hDn; generalize H1 = H; generalize locs1 = locs; intro hS hP hD
      change va_P (dC, dI) vwCl [(h0, .inr (10, [.ref t_to, .ref t_height, .ref t_member, .ref t_lengthHome, .ref t_runs, .ref t_leak, .ref t_vacuum, .ref t_reading, .int n_tb])), (t_to, .inl (k_to, 40, .inl f_to)), (t_reading, .inl (k_reading, 40, .inl f_reading)), (t_vacuum, .inl (k_vacuum, 40, .inl f_vacuum))] H at hP
      change va_D A [(h0, .inr (10, [.ref t_to, .ref t_height, .ref t_member, .ref t_lengthHome, .ref t_runs, .ref t_leak, .ref t_vacuum, .ref t_reading, .int n_tb])), (t_to, .inl (k_to, 40, .inl f_to)), (t_reading, .inl (k_reading, 40, .inl f_reading)), (t_vacuum, .inl (k_vacuum, 40, .inl f_vacuum))] at hD
      refine lv_aload_n hx hb dX10_suspectBy_26 rfl (lv_at hl 0 rfl) ?_
      refine va_get (D := (dC, dI)) (ci := 10) (v := .ref t_reading) (C := RX10) (T := TX10) (N := 9) hx hb htb iX10 hown hK hP 0 rfl rfl 7 (Nat.le_of_ble_eq_true rfl) (htb _ m_41) (fun _ h9 => h9) rfl dX10_suspectBy_27 ?_
      refine lv_iload_n hx hb dX10_suspectBy_30 rfl (lv_at hl 1 rfl) ?_
      refine va_iald hx hb hK hP 2 1 rfl rfl (i_in rfl (lg_X10_suspectBy_3 n_tb f_reading v1 e_to e_reading nv x_4 r_12 yb yv1 h_2 t_7 t_8 t_9 t_11 h_13)) dX10_suspectBy_31 ?_
      refine lv_topi (fun x_14 ex_15 => ?_)
      have hq_16 : x_14 = e_reading (Int32.toNatClampNeg v1) := TbE_ld yTE (lg_X10_suspectBy_4 n_tb f_reading v1 e_to e_reading nv x_4 r_12 yb yv1 h_2 t_7 t_8 t_9 t_11 h_13) ex_15
      have t_17 : x_14.toInt = (e_reading (Int32.toNatClampNeg v1)).toInt := by rw [hq_16]
      have t_18 : (-1) ≤ x_14.toInt ∧ x_14.toInt ≤ 100 := Rg_ld yRe (i_in rfl (lg_X10_suspectBy_5 n_tb f_reading v1 e_to e_reading nv x_4 r_12 x_14 yb yv1 h_2 t_7 t_8 t_9 t_11 h_13 t_17)) hq_16
      have t_19 : x_14.toInt = (f_reading (Int32.toNatClampNeg v1)).toInt := by rw [ex_15]
      have t_20 : x_14.toInt = x_4.toInt := by rw [ex_15, ex_5]
      refine lv_isub hx hb dX10_suspectBy_32 ?_
      refine lv_topi (fun x_21 ex_22 => ?_)
      have t_23 : x_21.toInt = r_12.toInt - x_14.toInt := i_sub rfl rfl (lg_X10_suspectBy_6 n_tb f_reading v1 e_to e_reading nv x_4 r_12 x_14 yb yv1 h_2 t_7 t_8 t_9 t_11 h_13 t_17 t_18 t_19 t_20) ex_22
      refine va_mmax hx hb (hml.trans hl.1.symm) hown (htb _ m_435) (htb _ m_436) (htb _ m_14) (htb _ m_437) (Nat.le_of_ble_eq_true rfl) (Nat.le_of_ble_eq_true rfl) (Nat.le_of_ble_eq_true rfl) (Nat.le_of_ble_eq_true rfl) dX10_suspectBy_33 ?_
      refine lv_topi (fun x_24 ex_25 => ?_)
      have t_26 : ((0 : Int) < x_21.toInt ∧ x_24.toInt = x_21.toInt) ∨ (x_21.toInt ≤ (0 : Int) ∧ x_24.toInt = (0 : Int)) := i_max (by decide) rfl ex_25
      refine W.widen (k := 0) (n := 0) (Nat.le_of_ble_eq_true rfl) (Nat.le_of_ble_eq_true rfl) ?_
      have hP9 := hP.sub (ws' := [(h0, .inr (10, [.ref t_to, .ref t_height, .ref t_member, .ref t_lengthHome, .ref t_runs, .ref t_leak, .ref t_vacuum, .ref t_reading, .int n_tb])), (t_to, .inl (k_to, 40, .inl f_to)), (t_reading, .inl (k_reading, 40, .inl f_reading)), (t_vacuum, .inl (k_vacuum, 40, .inl f_vacuum))]) [0, 1, 2, 3] rfl
      have hD9 := hD.sub (ws' := [(h0, .inr (10, [.ref t_to, .ref t_height, .ref t_member, .ref t_lengthHome, .ref t_runs, .ref t_leak, .ref t_vacuum, .ref t_reading, .int n_tb])), (t_to, .inl (k_to, 40, .inl f_to)), (t_reading, .inl (k_reading, 40, .inl f_reading)), (t_vacuum, .inl (k_vacuum, 40, .inl f_vacuum))]) [0, 1, 2, 3] (by decide) rfl
      have hK9 := hK.sub (tys' := [(k_to, .int), (k_reading, .int), (k_vacuum, .int)]) [0, 1, 2] rfl
      exact W.iret (v := x_24) hx hb hr (fun t ht hW => ⟨⟨x_24, (), rfl, (lg_X10_suspectBy_7 n_tb f_reading v1 e_to e_reading nv x_4 r_12 x_14 x_21 x_24 yb yv1 h_2 t_7 t_8 t_9 t_11 h_13 t_17 t_18 t_19 t_20 t_23 t_26), ⟨by rw [ht]; exact hP9, va_K.moved hW.alike hK9, hD9⟩⟩, hS.F ht⟩) hS.2.2 dX10_suspectBy_36
    · have t_11 : x_4.toInt = (-1 : Int) := i_eq rfl (by decide) c_10
      refine lv_iconst (v := 0) hx hb dX10_suspectBy_18 (by decide) ?_
      refine W.widen (k := 0) (n := 0) (Nat.le_of_ble_eq_true rfl) (Nat.le_of_ble_eq_true rfl) ?_
      have hP9 := hP.sub (ws' := [(h0, .inr (10, [.ref t_to, .ref t_height, .ref t_member, .ref t_lengthHome, .ref t_runs, .ref t_leak, .ref t_vacuum, .ref t_reading, .int n_tb])), (t_to, .inl (k_to, 40, .inl f_to)), (t_reading, .inl (k_reading, 40, .inl f_reading)), (t_vacuum, .inl (k_vacuum, 40, .inl f_vacuum))]) [3, 0, 1, 2] rfl
      have hD9 := hD.sub (ws' := [(h0, .inr (10, [.ref t_to, .ref t_height, .ref t_member, .ref t_lengthHome, .ref t_runs, .ref t_leak, .ref t_vacuum, .ref t_reading, .int n_tb])), (t_to, .inl (k_to, 40, .inl f_to)), (t_reading, .inl (k_reading, 40, .inl f_reading)), (t_vacuum, .inl (k_vacuum, 40, .inl f_vacuum))]) [3, 0, 1, 2] (by decide) rfl
      have hK9 := hK.sub (tys' := [(k_to, .int), (k_reading, .int), (k_vacuum, .int)]) [0, 1, 2] rfl
      exact W.iret (v := 0) hx hb hr (fun t ht hW => ⟨⟨0, (), rfl, (lg_X10_suspectBy_8 n_tb f_reading v1 e_to e_reading nv x_4 yb yv1 h_2 t_7 t_8 t_9 t_11), ⟨by rw [ht]; exact hP9, va_K.moved hW.alike hK9, hD9⟩⟩, hS.F ht⟩) hS.2.2 dX10_suspectBy_19
  · refine lv_if_eq (tgt := 18) hx hb dX10_suspectBy_5 (by decide) ?_ (fun c_27 => absurd (by decide) c_27)
    intro _
    refine lv_iconst (v := 0) hx hb dX10_suspectBy_18 (by decide) ?_
    refine W.widen (k := 0) (n := 0) (Nat.le_of_ble_eq_true rfl) (Nat.le_of_ble_eq_true rfl) ?_
    have hP9 := hP.sub (ws' := [(h0, .inr (10, [.ref t_to, .ref t_height, .ref t_member, .ref t_lengthHome, .ref t_runs, .ref t_leak, .ref t_vacuum, .ref t_reading, .int n_tb])), (t_to, .inl (k_to, 40, .inl f_to)), (t_reading, .inl (k_reading, 40, .inl f_reading)), (t_vacuum, .inl (k_vacuum, 40, .inl f_vacuum))]) [3, 0, 1, 2] rfl
    have hD9 := hD.sub (ws' := [(h0, .inr (10, [.ref t_to, .ref t_height, .ref t_member, .ref t_lengthHome, .ref t_runs, .ref t_leak, .ref t_vacuum, .ref t_reading, .int n_tb])), (t_to, .inl (k_to, 40, .inl f_to)), (t_reading, .inl (k_reading, 40, .inl f_reading)), (t_vacuum, .inl (k_vacuum, 40, .inl f_vacuum))]) [3, 0, 1, 2] (by decide) rfl
    have hK9 := hK.sub (tys' := [(k_to, .int), (k_reading, .int), (k_vacuum, .int)]) [0, 1, 2] rfl
    exact W.iret (v := 0) hx hb hr (fun t ht hW => ⟨⟨0, (), rfl, (lg_X10_suspectBy_9 n_tb v1 e_to e_reading nv yb yv1 h_2), ⟨by rw [ht]; exact hP9, va_K.moved hW.alike hK9, hD9⟩⟩, hS.F ht⟩) hS.2.2 dX10_suspectBy_19

theorem lg_X10_setHouseVacuum_0 (n_tb : Int32) (v1 : Int32) (yb : 1 ≤ n_tb.toInt ∧ n_tb.toInt ≤ 40) (yv : 0 ≤ v1.toInt ∧ v1.toInt ≤ 100) : 0 ≤ v1.toInt ∧ v1.toInt ≤ 100 := by
  have := rg_rng n_tb; have := rg_rng v1; omega
set_option maxHeartbeats 4000000 in
set_option maxRecDepth 100000 in
theorem kX10_setHouseVacuum (l : Launch) (dC : Nat → ClassId) (dI : Nat → Nat → Nat) (sz : Nat) (h0 : Nat) (t_to : Nat) (t_height : Nat) (t_member : Nat) (t_lengthHome : Nat) (t_runs : Nat) (t_leak : Nat) (t_vacuum : Nat) (t_reading : Nat) (n_tb : Int32) (k_to : ClassId) (k_leak : ClassId) (k_vacuum : ClassId) (f_to : Nat → Int32) (f_leak : Nat → Int32) (f_vacuum : Nat → Int32) (v1 : Int32) (e_to : Nat → Int32) (yb : 1 ≤ n_tb.toInt ∧ n_tb.toInt ≤ 40) (yvac : Rg f_vacuum 40 0 100) (ylk : Rg f_leak 40 0 20) (yv : 0 ≤ v1.toInt ∧ v1.toInt ≤ 100) (yTT : TbT f_to e_to n_tb.toInt) (yDn : Dn e_to) : Met l yX10_setHouseVacuum (Cond.code yX10_setHouseVacuum cX10_setHouseVacuum 2 none :: bg) ({ frames := 3, cells := 0, slots := 0, locals := 63 }) (pcW dC dI [.ref h0, .int v1] sz [(h0, .inr (10, [.ref t_to, .ref t_height, .ref t_member, .ref t_lengthHome, .ref t_runs, .ref t_leak, .ref t_vacuum, .ref t_reading, .int n_tb])), (t_to, .inl (k_to, 40, .inl f_to)), (t_leak, .inl (k_leak, 40, .inl f_leak)), (t_vacuum, .inl (k_vacuum, 40, .inl f_vacuum))] [(k_to, .int), (k_leak, .int), (k_vacuum, .int)]) (va_Qv (fun (u : Unit) => True) (fun (u : Unit) (t : State) => ∃ (w_vacuum : Nat → Int32), Rg w_vacuum 40 0 100 ∧ TbV w_vacuum e_to f_leak v1 n_tb.toInt ∧ V0 w_vacuum v1 ∧ va_P (dC, dI) vwCl [(h0, .inr (10, [.ref t_to, .ref t_height, .ref t_member, .ref t_lengthHome, .ref t_runs, .ref t_leak, .ref t_vacuum, .ref t_reading, .int n_tb])), (t_to, .inl (k_to, 40, .inl f_to)), (t_leak, .inl (k_leak, 40, .inl f_leak)), (t_vacuum, .inl (k_vacuum, 40, .inl w_vacuum))] t.heap ∧ va_K (dC, dI) vwCl [] t ∧ va_D (va_A [(h0, .inr (10, [.ref t_to, .ref t_height, .ref t_member, .ref t_lengthHome, .ref t_runs, .ref t_leak, .ref t_vacuum, .ref t_reading, .int n_tb])), (t_to, .inl (k_to, 40, .inl f_to)), (t_leak, .inl (k_leak, 40, .inl f_leak)), (t_vacuum, .inl (k_vacuum, 40, .inl f_vacuum))] sz) [(h0, .inr (10, [.ref t_to, .ref t_height, .ref t_member, .ref t_lengthHome, .ref t_runs, .ref t_leak, .ref t_vacuum, .ref t_reading, .int n_tb])), (t_to, .inl (k_to, 40, .inl f_to)), (t_leak, .inl (k_leak, 40, .inl f_leak)), (t_vacuum, .inl (k_vacuum, 40, .inl w_vacuum))]) (va_A [(h0, .inr (10, [.ref t_to, .ref t_height, .ref t_member, .ref t_lengthHome, .ref t_runs, .ref t_leak, .ref t_vacuum, .ref t_reading, .int n_tb])), (t_to, .inl (k_to, 40, .inl f_to)), (t_leak, .inl (k_leak, 40, .inl f_leak)), (t_vacuum, .inl (k_vacuum, 40, .inl f_vacuum))] sz)) 0 0 (va_A [(h0, .inr (10, [.ref t_to, .ref t_height, .ref t_member, .ref t_lengthHome, .ref t_runs, .ref t_leak, .ref t_vacuum, .ref t_reading, .int n_tb])), (t_to, .inl (k_to, 40, .inl f_to)), (t_leak, .inl (k_leak, 40, .inl f_leak)), (t_vacuum, .inl (k_vacuum, 40, .inl f_vacuum))] sz) := by
  refine Met.ofW (cc := cX10_setHouseVacuum) (maxL := 2) (ret := none) pnX10 rfl ?_
  intro p e s m args below meth c s₁ B hml hv
  obtain ⟨rfl, hsz, hP, hK, hD0, hN⟩ := hv
  have hx := B.exec
  have hb := B.bytes
  have hr := B.returns
  have htb : ∀ w ∈ bg, w.before [.ref h0, .int v1].toArray s = true := fun w h => atoms_spec (ws := Cond.code yX10_setHouseVacuum cX10_setHouseVacuum 2 none :: bg) B.pre w (List.mem_cons_of_mem _ h)
  have hown : s.vm.findClass RX10 = some m.cls := findClass_of_methodNamed B.named
  have hlocks := B.notSynchronized
  subst hsz
  have hD := hD0.self (sz := s.heap.size)
  generalize hAe : va_A [(h0, .inr (10, [.ref t_to, .ref t_height, .ref t_member, .ref t_lengthHome, .ref t_runs, .ref t_leak, .ref t_vacuum, .ref t_reading, .int n_tb])), (t_to, .inl (k_to, 40, .inl f_to)), (t_leak, .inl (k_leak, 40, .inl f_leak)), (t_vacuum, .inl (k_vacuum, 40, .inl f_vacuum))] s.heap.size = A at hD ⊢
  have hA : ∀ q : Nat, s.heap.size ≤ q → A q := fun q h => by rw [← hAe]; exact Or.inr h
  have hS : va_S A s.heap s.heap [] := va_S.rf
  have hl := lv_entry ([.ref h0, .int v1]) (n := 2) (Nat.le_of_ble_eq_true rfl)
  rw [lg_entry_eq]
  generalize (lg_sl ([.ref h0, .int v1]) ++ List.replicate (2 - (lg_sl ([.ref h0, .int v1])).length) Slot.unset).toArray = ls at hl ⊢
  change lv_has ls 2 [(0, .ref h0), (1, .int v1)] at hl
  clear hD0 hAe
  refine go0 (wsP := fun H => va_P (dC, dI) vwCl [(h0, .inr (10, [.ref t_to, .ref t_height, .ref t_member, .ref t_lengthHome, .ref t_runs, .ref t_leak, .ref t_vacuum, .ref t_reading, .int n_tb])), (t_to, .inl (k_to, 40, .inl f_to)), (t_leak, .inl (k_leak, 40, .inl f_leak)), (t_vacuum, .inl (k_vacuum, 40, .inl f_vacuum))] H) hP hS ?_
  clear hP hS; intro H locs hP hS
  change va_P (dC, dI) vwCl [(h0, .inr (10, [.ref t_to, .ref t_height, .ref t_member, .ref t_lengthHome, .ref t_runs, .ref t_leak, .ref t_vacuum, .ref t_reading, .int n_tb])), (t_to, .inl (k_to, 40, .inl f_to)), (t_leak, .inl (k_leak, 40, .inl f_leak)), (t_vacuum, .inl (k_vacuum, 40, .inl f_vacuum))] H at hP
  refine lv_aload_n hx hb dX10_setHouseVacuum_0 rfl (lv_at hl 0 rfl) ?_
  refine va_get (D := (dC, dI)) (ci := 10) (v := .ref t_vacuum) (C := RX10) (T := TX10) (N := 9) hx hb htb iX10 hown hK hP 0 rfl rfl 6 (Nat.le_of_ble_eq_true rfl) (htb _ m_40) (fun _ h9 => h9) rfl dX10_setHouseVacuum_1 ?_
  refine lv_iconst (v := 0) hx hb dX10_setHouseVacuum_4 (by decide) ?_
  refine lv_iload_n hx hb dX10_setHouseVacuum_5 rfl (lv_at hl 1 rfl) ?_
  refine va_iast hx hb hK hP hD hS 3 2 rfl rfl (by unfold vp_in; decide) dX10_setHouseVacuum_6 ?_
  clear hP hD hS; intro H locs hP hD hS
  change va_P (dC, dI) vwCl [(h0, .inr (10, [.ref t_to, .ref t_height, .ref t_member, .ref t_lengthHome, .ref t_runs, .ref t_leak, .ref t_vacuum, .ref t_reading, .int n_tb])), (t_to, .inl (k_to, 40, .inl f_to)), (t_leak, .inl (k_leak, 40, .inl f_leak)), (t_vacuum, .inl (k_vacuum, 40, .inl (upd f_vacuum (Int32.toNatClampNeg 0) v1)))] H at hP
  change va_D A [(h0, .inr (10, [.ref t_to, .ref t_height, .ref t_member, .ref t_lengthHome, .ref t_runs, .ref t_leak, .ref t_vacuum, .ref t_reading, .int n_tb])), (t_to, .inl (k_to, 40, .inl f_to)), (t_leak, .inl (k_leak, 40, .inl f_leak)), (t_vacuum, .inl (k_vacuum, 40, .inl (upd f_vacuum (Int32.toNatClampNeg 0) v1)))] at hD
  have hR_2 : Rg (upd f_vacuum (Int32.toNatClampNeg 0) v1) 40 0 100 := Rg_st yvac rfl (lg_X10_setHouseVacuum_0 n_tb v1 yb yv)
  have hQ_3 : V0 (upd f_vacuum (Int32.toNatClampNeg 0) v1) v1 := V0_h (by decide)
  generalize upd f_vacuum (Int32.toNatClampNeg 0) v1 = g_1 at hP hD hR_2 hQ_3
  refine lv_aload_n hx hb dX10_setHouseVacuum_7 rfl (lv_at hl 0 rfl) ?_
  have hPc := hP.sub (ws' := [(h0, .inr (10, [.ref t_to, .ref t_height, .ref t_member, .ref t_lengthHome, .ref t_runs, .ref t_leak, .ref t_vacuum, .ref t_reading, .int n_tb])), (t_to, .inl (k_to, 40, .inl f_to)), (t_leak, .inl (k_leak, 40, .inl f_leak)), (t_vacuum, .inl (k_vacuum, 40, .inl g_1))]) [0, 1, 2, 3] rfl
  have hDc := hD.sub (ws' := [(h0, .inr (10, [.ref t_to, .ref t_height, .ref t_member, .ref t_lengthHome, .ref t_runs, .ref t_leak, .ref t_vacuum, .ref t_reading, .int n_tb])), (t_to, .inl (k_to, 40, .inl f_to)), (t_leak, .inl (k_leak, 40, .inl f_leak)), (t_vacuum, .inl (k_vacuum, 40, .inl g_1))]) [0, 1, 2, 3] (by decide) rfl
  have hKc := hK.sub (tys' := [(k_to, .int), (k_leak, .int), (k_vacuum, .int)]) [0, 1, 2] rfl
  have hFc := va_free (wc := [(h0, .inr (10, [.ref t_to, .ref t_height, .ref t_member, .ref t_lengthHome, .ref t_runs, .ref t_leak, .ref t_vacuum, .ref t_reading, .int n_tb])), (t_to, .inl (k_to, 40, .inl f_to)), (t_leak, .inl (k_leak, 40, .inl f_leak)), (t_vacuum, .inl (k_vacuum, 40, .inl g_1))]) hD hS hA [0, 1, 2, 3] rfl
  refine va_callv (va_runV (C := RX10) (As := []) (rest := []) ⟨hx, hb, hml, hown, htb⟩ (kX10_settleVacuum l dC dI H.size h0 t_to t_height t_member t_lengthHome t_runs t_leak t_vacuum t_reading n_tb k_to k_leak k_vacuum f_to f_leak g_1 e_to v1 yb hR_2 ylk yTT yDn hQ_3) ⟨callB_of 0 htb (gd_c m_430) rfl rfl rfl (htb _ m_2) (htb _ m_427) hdX10_settleVacuum ⟨(Nat.le_of_ble_eq_true rfl), (Nat.le_of_ble_eq_true rfl)⟩, htb _ m_429, htb _ ms_0⟩ ⟨pcW_blind, va_recv hKc hPc (ci := 10) (q0 := 0) rfl rfl, pcW_at hPc hKc hDc hN⟩ rfl rfl hl.1 rfl (lv_room (Nat.le_of_ble_eq_true rfl)) dX10_setHouseVacuum_8 ⟨(Nat.le_of_ble_eq_true rfl), (Nat.le_of_ble_eq_true rfl)⟩) hS (fun q _ h => hFc q h) hFc (fun u t H1 locs1 ht hvm h_5 hB hz1 hk1 hS1 => ?_)
  obtain ⟨w_vacuum_6, e_7, e_8, e_9, hP1, hK1, hD1⟩ := hB
  rw [ht] at hP1
  obtain ⟨hPn, hDn⟩ := va_join (wr := []) (w1 := [(h0, .inr (10, [.ref t_to, .ref t_height, .ref t_member, .ref t_lengthHome, .ref t_runs, .ref t_leak, .ref t_vacuum, .ref t_reading, .int n_tb])), (t_to, .inl (k_to, 40, .inl f_to)), (t_leak, .inl (k_leak, 40, .inl f_leak)), (t_vacuum, .inl (k_vacuum, 40, .inl w_vacuum_6))]) hP hD [0, 1, 2, 3] [] rfl rfl (by decide) (by decide) hk1 hFc hP1 hD1
  clear hP1 hD1 hK1
  clear hP hD hS hPc hDc hKc hFc hk1 hz1 ht hvm
  clear t
  revert hS1 hPn hDn; generalize H1 = H; generalize locs1 = locs; intro hS hP hD
  change va_P (dC, dI) vwCl [(h0, .inr (10, [.ref t_to, .ref t_height, .ref t_member, .ref t_lengthHome, .ref t_runs, .ref t_leak, .ref t_vacuum, .ref t_reading, .int n_tb])), (t_to, .inl (k_to, 40, .inl f_to)), (t_leak, .inl (k_leak, 40, .inl f_leak)), (t_vacuum, .inl (k_vacuum, 40, .inl w_vacuum_6))] H at hP
  change va_D A [(h0, .inr (10, [.ref t_to, .ref t_height, .ref t_member, .ref t_lengthHome, .ref t_runs, .ref t_leak, .ref t_vacuum, .ref t_reading, .int n_tb])), (t_to, .inl (k_to, 40, .inl f_to)), (t_leak, .inl (k_leak, 40, .inl f_leak)), (t_vacuum, .inl (k_vacuum, 40, .inl w_vacuum_6))] at hD
  refine W.widen (k := 0) (n := 0) (Nat.le_of_ble_eq_true rfl) (Nat.le_of_ble_eq_true rfl) ?_
  have hP9 := hP.sub (ws' := [(h0, .inr (10, [.ref t_to, .ref t_height, .ref t_member, .ref t_lengthHome, .ref t_runs, .ref t_leak, .ref t_vacuum, .ref t_reading, .int n_tb])), (t_to, .inl (k_to, 40, .inl f_to)), (t_leak, .inl (k_leak, 40, .inl f_leak)), (t_vacuum, .inl (k_vacuum, 40, .inl w_vacuum_6))]) [0, 1, 2, 3] rfl
  have hD9 := hD.sub (ws' := [(h0, .inr (10, [.ref t_to, .ref t_height, .ref t_member, .ref t_lengthHome, .ref t_runs, .ref t_leak, .ref t_vacuum, .ref t_reading, .int n_tb])), (t_to, .inl (k_to, 40, .inl f_to)), (t_leak, .inl (k_leak, 40, .inl f_leak)), (t_vacuum, .inl (k_vacuum, 40, .inl w_vacuum_6))]) [0, 1, 2, 3] (by decide) rfl
  have hK9 := hK.sub (tys' := []) [] rfl
  exact W.vret hx hb hr (fun t ht hW => ⟨⟨(), rfl, trivial, ⟨w_vacuum_6, e_7, e_8, e_9, by rw [ht]; exact hP9, va_K.moved hW.alike hK9, hD9⟩⟩, hS.F ht⟩) hS.2.2 dX10_setHouseVacuum_11
