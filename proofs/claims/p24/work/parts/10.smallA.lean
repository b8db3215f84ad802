theorem lg_X11_isWithin_0 (v1 : Int32) (v2 : Int32) (v3 : Int32) (t_2 : v1.toInt < v2.toInt) : ¬ (v2.toInt ≤ v1.toInt ∧ v1.toInt ≤ v3.toInt) := by
  have := rg_rng v1; have := rg_rng v2; have := rg_rng v3; omega
theorem lg_X11_isWithin_1 (v1 : Int32) (v2 : Int32) (v3 : Int32) (t_2 : v2.toInt ≤ v1.toInt) (t_4 : v3.toInt < v1.toInt) : ¬ (v2.toInt ≤ v1.toInt ∧ v1.toInt ≤ v3.toInt) := by
  have := rg_rng v1; have := rg_rng v2; have := rg_rng v3; omega
theorem lg_X11_isWithin_2 (v1 : Int32) (v2 : Int32) (v3 : Int32) (t_2 : v2.toInt ≤ v1.toInt) (t_4 : v1.toInt ≤ v3.toInt) : v2.toInt ≤ v1.toInt ∧ v1.toInt ≤ v3.toInt := by
  have := rg_rng v1; have := rg_rng v2; have := rg_rng v3; omega
set_option maxHeartbeats 4000000 in
set_option maxRecDepth 100000 in
theorem kX11_isWithin (l : Launch) (dC : Nat → ClassId) (dI : Nat → Nat → Nat) (sz : Nat) (v1 : Int32) (v2 : Int32) (v3 : Int32) : Met l yX11_isWithin (Cond.code yX11_isWithin cX11_isWithin 3 (some .boolean) :: bg) ({ frames := 0, cells := 0, slots := 0, locals := 0 }) (pcW dC dI [.int v1, .int v2, .int v3] sz [] []) (va_Qi (fun (r : Int32) (u : Unit) => (r = 1 ∧ v2.toInt ≤ v1.toInt ∧ v1.toInt ≤ v3.toInt) ∨ (r = 0 ∧ ¬ (v2.toInt ≤ v1.toInt ∧ v1.toInt ≤ v3.toInt))) (fun (u : Unit) (t : State) => va_P (dC, dI) vwCl [] t.heap ∧ va_K (dC, dI) vwCl [] t ∧ va_D (va_A [] sz) []) (va_A [] sz)) 0 0 (va_A [] sz) := by
  refine Met.ofW (cc := cX11_isWithin) (maxL := 3) (ret := (some .boolean)) pnX11 rfl ?_
  intro p e s m args below meth c s₁ B hml hv
  obtain ⟨rfl, hsz, hP, hK, hD0, hN⟩ := hv
  have hx := B.exec
  have hb := B.bytes
  have hr := B.returns
  have htb : ∀ w ∈ bg, w.before [.int v1, .int v2, .int v3].toArray s = true := fun w h => atoms_spec (ws := Cond.code yX11_isWithin cX11_isWithin 3 (some .boolean) :: bg) B.pre w (List.mem_cons_of_mem _ h)
  have hown : s.vm.findClass RX11 = some m.cls := findClass_of_methodNamed B.named
  have hlocks := B.notSynchronized
  subst hsz
  have hD := hD0.self (sz := s.heap.size)
  generalize hAe : va_A [] s.heap.size = A at hD ⊢
  have hA : ∀ q : Nat, s.heap.size ≤ q → A q := fun q h => by rw [← hAe]; exact Or.inr h
  have hS : va_S A s.heap s.heap [] := va_S.rf
  have hl := lv_entry ([.int v1, .int v2, .int v3]) (n := 3) (Nat.le_of_ble_eq_true rfl)
  rw [lg_entry_eq]
  generalize (lg_sl ([.int v1, .int v2, .int v3]) ++ List.replicate (3 - (lg_sl ([.int v1, .int v2, .int v3])).length) Slot.unset).toArray = ls at hl ⊢
  change lv_has ls 3 [(0, .int v1), (1, .int v2), (2, .int v3)] at hl
  clear hD0 hAe
  refine go0 (wsP := fun H => va_P (dC, dI) vwCl [] H) hP hS ?_
  clear hP hS; intro H locs hP hS
  change va_P (dC, dI) vwCl [] H at hP
  refine lv_iload_n hx hb dX11_isWithin_0 rfl (lv_at hl 0 rfl) ?_
  refine lv_iload_n hx hb dX11_isWithin_1 rfl (lv_at hl 1 rfl) ?_
  refine lv_icmp_lt (tgt := 14) hx hb dX11_isWithin_2 (by decide) (fun c_1 => ?_) (fun c_1 => ?_)
  · have t_2 : v1.toInt < v2.toInt := i_lt rfl rfl c_1
    refine lv_iconst (v := 0) hx hb dX11_isWithin_14 (by decide) ?_
    refine W.widen (k := 0) (n := 0) (Nat.le_of_ble_eq_true rfl) (Nat.le_of_ble_eq_true rfl) ?_
    have hP9 := hP.sub (ws' := []) [] rfl
    have hD9 := hD.sub (ws' := []) [] (by decide) rfl
    have hK9 := hK.sub (tys' := []) [] rfl
    exact W.zret (ty := .boolean) (v := 0) hx hb hr rfl (fun t ht hW => ⟨⟨0, (), rfl, (Or.inr (⟨rfl, (lg_X11_isWithin_0 v1 v2 v3 t_2)⟩)), ⟨by rw [ht]; exact hP9, va_K.moved hW.alike hK9, hD9⟩⟩, hS.F ht⟩) hS.2.2 dX11_isWithin_15
  · have t_2 : v2.toInt ≤ v1.toInt := i_nlt rfl rfl c_1
    refine lv_iload_n hx hb dX11_isWithin_5 rfl (lv_at hl 0 rfl) ?_
    refine lv_iload_n hx hb dX11_isWithin_6 rfl (lv_at hl 2 rfl) ?_
    refine lv_icmp_gt (tgt := 14) hx hb dX11_isWithin_7 (by decide) (fun c_3 => ?_) (fun c_3 => ?_)
    · have t_4 : v3.toInt < v1.toInt := i_lt rfl rfl c_3
      refine lv_iconst (v := 0) hx hb dX11_isWithin_14 (by decide) ?_
      refine W.widen (k := 0) (n := 0) (Nat.le_of_ble_eq_true rfl) (Nat.le_of_ble_eq_true rfl) ?_
      have hP9 := hP.sub (ws' := []) [] rfl
      have hD9 := hD.sub (ws' := []) [] (by decide) rfl
      have hK9 := hK.sub (tys' := []) [] rfl
      exact W.zret (ty := .boolean) (v := 0) hx hb hr rfl (fun t ht hW => ⟨⟨0, (), rfl, (Or.inr (⟨rfl, (lg_X11_isWithin_1 v1 v2 v3 t_2 t_4)⟩)), ⟨by rw [ht]; exact hP9, va_K.moved hW.alike hK9, hD9⟩⟩, hS.F ht⟩) hS.2.2 dX11_isWithin_15
    · have t_4 : v1.toInt ≤ v3.toInt := i_nlt rfl rfl c_3
      refine lv_iconst (v := 1) hx hb dX11_isWithin_10 (by decide) ?_
      refine lv_goto (tgt := 15) hx hb dX11_isWithin_11 (by decide) ?_
      refine W.widen (k := 0) (n := 0) (Nat.le_of_ble_eq_true rfl) (Nat.le_of_ble_eq_true rfl) ?_
      have hP9 := hP.sub (ws' := []) [] rfl
      have hD9 := hD.sub (ws' := []) [] (by decide) rfl
      have hK9 := hK.sub (tys' := []) [] rfl
      exact W.zret (ty := .boolean) (v := 1) hx hb hr rfl (fun t ht hW => ⟨⟨1, (), rfl, (Or.inl ⟨rfl, (lg_X11_isWithin_2 v1 v2 v3 t_2 t_4)⟩), ⟨by rw [ht]; exact hP9, va_K.moved hW.alike hK9, hD9⟩⟩, hS.F ht⟩) hS.2.2 dX11_isWithin_15

theorem lg_X12_isIn_0 (v1 : Int32) (v2 : Int32) (v3 : Int32) (t_2 : v1.toInt < v2.toInt) : ¬ (v2.toInt ≤ v1.toInt ∧ v1.toInt ≤ v3.toInt) := by
  have := rg_rng v1; have := rg_rng v2; have := rg_rng v3; omega
theorem lg_X12_isIn_1 (v1 : Int32) (v2 : Int32) (v3 : Int32) (t_2 : v2.toInt ≤ v1.toInt) (t_4 : v3.toInt < v1.toInt) : ¬ (v2.toInt ≤ v1.toInt ∧ v1.toInt ≤ v3.toInt) := by
  have := rg_rng v1; have := rg_rng v2; have := rg_rng v3; omega
theorem lg_X12_isIn_2 (v1 : Int32) (v2 : Int32) (v3 : Int32) (t_2 : v2.toInt ≤ v1.toInt) (t_4 : v1.toInt ≤ v3.toInt) : v2.toInt ≤ v1.toInt ∧ v1.toInt ≤ v3.toInt := by
  have := rg_rng v1; have := rg_rng v2; have := rg_rng v3; omega
set_option maxHeartbeats 4000000 in
set_option maxRecDepth 100000 in
theorem kX12_isIn (l : Launch) (dC : Nat → ClassId) (dI : Nat → Nat → Nat) (sz : Nat) (v1 : Int32) (v2 : Int32) (v3 : Int32) : Met l yX12_isIn (Cond.code yX12_isIn cX12_isIn 3 (some .boolean) :: bg) ({ frames := 0, cells := 0, slots := 0, locals := 0 }) (pcW dC dI [.int v1, .int v2, .int v3] sz [] []) (va_Qi (fun (r : Int32) (u : Unit) => (r = 1 ∧ v2.toInt ≤ v1.toInt ∧ v1.toInt ≤ v3.toInt) ∨ (r = 0 ∧ ¬ (v2.toInt ≤ v1.toInt ∧ v1.toInt ≤ v3.toInt))) (fun (u : Unit) (t : State) => va_P (dC, dI) vwCl [] t.heap ∧ va_K (dC, dI) vwCl [] t ∧ va_D (va_A [] sz) []) (va_A [] sz)) 0 0 (va_A [] sz) := by
  refine Met.ofW (cc := cX12_isIn) (maxL := 3) (ret := (some .boolean)) pnX12 rfl ?_
  intro p e s m args below meth c s₁ B hml hv
  obtain ⟨rfl, hsz, hP, hK, hD0, hN⟩ := hv
  have hx := B.exec
  have hb := B.bytes
  have hr := B.returns
  have htb : ∀ w ∈ bg, w.before [.int v1, .int v2, .int v3].toArray s = true := fun w h => atoms_spec (ws := Cond.code yX12_isIn cX12_isIn 3 (some .boolean) :: bg) B.pre w (List.mem_cons_of_mem _ h)
  have hown : s.vm.findClass RX12 = some m.cls := findClass_of_methodNamed B.named
  have hlocks := B.notSynchronized
  subst hsz
  have hD := hD0.self (sz := s.heap.size)
  generalize hAe : va_A [] s.heap.size = A at hD ⊢
  have hA : ∀ q : Nat, s.heap.size ≤ q → A q := fun q h => by rw [← hAe]; exact Or.inr h
  have hS : va_S A s.heap s.heap [] := va_S.rf
  have hl := lv_entry ([.int v1, .int v2, .int v3]) (n := 3) (Nat.le_of_ble_eq_true rfl)
  rw [lg_entry_eq]
  generalize (lg_sl ([.int v1, .int v2, .int v3]) ++ List.replicate (3 - (lg_sl ([.int v1, .int v2, .int v3])).length) Slot.unset).toArray = ls at hl ⊢
  change lv_has ls 3 [(0, .int v1), (1, .int v2), (2, .int v3)] at hl
  clear hD0 hAe
  refine go0 (wsP := fun H => va_P (dC, dI) vwCl [] H) hP hS ?_
  clear hP hS; intro H locs hP hS
  change va_P (dC, dI) vwCl [] H at hP
  refine lv_iload_n hx hb dX12_isIn_0 rfl (lv_at hl 0 rfl) ?_
  refine lv_iload_n hx hb dX12_isIn_1 rfl (lv_at hl 1 rfl) ?_
  refine lv_icmp_lt (tgt := 14) hx hb dX12_isIn_2 (by decide) (fun c_1 => ?_) (fun c_1 => ?_)
  · have t_2 : v1.toInt < v2.toInt := i_lt rfl rfl c_1
    refine lv_iconst (v := 0) hx hb dX12_isIn_14 (by decide) ?_
    refine W.widen (k := 0) (n := 0) (Nat.le_of_ble_eq_true rfl) (Nat.le_of_ble_eq_true rfl) ?_
    have hP9 := hP.sub (ws' := []) [] rfl
    have hD9 := hD.sub (ws' := []) [] (by decide) rfl
    have hK9 := hK.sub (tys' := []) [] rfl
    exact W.zret (ty := .boolean) (v := 0) hx hb hr rfl (fun t ht hW => ⟨⟨0, (), rfl, (Or.inr (⟨rfl, (lg_X12_isIn_0 v1 v2 v3 t_2)⟩)), ⟨by rw [ht]; exact hP9, va_K.moved hW.alike hK9, hD9⟩⟩, hS.F ht⟩) hS.2.2 dX12_isIn_15
  · have t_2 : v2.toInt ≤ v1.toInt := i_nlt rfl rfl c_1
    refine lv_iload_n hx hb dX12_isIn_5 rfl (lv_at hl 0 rfl) ?_
    refine lv_iload_n hx hb dX12_isIn_6 rfl (lv_at hl 2 rfl) ?_
    refine lv_icmp_gt (tgt := 14) hx hb dX12_isIn_7 (by decide) (fun c_3 => ?_) (fun c_3 => ?_)
    · have t_4 : v3.toInt < v1.toInt := i_lt rfl rfl c_3
      refine lv_iconst (v := 0) hx hb dX12_isIn_14 (by decide) ?_
      refine W.widen (k := 0) (n := 0) (Nat.le_of_ble_eq_true rfl) (Nat.le_of_ble_eq_true rfl) ?_
      have hP9 := hP.sub (ws' := []) [] rfl
      have hD9 := hD.sub (ws' := []) [] (by decide) rfl
      have hK9 := hK.sub (tys' := []) [] rfl
      exact W.zret (ty := .boolean) (v := 0) hx hb hr rfl (fun t ht hW => ⟨⟨0, (), rfl, (Or.inr (⟨rfl, (lg_X12_isIn_1 v1 v2 v3 t_2 t_4)⟩)), ⟨by rw [ht]; exact hP9, va_K.moved hW.alike hK9, hD9⟩⟩, hS.F ht⟩) hS.2.2 dX12_isIn_15
    · have t_4 : v1.toInt ≤ v3.toInt := i_nlt rfl rfl c_3
      refine lv_iconst (v := 1) hx hb dX12_isIn_10 (by decide) ?_
      refine lv_goto (tgt := 15) hx hb dX12_isIn_11 (by decide) ?_
      refine W.widen (k := 0) (n := 0) (Nat.le_of_ble_eq_true rfl) (Nat.le_of_ble_eq_true rfl) ?_
      have hP9 := hP.sub (ws' := []) [] rfl
      have hD9 := hD.sub (ws' := []) [] (by decide) rfl
      have hK9 := hK.sub (tys' := []) [] rfl
      exact W.zret (ty := .boolean) (v := 1) hx hb hr rfl (fun t ht hW => ⟨⟨1, (), rfl, (Or.inl ⟨rfl, (lg_X12_isIn_2 v1 v2 v3 t_2 t_4)⟩), ⟨by rw [ht]; exact hP9, va_K.moved hW.alike hK9, hD9⟩⟩, hS.F ht⟩) hS.2.2 dX12_isIn_15

theorem lg_X11_isMember_0 (v1 : Int32) (h_2 : (0 : Int) ≤ v1.toInt ∧ v1.toInt ≤ (9 : Int)) : 0 ≤ v1.toInt ∧ v1.toInt ≤ 9 := by
  have := rg_rng v1; omega
theorem lg_X11_isMember_1 (v1 : Int32) (h_2 : ¬ ((0 : Int) ≤ v1.toInt ∧ v1.toInt ≤ (9 : Int))) : ¬ (0 ≤ v1.toInt ∧ v1.toInt ≤ 9) := by
  have := rg_rng v1; omega
set_option maxHeartbeats 4000000 in
set_option maxRecDepth 100000 in
theorem kX11_isMember (l : Launch) (dC : Nat → ClassId) (dI : Nat → Nat → Nat) (sz : Nat) (v1 : Int32) : Met l yX11_isMember (Cond.code yX11_isMember cX11_isMember 1 (some .boolean) :: bg) ({ frames := 1, cells := 0, slots := 0, locals := 22 }) (pcW dC dI [.int v1] sz [] []) (va_Qi (fun (r : Int32) (u : Unit) => (r = 1 ∧ 0 ≤ v1.toInt ∧ v1.toInt ≤ 9) ∨ (r = 0 ∧ ¬ (0 ≤ v1.toInt ∧ v1.toInt ≤ 9))) (fun (u : Unit) (t : State) => va_P (dC, dI) vwCl [] t.heap ∧ va_K (dC, dI) vwCl [] t ∧ va_D (va_A [] sz) []) (va_A [] sz)) 0 0 (va_A [] sz) := by
  refine Met.ofW (cc := cX11_isMember) (maxL := 1) (ret := (some .boolean)) pnX11 rfl ?_
  intro p e s m args below meth c s₁ B hml hv
  obtain ⟨rfl, hsz, hP, hK, hD0, hN⟩ := hv
  have hx := B.exec
  have hb := B.bytes
  have hr := B.returns
  have htb : ∀ w ∈ bg, w.before [.int v1].toArray s = true := fun w h => atoms_spec (ws := Cond.code yX11_isMember cX11_isMember 1 (some .boolean) :: bg) B.pre w (List.mem_cons_of_mem _ h)
  have hown : s.vm.findClass RX11 = some m.cls := findClass_of_methodNamed B.named
  have hlocks := B.notSynchronized
  subst hsz
  have hD := hD0.self (sz := s.heap.size)
  generalize hAe : va_A [] s.heap.size = A at hD ⊢
  have hA : ∀ q : Nat, s.heap.size ≤ q → A q := fun q h => by rw [← hAe]; exact Or.inr h
  have hS : va_S A s.heap s.heap [] := va_S.rf
  have hl := lv_entry ([.int v1]) (n := 1) (Nat.le_of_ble_eq_true rfl)
  rw [lg_entry_eq]
  generalize (lg_sl ([.int v1]) ++ List.replicate (1 - (lg_sl ([.int v1])).length) Slot.unset).toArray = ls at hl ⊢
  change lv_has ls 1 [(0, .int v1)] at hl
  clear hD0 hAe
  refine go0 (wsP := fun H => va_P (dC, dI) vwCl [] H) hP hS ?_
  clear hP hS; intro H locs hP hS
  change va_P (dC, dI) vwCl [] H at hP
  refine lv_iload_n hx hb dX11_isMember_0 rfl (lv_at hl 0 rfl) ?_
  refine lv_iconst (v := 0) hx hb dX11_isMember_1 (by decide) ?_
  refine lv_bipush (v := 9) hx hb dX11_isMember_2 (by decide) ?_
  have hPc := hP.sub (ws' := []) [] rfl
  have hDc := hD.sub (ws' := []) [] (by decide) rfl
  have hKc := hK.sub (tys' := []) [] rfl
  have hFc := va_free (wc := []) hD hS hA [] rfl
  refine va_calli (va_runS (As := [.int v1, .int 0, .int 9]) (rest := []) ⟨hx, hb, hml, hown, htb⟩ (kX11_isWithin l dC dI H.size v1 0 9 ) ⟨callB_of 3 htb (gd_c m_355) rfl rfl rfl (htb _ m_1) (htb _ m_353) hdX11_isWithin ⟨(Nat.le_of_ble_eq_true rfl), (Nat.le_of_ble_eq_true rfl)⟩, htb _ m_354⟩ ⟨pcW_blind, pcW_at hPc hKc hDc hN⟩ rfl rfl hl.1 rfl (lv_room (Nat.le_of_ble_eq_true rfl)) dX11_isMember_4 ⟨(Nat.le_of_ble_eq_true rfl), (Nat.le_of_ble_eq_true rfl)⟩) hS (fun q _ h => hFc q h) hFc (fun r_1 u t H1 locs1 ht hvm h_2 hB hz1 hk1 hS1 => ?_)
  obtain ⟨hP1, hK1, hD1⟩ := hB
  rw [ht] at hP1
  obtain ⟨hPn, hDn⟩ := va_join (wr := []) (w1 := []) hP hD [] [] rfl rfl (by decide) (by decide) hk1 hFc hP1 hD1
  clear hP1 hD1 hK1
  clear hP hD hS hPc hDc hKc hFc hk1 hz1 ht hvm
  clear t
  revert hS1 hPn hDn; generalize H1 = H; generalize locs1 = locs; intro hS hP hD
  change va_P (dC, dI) vwCl [] H at hP
  change va_D A [] at hD
  rcases h_2 with ⟨rfl, h_2⟩ | ⟨rfl, h_2⟩
  · refine W.widen (k := 0) (n := 0) (Nat.le_of_ble_eq_true rfl) (Nat.le_of_ble_eq_true rfl) ?_
    have hP9 := hP.sub (ws' := []) [] rfl
    have hD9 := hD.sub (ws' := []) [] (by decide) rfl
    have hK9 := hK.sub (tys' := []) [] rfl
    exact W.zret (ty := .boolean) (v := 1) hx hb hr rfl (fun t ht hW => ⟨⟨1, (), rfl, (Or.inl ⟨rfl, (lg_X11_isMember_0 v1 h_2)⟩), ⟨by rw [ht]; exact hP9, va_K.moved hW.alike hK9, hD9⟩⟩, hS.F ht⟩) hS.2.2 dX11_isMember_7
  · refine W.widen (k := 0) (n := 0) (Nat.le_of_ble_eq_true rfl) (Nat.le_of_ble_eq_true rfl) ?_
    have hP9 := hP.sub (ws' := []) [] rfl
    have hD9 := hD.sub (ws' := []) [] (by decide) rfl
    have hK9 := hK.sub (tys' := []) [] rfl
    exact W.zret (ty := .boolean) (v := 0) hx hb hr rfl (fun t ht hW => ⟨⟨0, (), rfl, (Or.inr (⟨rfl, (lg_X11_isMember_1 v1 h_2)⟩)), ⟨by rw [ht]; exact hP9, va_K.moved hW.alike hK9, hD9⟩⟩, hS.F ht⟩) hS.2.2 dX11_isMember_7

theorem lg_X11_isWeather_0 (v1 : Int32) (v2 : Int32) (h_2 : (-30 : Int) ≤ v1.toInt ∧ v1.toInt ≤ (30 : Int)) (h_5 : (-30 : Int) ≤ v2.toInt ∧ v2.toInt ≤ (40 : Int)) (t_8 : v2.toInt < v1.toInt) : ¬ (((-30) ≤ v1.toInt ∧ v1.toInt ≤ 30) ∧ ((-30) ≤ v2.toInt ∧ v2.toInt ≤ 40) ∧ v1.toInt ≤ v2.toInt) := by
  have := rg_rng v1; have := rg_rng v2; omega
theorem lg_X11_isWeather_1 (v1 : Int32) (v2 : Int32) (h_2 : (-30 : Int) ≤ v1.toInt ∧ v1.toInt ≤ (30 : Int)) (h_5 : (-30 : Int) ≤ v2.toInt ∧ v2.toInt ≤ (40 : Int)) (t_8 : v1.toInt ≤ v2.toInt) : ((-30) ≤ v1.toInt ∧ v1.toInt ≤ 30) ∧ ((-30) ≤ v2.toInt ∧ v2.toInt ≤ 40) ∧ v1.toInt ≤ v2.toInt := by
  have := rg_rng v1; have := rg_rng v2; omega
theorem lg_X11_isWeather_2 (v1 : Int32) (v2 : Int32) (h_2 : (-30 : Int) ≤ v1.toInt ∧ v1.toInt ≤ (30 : Int)) (h_5 : ¬ ((-30 : Int) ≤ v2.toInt ∧ v2.toInt ≤ (40 : Int))) : ¬ (((-30) ≤ v1.toInt ∧ v1.toInt ≤ 30) ∧ ((-30) ≤ v2.toInt ∧ v2.toInt ≤ 40) ∧ v1.toInt ≤ v2.toInt) := by
  have := rg_rng v1; have := rg_rng v2; omega
theorem lg_X11_isWeather_3 (v1 : Int32) (v2 : Int32) (h_2 : ¬ ((-30 : Int) ≤ v1.toInt ∧ v1.toInt ≤ (30 : Int))) : ¬ (((-30) ≤ v1.toInt ∧ v1.toInt ≤ 30) ∧ ((-30) ≤ v2.toInt ∧ v2.toInt ≤ 40) ∧ v1.toInt ≤ v2.toInt) := by
  have := rg_rng v1; have := rg_rng v2; omega
set_option maxHeartbeats 4000000 in
set_option maxRecDepth 100000 in
theorem kX11_isWeather (l : Launch) (dC : Nat → ClassId) (dI : Nat → Nat → Nat) (sz : Nat) (v1 : Int32) (v2 : Int32) : Met l yX11_isWeather (Cond.code yX11_isWeather cX11_isWeather 2 (some .boolean) :: bg) ({ frames := 1, cells := 0, slots := 0, locals := 22 }) (pcW dC dI [.int v1, .int v2] sz [] []) (va_Qi (fun (r : Int32) (u : Unit) => (r = 1 ∧ ((-30) ≤ v1.toInt ∧ v1.toInt ≤ 30) ∧ ((-30) ≤ v2.toInt ∧ v2.toInt ≤ 40) ∧ v1.toInt ≤ v2.toInt) ∨ (r = 0 ∧ ¬ (((-30) ≤ v1.toInt ∧ v1.toInt ≤ 30) ∧ ((-30) ≤ v2.toInt ∧ v2.toInt ≤ 40) ∧ v1.toInt ≤ v2.toInt))) (fun (u : Unit) (t : State) => va_P (dC, dI) vwCl [] t.heap ∧ va_K (dC, dI) vwCl [] t ∧ va_D (va_A [] sz) []) (va_A [] sz)) 0 0 (va_A [] sz) := by
  refine Met.ofW (cc := cX11_isWeather) (maxL := 2) (ret := (some .boolean)) pnX11 rfl ?_
  intro p e s m args below meth c s₁ B hml hv
  obtain ⟨rfl, hsz, hP, hK, hD0, hN⟩ := hv
  have hx := B.exec
  have hb := B.bytes
  have hr := B.returns
  have htb : ∀ w ∈ bg, w.before [.int v1, .int v2].toArray s = true := fun w h => atoms_spec (ws := Cond.code yX11_isWeather cX11_isWeather 2 (some .boolean) :: bg) B.pre w (List.mem_cons_of_mem _ h)
  have hown : s.vm.findClass RX11 = some m.cls := findClass_of_methodNamed B.named
  have hlocks := B.notSynchronized
  subst hsz
  have hD := hD0.self (sz := s.heap.size)
  generalize hAe : va_A [] s.heap.size = A at hD ⊢
  have hA : ∀ q : Nat, s.heap.size ≤ q → A q := fun q h => by rw [← hAe]; exact Or.inr h
  have hS : va_S A s.heap s.heap [] := va_S.rf
  have hl := lv_entry ([.int v1, .int v2]) (n := 2) (Nat.le_of_ble_eq_true rfl)
  rw [lg_entry_eq]
  generalize (lg_sl ([.int v1, .int v2]) ++ List.replicate (2 - (lg_sl ([.int v1, .int v2])).length) Slot.unset).toArray = ls at hl ⊢
  change lv_has ls 2 [(0, .int v1), (1, .int v2)] at hl
  clear hD0 hAe
  refine go0 (wsP := fun H => va_P (dC, dI) vwCl [] H) hP hS ?_
  clear hP hS; intro H locs hP hS
  change va_P (dC, dI) vwCl [] H at hP
  refine lv_iload_n hx hb dX11_isWeather_0 rfl (lv_at hl 0 rfl) ?_
  refine lv_bipush (v := (-30)) hx hb dX11_isWeather_1 (by decide) ?_
  refine lv_bipush (v := 30) hx hb dX11_isWeather_3 (by decide) ?_
  have hPc := hP.sub (ws' := []) [] rfl
  have hDc := hD.sub (ws' := []) [] (by decide) rfl
  have hKc := hK.sub (tys' := []) [] rfl
  have hFc := va_free (wc := []) hD hS hA [] rfl
  refine va_calli (va_runS (As := [.int v1, .int (-30), .int 30]) (rest := []) ⟨hx, hb, hml, hown, htb⟩ (kX11_isWithin l dC dI H.size v1 (-30) 30 ) ⟨callB_of 3 htb (gd_c m_355) rfl rfl rfl (htb _ m_1) (htb _ m_353) hdX11_isWithin ⟨(Nat.le_of_ble_eq_true rfl), (Nat.le_of_ble_eq_true rfl)⟩, htb _ m_354⟩ ⟨pcW_blind, pcW_at hPc hKc hDc hN⟩ rfl rfl hl.1 rfl (lv_room (Nat.le_of_ble_eq_true rfl)) dX11_isWeather_5 ⟨(Nat.le_of_ble_eq_true rfl), (Nat.le_of_ble_eq_true rfl)⟩) hS (fun q _ h => hFc q h) hFc (fun r_1 u t H1 locs1 ht hvm h_2 hB hz1 hk1 hS1 => ?_)
  obtain ⟨hP1, hK1, hD1⟩ := hB
  rw [ht] at hP1
  obtain ⟨hPn, hDn⟩ := va_join (wr := []) (w1 := []) hP hD [] [] rfl rfl (by decide) (by decide) hk1 hFc hP1 hD1
  clear hP1 hD1 hK1
  clear hP hD hS hPc hDc hKc hFc hk1 hz1 ht hvm
  clear t
  revert hS1 hPn hDn; generalize H1 = H; generalize locs1 = locs; intro hS hP hD
  change va_P (dC, dI) vwCl [] H at hP
  change va_D A [] at hD
  rcases h_2 with ⟨rfl, h_2⟩ | ⟨rfl, h_2⟩
  · refine lv_if_eq (tgt := 31) hx hb dX11_isWeather_8 (by decide) (fun c_3 => absurd c_3 (by decide)) ?_
    intro _
    refine lv_iload_n hx hb dX11_isWeather_11 rfl (lv_at hl 1 rfl) ?_
    refine lv_bipush (v := (-30)) hx hb dX11_isWeather_12 (by decide) ?_
    refine lv_bipush (v := 40) hx hb dX11_isWeather_14 (by decide) ?_
    have hPc := hP.sub (ws' := []) [] rfl
    have hDc := hD.sub (ws' := []) [] (by decide) rfl
    have hKc := hK.sub (tys' := []) [] rfl
    have hFc := va_free (wc := []) hD hS hA [] rfl
    refine va_calli (va_runS (As := [.int v2, .int (-30), .int 40]) (rest := []) ⟨hx, hb, hml, hown, htb⟩ (kX11_isWithin l dC dI H.size v2 (-30) 40 ) ⟨callB_of 3 htb (gd_c m_355) rfl rfl rfl (htb _ m_1) (htb _ m_353) hdX11_isWithin ⟨(Nat.le_of_ble_eq_true rfl), (Nat.le_of_ble_eq_true rfl)⟩, htb _ m_354⟩ ⟨pcW_blind, pcW_at hPc hKc hDc hN⟩ rfl rfl hl.1 rfl (lv_room (Nat.le_of_ble_eq_true rfl)) dX11_isWeather_16 ⟨(Nat.le_of_ble_eq_true rfl), (Nat.le_of_ble_eq_true rfl)⟩) hS (fun q _ h => hFc q h) hFc (fun r_4 u t H1 locs1 ht hvm h_5 hB hz1 hk1 hS1 => ?_)
    obtain ⟨hP1, hK1, hD1⟩ := hB
    rw [ht] at hP1
    obtain ⟨hPn, hDn⟩ := va_join (wr := []) (w1 := []) hP hD [] [] rfl rfl (by decide) (by decide) hk1 hFc hP1 hD1
    clear hP1 hD1 hK1
    clear hP hD hS hPc hDc hKc hFc hk1 hz1 ht hvm
    clear t
    revert hS1 hPn hDn; generalize H1 = H; generalize locs1 = locs; intro hS hP hD
    change va_P (dC, dI) vwCl [] H at hP
    change va_D A [] at hD
    rcases h_5 with ⟨rfl, h_5⟩ | ⟨rfl, h_5⟩
    · refine lv_if_eq (tgt := 31) hx hb dX11_isWeather_19 (by decide) (fun c_6 => absurd c_6 (by decide)) ?_
      intro _
      refine lv_iload_n hx hb dX11_isWeather_22 rfl (lv_at hl 1 rfl) ?_
      refine lv_iload_n hx hb dX11_isWeather_23 rfl (lv_at hl 0 rfl) ?_
      refine lv_icmp_lt (tgt := 31) hx hb dX11_isWeather_24 (by decide) (fun c_7 => ?_) (fun c_7 => ?_)
      · have t_8 : v2.toInt < v1.toInt := i_lt rfl rfl c_7
        refine lv_iconst (v := 0) hx hb dX11_isWeather_31 (by decide) ?_
        refine W.widen (k := 0) (n := 0) (Nat.le_of_ble_eq_true rfl) (Nat.le_of_ble_eq_true rfl) ?_
        have hP9 := hP.sub (ws' := []) [] rfl
        have hD9 := hD.sub (ws' := []) [] (by decide) rfl
        have hK9 := hK.sub (tys' := []) [] rfl
        exact W.zret (ty := .boolean) (v := 0) hx hb hr rfl (fun t ht hW => ⟨⟨0, (), rfl, (Or.inr (⟨rfl, (lg_X11_isWeather_0 v1 v2 h_2 h_5 t_8)⟩)), ⟨by rw [ht]; exact hP9, va_K.moved hW.alike hK9, hD9⟩⟩, hS.F ht⟩) hS.2.2 dX11_isWeather_32
      · have t_8 : v1.toInt ≤ v2.toInt := i_nlt rfl rfl c_7
        refine lv_iconst (v := 1) hx hb dX11_isWeather_27 (by decide) ?_
        refine lv_goto (tgt := 32) hx hb dX11_isWeather_28 (by decide) ?_
        refine W.widen (k := 0) (n := 0) (Nat.le_of_ble_eq_true rfl) (Nat.le_of_ble_eq_true rfl) ?_
        have hP9 := hP.sub (ws' := []) [] rfl
        have hD9 := hD.sub (ws' := []) [] (by decide) rfl
        have hK9 := hK.sub (tys' := []) [] rfl
        exact W.zret (ty := .boolean) (v := 1) hx hb hr rfl (fun t ht hW => ⟨⟨1, (), rfl, (Or.inl ⟨rfl, (lg_X11_isWeather_1 v1 v2 h_2 h_5 t_8)⟩), ⟨by rw [ht]; exact hP9, va_K.moved hW.alike hK9, hD9⟩⟩, hS.F ht⟩) hS.2.2 dX11_isWeather_32
    · refine lv_if_eq (tgt := 31) hx hb dX11_isWeather_19 (by decide) ?_ (fun c_9 => absurd (by decide) c_9)
      intro _
      refine lv_iconst (v := 0) hx hb dX11_isWeather_31 (by decide) ?_
      refine W.widen (k := 0) (n := 0) (Nat.le_of_ble_eq_true rfl) (Nat.le_of_ble_eq_true rfl) ?_
      have hP9 := hP.sub (ws' := []) [] rfl
      have hD9 := hD.sub (ws' := []) [] (by decide) rfl
      have hK9 := hK.sub (tys' := []) [] rfl
      exact W.zret (ty := .boolean) (v := 0) hx hb hr rfl (fun t ht hW => ⟨⟨0, (), rfl, (Or.inr (⟨rfl, (lg_X11_isWeather_2 v1 v2 h_2 h_5)⟩)), ⟨by rw [ht]; exact hP9, va_K.moved hW.alike hK9, hD9⟩⟩, hS.F ht⟩) hS.2.2 dX11_isWeather_32
  · refine lv_if_eq (tgt := 31) hx hb dX11_isWeather_8 (by decide) ?_ (fun c_10 => absurd (by decide) c_10)
    intro _
    refine lv_iconst (v := 0) hx hb dX11_isWeather_31 (by decide) ?_
    refine W.widen (k := 0) (n := 0) (Nat.le_of_ble_eq_true rfl) (Nat.le_of_ble_eq_true rfl) ?_
    have hP9 := hP.sub (ws' := []) [] rfl
    have hD9 := hD.sub (ws' := []) [] (by decide) rfl
    have hK9 := hK.sub (tys' := []) [] rfl
    exact W.zret (ty := .boolean) (v := 0) hx hb hr rfl (fun t ht hW => ⟨⟨0, (), rfl, (Or.inr (⟨rfl, (lg_X11_isWeather_3 v1 v2 h_2)⟩)), ⟨by rw [ht]; exact hP9, va_K.moved hW.alike hK9, hD9⟩⟩, hS.F ht⟩) hS.2.2 dX11_isWeather_32

theorem lg_X12_isWeather_0 (v1 : Int32) (v2 : Int32) (h_2 : (-30 : Int) ≤ v1.toInt ∧ v1.toInt ≤ (30 : Int)) (h_5 : (-30 : Int) ≤ v2.toInt ∧ v2.toInt ≤ (40 : Int)) (t_8 : v2.toInt < v1.toInt) : ¬ (((-30) ≤ v1.toInt ∧ v1.toInt ≤ 30) ∧ ((-30) ≤ v2.toInt ∧ v2.toInt ≤ 40) ∧ v1.toInt ≤ v2.toInt) := by
  have := rg_rng v1; have := rg_rng v2; omega
theorem lg_X12_isWeather_1 (v1 : Int32) (v2 : Int32) (h_2 : (-30 : Int) ≤ v1.toInt ∧ v1.toInt ≤ (30 : Int)) (h_5 : (-30 : Int) ≤ v2.toInt ∧ v2.toInt ≤ (40 : Int)) (t_8 : v1.toInt ≤ v2.toInt) : ((-30) ≤ v1.toInt ∧ v1.toInt ≤ 30) ∧ ((-30) ≤ v2.toInt ∧ v2.toInt ≤ 40) ∧ v1.toInt ≤ v2.toInt := by
  have := rg_rng v1; have := rg_rng v2; omega
theorem lg_X12_isWeather_2 (v1 : Int32) (v2 : Int32) (h_2 : (-30 : Int) ≤ v1.toInt ∧ v1.toInt ≤ (30 : Int)) (h_5 : ¬ ((-30 : Int) ≤ v2.toInt ∧ v2.toInt ≤ (40 : Int))) : ¬ (((-30) ≤ v1.toInt ∧ v1.toInt ≤ 30) ∧ ((-30) ≤ v2.toInt ∧ v2.toInt ≤ 40) ∧ v1.toInt ≤ v2.toInt) := by
  have := rg_rng v1; have := rg_rng v2; omega
theorem lg_X12_isWeather_3 (v1 : Int32) (v2 : Int32) (h_2 : ¬ ((-30 : Int) ≤ v1.toInt ∧ v1.toInt ≤ (30 : Int))) : ¬ (((-30) ≤ v1.toInt ∧ v1.toInt ≤ 30) ∧ ((-30) ≤ v2.toInt ∧ v2.toInt ≤ 40) ∧ v1.toInt ≤ v2.toInt) := by
  have := rg_rng v1; have := rg_rng v2; omega
set_option maxHeartbeats 4000000 in
set_option maxRecDepth 100000 in
theorem kX12_isWeather (l : Launch) (dC : Nat → ClassId) (dI : Nat → Nat → Nat) (sz : Nat) (v1 : Int32) (v2 : Int32) : Met l yX12_isWeather (Cond.code yX12_isWeather cX12_isWeather 2 (some .boolean) :: bg) ({ frames := 1, cells := 0, slots := 0, locals := 22 }) (pcW dC dI [.int v1, .int v2] sz [] []) (va_Qi (fun (r : Int32) (u : Unit) => (r = 1 ∧ ((-30) ≤ v1.toInt ∧ v1.toInt ≤ 30) ∧ ((-30) ≤ v2.toInt ∧ v2.toInt ≤ 40) ∧ v1.toInt ≤ v2.toInt) ∨ (r = 0 ∧ ¬ (((-30) ≤ v1.toInt ∧ v1.toInt ≤ 30) ∧ ((-30) ≤ v2.toInt ∧ v2.toInt ≤ 40) ∧ v1.toInt ≤ v2.toInt))) (fun (u : Unit) (t : State) => va_P (dC, dI) vwCl [] t.heap ∧ va_K (dC, dI) vwCl [] t ∧ va_D (va_A [] sz) []) (va_A [] sz)) 0 0 (va_A [] sz) := by
  refine Met.ofW (cc := cX12_isWeather) (maxL := 2) (ret := (some .boolean)) pnX12 rfl ?_
  intro p e s m args below meth c s₁ B hml hv
  obtain ⟨rfl, hsz, hP, hK, hD0, hN⟩ := hv
  have hx := B.exec
  have hb := B.bytes
  have hr := B.returns
  have htb : ∀ w ∈ bg, w.before [.int v1, .int v2].toArray s = true := fun w h => atoms_spec (ws := Cond.code yX12_isWeather cX12_isWeather 2 (some .boolean) :: bg) B.pre w (List.mem_cons_of_mem _ h)
  have hown : s.vm.findClass RX12 = some m.cls := findClass_of_methodNamed B.named
  have hlocks := B.notSynchronized
  subst hsz
  have hD := hD0.self (sz := s.heap.size)
  generalize hAe : va_A [] s.heap.size = A at hD ⊢
  have hA : ∀ q : Nat, s.heap.size ≤ q → A q := fun q h => by rw [← hAe]; exact Or.inr h
  have hS : va_S A s.heap s.heap [] := va_S.rf
  have hl := lv_entry ([.int v1, .int v2]) (n := 2) (Nat.le_of_ble_eq_true rfl)
  rw [lg_entry_eq]
  generalize (lg_sl ([.int v1, .int v2]) ++ List.replicate (2 - (lg_sl ([.int v1, .int v2])).length) Slot.unset).toArray = ls at hl ⊢
  change lv_has ls 2 [(0, .int v1), (1, .int v2)] at hl
  clear hD0 hAe
  refine go0 (wsP := fun H => va_P (dC, dI) vwCl [] H) hP hS ?_
  clear hP hS; intro H locs hP hS
  change va_P (dC, dI) vwCl [] H at hP
  refine lv_iload_n hx hb dX12_isWeather_0 rfl (lv_at hl 0 rfl) ?_
  refine lv_bipush (v := (-30)) hx hb dX12_isWeather_1 (by decide) ?_
  refine lv_bipush (v := 30) hx hb dX12_isWeather_3 (by decide) ?_
  have hPc := hP.sub (ws' := []) [] rfl
  have hDc := hD.sub (ws' := []) [] (by decide) rfl
  have hKc := hK.sub (tys' := []) [] rfl
  have hFc := va_free (wc := []) hD hS hA [] rfl
  refine va_calli (va_runS (As := [.int v1, .int (-30), .int 30]) (rest := []) ⟨hx, hb, hml, hown, htb⟩ (kX12_isIn l dC dI H.size v1 (-30) 30 ) ⟨callB_of 3 htb (gd_c m_1192) rfl rfl rfl (htb _ m_13) (htb _ m_1190) hdX12_isIn ⟨(Nat.le_of_ble_eq_true rfl), (Nat.le_of_ble_eq_true rfl)⟩, htb _ m_1191⟩ ⟨pcW_blind, pcW_at hPc hKc hDc hN⟩ rfl rfl hl.1 rfl (lv_room (Nat.le_of_ble_eq_true rfl)) dX12_isWeather_5 ⟨(Nat.le_of_ble_eq_true rfl), (Nat.le_of_ble_eq_true rfl)⟩) hS (fun q _ h => hFc q h) hFc (fun r_1 u t H1 locs1 ht hvm h_2 hB hz1 hk1 hS1 => ?_)
  obtain ⟨hP1, hK1, hD1⟩ := hB
  rw [ht] at hP1
  obtain ⟨hPn, hDn⟩ := va_join (wr := []) (w1 := []) hP hD [] [] rfl rfl (by decide) (by decide) hk1 hFc hP1 hD1
  clear hP1 hD1 hK1
  clear hP hD hS hPc hDc hKc hFc hk1 hz1 ht hvm
  clear t
  revert hS1 hPn hDn; generalize H1 = H; generalize locs1 = locs; intro hS hP hD
  change va_P (dC, dI) vwCl [] H at hP
  change va_D A [] at hD
  rcases h_2 with ⟨rfl, h_2⟩ | ⟨rfl, h_2⟩
  · refine lv_if_eq (tgt := 31) hx hb dX12_isWeather_8 (by decide) (fun c_3 => absurd c_3 (by decide)) ?_
    intro _
    refine lv_iload_n hx hb dX12_isWeather_11 rfl (lv_at hl 1 rfl) ?_
    refine lv_bipush (v := (-30)) hx hb dX12_isWeather_12 (by decide) ?_
    refine lv_bipush (v := 40) hx hb dX12_isWeather_14 (by decide) ?_
    have hPc := hP.sub (ws' := []) [] rfl
    have hDc := hD.sub (ws' := []) [] (by decide) rfl
    have hKc := hK.sub (tys' := []) [] rfl
    have hFc := va_free (wc := []) hD hS hA [] rfl
    refine va_calli (va_runS (As := [.int v2, .int (-30), .int 40]) (rest := []) ⟨hx, hb, hml, hown, htb⟩ (kX12_isIn l dC dI H.size v2 (-30) 40 ) ⟨callB_of 3 htb (gd_c m_1192) rfl rfl rfl (htb _ m_13) (htb _ m_1190) hdX12_isIn ⟨(Nat.le_of_ble_eq_true rfl), (Nat.le_of_ble_eq_true rfl)⟩, htb _ m_1191⟩ ⟨pcW_blind, pcW_at hPc hKc hDc hN⟩ rfl rfl hl.1 rfl (lv_room (Nat.le_of_ble_eq_true rfl)) dX12_isWeather_16 ⟨(Nat.le_of_ble_eq_true rfl), (Nat.le_of_ble_eq_true rfl)⟩) hS (fun q _ h => hFc q h) hFc (fun r_4 u t H1 locs1 ht hvm h_5 hB hz1 hk1 hS1 => ?_)
    obtain ⟨hP1, hK1, hD1⟩ := hB
    rw [ht] at hP1
    obtain ⟨hPn, hDn⟩ := va_join (wr := []) (w1 := []) hP hD [] [] rfl rfl (by decide) (by decide) hk1 hFc hP1 hD1
    clear hP1 hD1 hK1
    clear hP hD hS hPc hDc hKc hFc hk1 hz1 ht hvm
    clear t
    revert hS1 hPn hDn; generalize H1 = H; generalize locs1 = locs; intro hS hP hD
    change va_P (dC, dI) vwCl [] H at hP
    change va_D A [] at hD
    rcases h_5 with ⟨rfl, h_5⟩ | ⟨rfl, h_5⟩
    · refine lv_if_eq (tgt := 31) hx hb dX12_isWeather_19 (by decide) (fun c_6 => absurd c_6 (by decide)) ?_
      intro _
      refine lv_iload_n hx hb dX12_isWeather_22 rfl (lv_at hl 1 rfl) ?_
      refine lv_iload_n hx hb dX12_isWeather_23 rfl (lv_at hl 0 rfl) ?_
      refine lv_icmp_lt (tgt := 31) hx hb dX12_isWeather_24 (by decide) (fun c_7 => ?_) (fun c_7 => ?_)
      · have t_8 : v2.toInt < v1.toInt := i_lt rfl rfl c_7
        refine lv_iconst (v := 0) hx hb dX12_isWeather_31 (by decide) ?_
        refine W.widen (k := 0) (n := 0) (Nat.le_of_ble_eq_true rfl) (Nat.le_of_ble_eq_true rfl) ?_
        have hP9 := hP.sub (ws' := []) [] rfl
        have hD9 := hD.sub (ws' := []) [] (by decide) rfl
        have hK9 := hK.sub (tys' := []) [] rfl
        exact W.zret (ty := .boolean) (v := 0) hx hb hr rfl (fun t ht hW => ⟨⟨0, (), rfl, (Or.inr (⟨rfl, (lg_X12_isWeather_0 v1 v2 h_2 h_5 t_8)⟩)), ⟨by rw [ht]; exact hP9, va_K.moved hW.alike hK9, hD9⟩⟩, hS.F ht⟩) hS.2.2 dX12_isWeather_32
      · have t_8 : v1.toInt ≤ v2.toInt := i_nlt rfl rfl c_7
        refine lv_iconst (v := 1) hx hb dX12_isWeather_27 (by decide) ?_
        refine lv_goto (tgt := 32) hx hb dX12_isWeather_28 (by decide) ?_
        refine W.widen (k := 0) (n := 0) (Nat.le_of_ble_eq_true rfl) (Nat.le_of_ble_eq_true rfl) ?_
        have hP9 := hP.sub (ws' := []) [] rfl
        have hD9 := hD.sub (ws' := []) [] (by decide) rfl
        have hK9 := hK.sub (tys' := []) [] rfl
        exact W.zret (ty := .boolean) (v := 1) hx hb hr rfl (fun t ht hW => ⟨⟨1, (), rfl, (Or.inl ⟨rfl, (lg_X12_isWeather_1 v1 v2 h_2 h_5 t_8)⟩), ⟨by rw [ht]; exact hP9, va_K.moved hW.alike hK9, hD9⟩⟩, hS.F ht⟩) hS.2.2 dX12_isWeather_32
    · refine lv_if_eq (tgt := 31) hx hb dX12_isWeather_19 (by decide) ?_ (fun c_9 => absurd (by decide) c_9)
      intro _
      refine lv_iconst (v := 0) hx hb dX12_isWeather_31 (by decide) ?_
      refine W.widen (k := 0) (n := 0) (Nat.le_of_ble_eq_true rfl) (Nat.le_of_ble_eq_true rfl) ?_
      have hP9 := hP.sub (ws' := []) [] rfl
      have hD9 := hD.sub (ws' := []) [] (by decide) rfl
      have hK9 := hK.sub (tys' := []) [] rfl
      exact W.zret (ty := .boolean) (v := 0) hx hb hr rfl (fun t ht hW => ⟨⟨0, (), rfl, (Or.inr (⟨rfl, (lg_X12_isWeather_2 v1 v2 h_2 h_5)⟩)), ⟨by rw [ht]; exact hP9, va_K.moved hW.alike hK9, hD9⟩⟩, hS.F ht⟩) hS.2.2 dX12_isWeather_32
  · refine lv_if_eq (tgt := 31) hx hb dX12_isWeather_8 (by decide) ?_ (fun c_10 => absurd (by decide) c_10)
    intro _
    refine lv_iconst (v := 0) hx hb dX12_isWeather_31 (by decide) ?_
    refine W.widen (k := 0) (n := 0) (Nat.le_of_ble_eq_true rfl) (Nat.le_of_ble_eq_true rfl) ?_
    have hP9 := hP.sub (ws' := []) [] rfl
    have hD9 := hD.sub (ws' := []) [] (by decide) rfl
    have hK9 := hK.sub (tys' := []) [] rfl
    exact W.zret (ty := .boolean) (v := 0) hx hb hr rfl (fun t ht hW => ⟨⟨0, (), rfl, (Or.inr (⟨rfl, (lg_X12_isWeather_3 v1 v2 h_2)⟩)), ⟨by rw [ht]; exact hP9, va_K.moved hW.alike hK9, hD9⟩⟩, hS.F ht⟩) hS.2.2 dX12_isWeather_32

theorem lg_X2_has_0 (n_tr : Int32) (v1 : Int32) (t_2 : v1.toInt < (0 : Int)) : ¬ (0 ≤ v1.toInt ∧ v1.toInt < n_tr.toInt) := by
  have := rg_rng n_tr; have := rg_rng v1; omega
theorem lg_X2_has_1 (n_tr : Int32) (v1 : Int32) (t_2 : (0 : Int) ≤ v1.toInt) (t_4 : n_tr.toInt ≤ v1.toInt) : ¬ (0 ≤ v1.toInt ∧ v1.toInt < n_tr.toInt) := by
  have := rg_rng n_tr; have := rg_rng v1; omega
theorem lg_X2_has_2 (n_tr : Int32) (v1 : Int32) (t_2 : (0 : Int) ≤ v1.toInt) (t_4 : v1.toInt < n_tr.toInt) : 0 ≤ v1.toInt ∧ v1.toInt < n_tr.toInt := by
  have := rg_rng n_tr; have := rg_rng v1; omega
set_option maxHeartbeats 4000000 in
set_option maxRecDepth 100000 in
theorem kX2_has (l : Launch) (dC : Nat → ClassId) (dI : Nat → Nat → Nat) (sz : Nat) (h0 : Nat) (g_node : Nat) (g_girth : Nat) (g_gave : Nat) (g_holeTree : Nat) (g_holeAngle : Nat) (g_holeYear : Nat) (n_tr : Int32) (n_ho : Int32) (v1 : Int32) : Met l yX2_has (Cond.code yX2_has cX2_has 2 (some .boolean) :: bg) ({ frames := 0, cells := 0, slots := 0, locals := 0 }) (pcW dC dI [.ref h0, .int v1] sz [(h0, .inr (2, [.ref g_node, .ref g_girth, .ref g_gave, .ref g_holeTree, .ref g_holeAngle, .ref g_holeYear, .int n_tr, .int n_ho]))] []) (va_Qi (fun (r : Int32) (u : Unit) => (r = 1 ∧ 0 ≤ v1.toInt ∧ v1.toInt < n_tr.toInt) ∨ (r = 0 ∧ ¬ (0 ≤ v1.toInt ∧ v1.toInt < n_tr.toInt))) (fun (u : Unit) (t : State) => va_P (dC, dI) vwCl [(h0, .inr (2, [.ref g_node, .ref g_girth, .ref g_gave, .ref g_holeTree, .ref g_holeAngle, .ref g_holeYear, .int n_tr, .int n_ho]))] t.heap ∧ va_K (dC, dI) vwCl [] t ∧ va_D (va_A [(h0, .inr (2, [.ref g_node, .ref g_girth, .ref g_gave, .ref g_holeTree, .ref g_holeAngle, .ref g_holeYear, .int n_tr, .int n_ho]))] sz) [(h0, .inr (2, [.ref g_node, .ref g_girth, .ref g_gave, .ref g_holeTree, .ref g_holeAngle, .ref g_holeYear, .int n_tr, .int n_ho]))]) (va_A [(h0, .inr (2, [.ref g_node, .ref g_girth, .ref g_gave, .ref g_holeTree, .ref g_holeAngle, .ref g_holeYear, .int n_tr, .int n_ho]))] sz)) 0 0 (va_A [(h0, .inr (2, [.ref g_node, .ref g_girth, .ref g_gave, .ref g_holeTree, .ref g_holeAngle, .ref g_holeYear, .int n_tr, .int n_ho]))] sz) := by
  refine Met.ofW (cc := cX2_has) (maxL := 2) (ret := (some .boolean)) pnX2 rfl ?_
  intro p e s m args below meth c s₁ B hml hv
  obtain ⟨rfl, hsz, hP, hK, hD0, hN⟩ := hv
  have hx := B.exec
  have hb := B.bytes
  have hr := B.returns
  have htb : ∀ w ∈ bg, w.before [.ref h0, .int v1].toArray s = true := fun w h => atoms_spec (ws := Cond.code yX2_has cX2_has 2 (some .boolean) :: bg) B.pre w (List.mem_cons_of_mem _ h)
  have hown : s.vm.findClass RX2 = some m.cls := findClass_of_methodNamed B.named
  have hlocks := B.notSynchronized
  subst hsz
  have hD := hD0.self (sz := s.heap.size)
  generalize hAe : va_A [(h0, .inr (2, [.ref g_node, .ref g_girth, .ref g_gave, .ref g_holeTree, .ref g_holeAngle, .ref g_holeYear, .int n_tr, .int n_ho]))] s.heap.size = A at hD ⊢
  have hA : ∀ q : Nat, s.heap.size ≤ q → A q := fun q h => by rw [← hAe]; exact Or.inr h
  have hS : va_S A s.heap s.heap [] := va_S.rf
  have hl := lv_entry ([.ref h0, .int v1]) (n := 2) (Nat.le_of_ble_eq_true rfl)
  rw [lg_entry_eq]
  generalize (lg_sl ([.ref h0, .int v1]) ++ List.replicate (2 - (lg_sl ([.ref h0, .int v1])).length) Slot.unset).toArray = ls at hl ⊢
  change lv_has ls 2 [(0, .ref h0), (1, .int v1)] at hl
  clear hD0 hAe
  refine go0 (wsP := fun H => va_P (dC, dI) vwCl [(h0, .inr (2, [.ref g_node, .ref g_girth, .ref g_gave, .ref g_holeTree, .ref g_holeAngle, .ref g_holeYear, .int n_tr, .int n_ho]))] H) hP hS ?_
  clear hP hS; intro H locs hP hS
  change va_P (dC, dI) vwCl [(h0, .inr (2, [.ref g_node, .ref g_girth, .ref g_gave, .ref g_holeTree, .ref g_holeAngle, .ref g_holeYear, .int n_tr, .int n_ho]))] H at hP
  refine lv_iload_n hx hb dX2_has_0 rfl (lv_at hl 1 rfl) ?_
  refine lv_if_lt (tgt := 16) hx hb dX2_has_1 (by decide) (fun c_1 => ?_) (fun c_1 => ?_)
  · have t_2 : v1.toInt < (0 : Int) := i_lt rfl (by decide) c_1
    refine lv_iconst (v := 0) hx hb dX2_has_16 (by decide) ?_
    refine W.widen (k := 0) (n := 0) (Nat.le_of_ble_eq_true rfl) (Nat.le_of_ble_eq_true rfl) ?_
    have hP9 := hP.sub (ws' := [(h0, .inr (2, [.ref g_node, .ref g_girth, .ref g_gave, .ref g_holeTree, .ref g_holeAngle, .ref g_holeYear, .int n_tr, .int n_ho]))]) [0] rfl
    have hD9 := hD.sub (ws' := [(h0, .inr (2, [.ref g_node, .ref g_girth, .ref g_gave, .ref g_holeTree, .ref g_holeAngle, .ref g_holeYear, .int n_tr, .int n_ho]))]) [0] (by decide) rfl
    have hK9 := hK.sub (tys' := []) [] rfl
    exact W.zret (ty := .boolean) (v := 0) hx hb hr rfl (fun t ht hW => ⟨⟨0, (), rfl, (Or.inr (⟨rfl, (lg_X2_has_0 n_tr v1 t_2)⟩)), ⟨by rw [ht]; exact hP9, va_K.moved hW.alike hK9, hD9⟩⟩, hS.F ht⟩) hS.2.2 dX2_has_17
  · have t_2 : (0 : Int) ≤ v1.toInt := i_nlt rfl (by decide) c_1
    refine lv_iload_n hx hb dX2_has_4 rfl (lv_at hl 1 rfl) ?_
    refine lv_aload_n hx hb dX2_has_5 rfl (lv_at hl 0 rfl) ?_
    refine va_get (D := (dC, dI)) (ci := 2) (v := .int n_tr) (C := RX2) (T := TX2) (N := 8) hx hb htb iX2 hown hK hP 0 rfl rfl 6 (Nat.le_of_ble_eq_true rfl) (htb _ m_77) (fun _ h9 => h9) rfl dX2_has_6 ?_
    refine lv_icmp_ge (tgt := 16) hx hb dX2_has_9 (by decide) (fun c_3 => ?_) (fun c_3 => ?_)
    · have t_4 : n_tr.toInt ≤ v1.toInt := i_le rfl rfl c_3
      refine lv_iconst (v := 0) hx hb dX2_has_16 (by decide) ?_
      refine W.widen (k := 0) (n := 0) (Nat.le_of_ble_eq_true rfl) (Nat.le_of_ble_eq_true rfl) ?_
      have hP9 := hP.sub (ws' := [(h0, .inr (2, [.ref g_node, .ref g_girth, .ref g_gave, .ref g_holeTree, .ref g_holeAngle, .ref g_holeYear, .int n_tr, .int n_ho]))]) [0] rfl
      have hD9 := hD.sub (ws' := [(h0, .inr (2, [.ref g_node, .ref g_girth, .ref g_gave, .ref g_holeTree, .ref g_holeAngle, .ref g_holeYear, .int n_tr, .int n_ho]))]) [0] (by decide) rfl
      have hK9 := hK.sub (tys' := []) [] rfl
      exact W.zret (ty := .boolean) (v := 0) hx hb hr rfl (fun t ht hW => ⟨⟨0, (), rfl, (Or.inr (⟨rfl, (lg_X2_has_1 n_tr v1 t_2 t_4)⟩)), ⟨by rw [ht]; exact hP9, va_K.moved hW.alike hK9, hD9⟩⟩, hS.F ht⟩) hS.2.2 dX2_has_17
    · have t_4 : v1.toInt < n_tr.toInt := i_nle rfl rfl c_3
      refine lv_iconst (v := 1) hx hb dX2_has_12 (by decide) ?_
      refine lv_goto (tgt := 17) hx hb dX2_has_13 (by decide) ?_
      refine W.widen (k := 0) (n := 0) (Nat.le_of_ble_eq_true rfl) (Nat.le_of_ble_eq_true rfl) ?_
      have hP9 := hP.sub (ws' := [(h0, .inr (2, [.ref g_node, .ref g_girth, .ref g_gave, .ref g_holeTree, .ref g_holeAngle, .ref g_holeYear, .int n_tr, .int n_ho]))]) [0] rfl
      have hD9 := hD.sub (ws' := [(h0, .inr (2, [.ref g_node, .ref g_girth, .ref g_gave, .ref g_holeTree, .ref g_holeAngle, .ref g_holeYear, .int n_tr, .int n_ho]))]) [0] (by decide) rfl
      have hK9 := hK.sub (tys' := []) [] rfl
      exact W.zret (ty := .boolean) (v := 1) hx hb hr rfl (fun t ht hW => ⟨⟨1, (), rfl, (Or.inl ⟨rfl, (lg_X2_has_2 n_tr v1 t_2 t_4)⟩), ⟨by rw [ht]; exact hP9, va_K.moved hW.alike hK9, hD9⟩⟩, hS.F ht⟩) hS.2.2 dX2_has_17

theorem lg_X2_hasHole_0 (n_ho : Int32) (v1 : Int32) (t_2 : v1.toInt < (0 : Int)) : ¬ (0 ≤ v1.toInt ∧ v1.toInt < n_ho.toInt) := by
  have := rg_rng n_ho; have := rg_rng v1; omega
theorem lg_X2_hasHole_1 (n_ho : Int32) (v1 : Int32) (t_2 : (0 : Int) ≤ v1.toInt) (t_4 : n_ho.toInt ≤ v1.toInt) : ¬ (0 ≤ v1.toInt ∧ v1.toInt < n_ho.toInt) := by
  have := rg_rng n_ho; have := rg_rng v1; omega
theorem lg_X2_hasHole_2 (n_ho : Int32) (v1 : Int32) (t_2 : (0 : Int) ≤ v1.toInt) (t_4 : v1.toInt < n_ho.toInt) : 0 ≤ v1.toInt ∧ v1.toInt < n_ho.toInt := by
  have := rg_rng n_ho; have := rg_rng v1; omega
set_option maxHeartbeats 4000000 in
set_option maxRecDepth 100000 in
theorem kX2_hasHole (l : Launch) (dC : Nat → ClassId) (dI : Nat → Nat → Nat) (sz : Nat) (h0 : Nat) (g_node : Nat) (g_girth : Nat) (g_gave : Nat) (g_holeTree : Nat) (g_holeAngle : Nat) (g_holeYear : Nat) (n_tr : Int32) (n_ho : Int32) (v1 : Int32) : Met l yX2_hasHole (Cond.code yX2_hasHole cX2_hasHole 2 (some .boolean) :: bg) ({ frames := 0, cells := 0, slots := 0, locals := 0 }) (pcW dC dI [.ref h0, .int v1] sz [(h0, .inr (2, [.ref g_node, .ref g_girth, .ref g_gave, .ref g_holeTree, .ref g_holeAngle, .ref g_holeYear, .int n_tr, .int n_ho]))] []) (va_Qi (fun (r : Int32) (u : Unit) => (r = 1 ∧ 0 ≤ v1.toInt ∧ v1.toInt < n_ho.toInt) ∨ (r = 0 ∧ ¬ (0 ≤ v1.toInt ∧ v1.toInt < n_ho.toInt))) (fun (u : Unit) (t : State) => va_P (dC, dI) vwCl [(h0, .inr (2, [.ref g_node, .ref g_girth, .ref g_gave, .ref g_holeTree, .ref g_holeAngle, .ref g_holeYear, .int n_tr, .int n_ho]))] t.heap ∧ va_K (dC, dI) vwCl [] t ∧ va_D (va_A [(h0, .inr (2, [.ref g_node, .ref g_girth, .ref g_gave, .ref g_holeTree, .ref g_holeAngle, .ref g_holeYear, .int n_tr, .int n_ho]))] sz) [(h0, .inr (2, [.ref g_node, .ref g_girth, .ref g_gave, .ref g_holeTree, .ref g_holeAngle, .ref g_holeYear, .int n_tr, .int n_ho]))]) (va_A [(h0, .inr (2, [.ref g_node, .ref g_girth, .ref g_gave, .ref g_holeTree, .ref g_holeAngle, .ref g_holeYear, .int n_tr, .int n_ho]))] sz)) 0 0 (va_A [(h0, .inr (2, [.ref g_node, .ref g_girth, .ref g_gave, .ref g_holeTree, .ref g_holeAngle, .ref g_holeYear, .int n_tr, .int n_ho]))] sz) := by
  refine Met.ofW (cc := cX2_hasHole) (maxL := 2) (ret := (some .boolean)) pnX2 rfl ?_
  intro p e s m args below meth c s₁ B hml hv
  obtain ⟨rfl, hsz, hP, hK, hD0, hN⟩ := hv
  have hx := B.exec
  have hb := B.bytes
  have hr := B.returns
  have htb : ∀ w ∈ bg, w.before [.ref h0, .int v1].toArray s = true := fun w h => atoms_spec (ws := Cond.code yX2_hasHole cX2_hasHole 2 (some .boolean) :: bg) B.pre w (List.mem_cons_of_mem _ h)
  have hown : s.vm.findClass RX2 = some m.cls := findClass_of_methodNamed B.named
  have hlocks := B.notSynchronized
  subst hsz
  have hD := hD0.self (sz := s.heap.size)
  generalize hAe : va_A [(h0, .inr (2, [.ref g_node, .ref g_girth, .ref g_gave, .ref g_holeTree, .ref g_holeAngle, .ref g_holeYear, .int n_tr, .int n_ho]))] s.heap.size = A at hD ⊢
  have hA : ∀ q : Nat, s.heap.size ≤ q → A q := fun q h => by rw [← hAe]; exact Or.inr h
  have hS : va_S A s.heap s.heap [] := va_S.rf
  have hl := lv_entry ([.ref h0, .int v1]) (n := 2) (Nat.le_of_ble_eq_true rfl)
  rw [lg_entry_eq]
  generalize (lg_sl ([.ref h0, .int v1]) ++ List.replicate (2 - (lg_sl ([.ref h0, .int v1])).length) Slot.unset).toArray = ls at hl ⊢
  change lv_has ls 2 [(0, .ref h0), (1, .int v1)] at hl
  clear hD0 hAe
  refine go0 (wsP := fun H => va_P (dC, dI) vwCl [(h0, .inr (2, [.ref g_node, .ref g_girth, .ref g_gave, .ref g_holeTree, .ref g_holeAngle, .ref g_holeYear, .int n_tr, .int n_ho]))] H) hP hS ?_
  clear hP hS; intro H locs hP hS
  change va_P (dC, dI) vwCl [(h0, .inr (2, [.ref g_node, .ref g_girth, .ref g_gave, .ref g_holeTree, .ref g_holeAngle, .ref g_holeYear, .int n_tr, .int n_ho]))] H at hP
  refine lv_iload_n hx hb dX2_hasHole_0 rfl (lv_at hl 1 rfl) ?_
  refine lv_if_lt (tgt := 16) hx hb dX2_hasHole_1 (by decide) (fun c_1 => ?_) (fun c_1 => ?_)
  · have t_2 : v1.toInt < (0 : Int) := i_lt rfl (by decide) c_1
    refine lv_iconst (v := 0) hx hb dX2_hasHole_16 (by decide) ?_
    refine W.widen (k := 0) (n := 0) (Nat.le_of_ble_eq_true rfl) (Nat.le_of_ble_eq_true rfl) ?_
    have hP9 := hP.sub (ws' := [(h0, .inr (2, [.ref g_node, .ref g_girth, .ref g_gave, .ref g_holeTree, .ref g_holeAngle, .ref g_holeYear, .int n_tr, .int n_ho]))]) [0] rfl
    have hD9 := hD.sub (ws' := [(h0, .inr (2, [.ref g_node, .ref g_girth, .ref g_gave, .ref g_holeTree, .ref g_holeAngle, .ref g_holeYear, .int n_tr, .int n_ho]))]) [0] (by decide) rfl
    have hK9 := hK.sub (tys' := []) [] rfl
    exact W.zret (ty := .boolean) (v := 0) hx hb hr rfl (fun t ht hW => ⟨⟨0, (), rfl, (Or.inr (⟨rfl, (lg_X2_hasHole_0 n_ho v1 t_2)⟩)), ⟨by rw [ht]; exact hP9, va_K.moved hW.alike hK9, hD9⟩⟩, hS.F ht⟩) hS.2.2 dX2_hasHole_17
  · have t_2 : (0 : Int) ≤ v1.toInt := i_nlt rfl (by decide) c_1
    refine lv_iload_n hx hb dX2_hasHole_4 rfl (lv_at hl 1 rfl) ?_
    refine lv_aload_n hx hb dX2_hasHole_5 rfl (lv_at hl 0 rfl) ?_
    refine va_get (D := (dC, dI)) (ci := 2) (v := .int n_ho) (C := RX2) (T := TX2) (N := 8) hx hb htb iX2 hown hK hP 0 rfl rfl 7 (Nat.le_of_ble_eq_true rfl) (htb _ m_79) (fun _ h9 => h9) rfl dX2_hasHole_6 ?_
    refine lv_icmp_ge (tgt := 16) hx hb dX2_hasHole_9 (by decide) (fun c_3 => ?_) (fun c_3 => ?_)
    · have t_4 : n_ho.toInt ≤ v1.toInt := i_le rfl rfl c_3
      refine lv_iconst (v := 0) hx hb dX2_hasHole_16 (by decide) ?_
      refine W.widen (k := 0) (n := 0) (Nat.le_of_ble_eq_true rfl) (Nat.le_of_ble_eq_true rfl) ?_
      have hP9 := hP.sub (ws' := [(h0, .inr (2, [.ref g_node, .ref g_girth, .ref g_gave, .ref g_holeTree, .ref g_holeAngle, .ref g_holeYear, .int n_tr, .int n_ho]))]) [0] rfl
      have hD9 := hD.sub (ws' := [(h0, .inr (2, [.ref g_node, .ref g_girth, .ref g_gave, .ref g_holeTree, .ref g_holeAngle, .ref g_holeYear, .int n_tr, .int n_ho]))]) [0] (by decide) rfl
      have hK9 := hK.sub (tys' := []) [] rfl
      exact W.zret (ty := .boolean) (v := 0) hx hb hr rfl (fun t ht hW => ⟨⟨0, (), rfl, (Or.inr (⟨rfl, (lg_X2_hasHole_1 n_ho v1 t_2 t_4)⟩)), ⟨by rw [ht]; exact hP9, va_K.moved hW.alike hK9, hD9⟩⟩, hS.F ht⟩) hS.2.2 dX2_hasHole_17
    · have t_4 : v1.toInt < n_ho.toInt := i_nle rfl rfl c_3
      refine lv_iconst (v := 1) hx hb dX2_hasHole_12 (by decide) ?_
      refine lv_goto (tgt := 17) hx hb dX2_hasHole_13 (by decide) ?_
      refine W.widen (k := 0) (n := 0) (Nat.le_of_ble_eq_true rfl) (Nat.le_of_ble_eq_true rfl) ?_
      have hP9 := hP.sub (ws' := [(h0, .inr (2, [.ref g_node, .ref g_girth, .ref g_gave, .ref g_holeTree, .ref g_holeAngle, .ref g_holeYear, .int n_tr, .int n_ho]))]) [0] rfl
      have hD9 := hD.sub (ws' := [(h0, .inr (2, [.ref g_node, .ref g_girth, .ref g_gave, .ref g_holeTree, .ref g_holeAngle, .ref g_holeYear, .int n_tr, .int n_ho]))]) [0] (by decide) rfl
      have hK9 := hK.sub (tys' := []) [] rfl
      exact W.zret (ty := .boolean) (v := 1) hx hb hr rfl (fun t ht hW => ⟨⟨1, (), rfl, (Or.inl ⟨rfl, (lg_X2_hasHole_2 n_ho v1 t_2 t_4)⟩), ⟨by rw [ht]; exact hP9, va_K.moved hW.alike hK9, hD9⟩⟩, hS.F ht⟩) hS.2.2 dX2_hasHole_17

theorem lg_X2_nodeOfTree_0 (n_tr : Int32) (n_ho : Int32) (v1 : Int32) (yg : 0 ≤ n_tr.toInt ∧ n_tr.toInt ≤ 60 ∧ 0 ≤ n_ho.toInt ∧ n_ho.toInt ≤ 300) (yv : 0 ≤ v1.toInt ∧ v1.toInt < n_tr.toInt) (h_2 : 0 ≤ v1.toInt ∧ v1.toInt < n_tr.toInt) : 0 ≤ v1.toInt ∧ v1.toInt < ((60 : Nat) : Int) := by
  have := rg_rng n_tr; have := rg_rng n_ho; have := rg_rng v1; omega
theorem lg_X2_nodeOfTree_1 (n_tr : Int32) (n_ho : Int32) (f_node : Nat → Int32) (v1 : Int32) (x_4 : Int32) (yg : 0 ≤ n_tr.toInt ∧ n_tr.toInt ≤ 60 ∧ 0 ≤ n_ho.toInt ∧ n_ho.toInt ≤ 300) (yv : 0 ≤ v1.toInt ∧ v1.toInt < n_tr.toInt) (h_2 : 0 ≤ v1.toInt ∧ v1.toInt < n_tr.toInt) (t_6 : x_4.toInt = (f_node (Int32.toNatClampNeg v1)).toInt) : x_4.toInt = (f_node (Int32.toNatClampNeg v1)).toInt := by
  have := rg_rng n_tr; have := rg_rng n_ho; have := rg_rng v1; have := rg_rng x_4; omega
theorem lg_X2_nodeOfTree_2 (n_tr : Int32) (n_ho : Int32) (f_node : Nat → Int32) (v1 : Int32) (yg : 0 ≤ n_tr.toInt ∧ n_tr.toInt ≤ 60 ∧ 0 ≤ n_ho.toInt ∧ n_ho.toInt ≤ 300) (yv : 0 ≤ v1.toInt ∧ v1.toInt < n_tr.toInt) (h_2 : ¬ (0 ≤ v1.toInt ∧ v1.toInt < n_tr.toInt)) : (-1 : Int) = (f_node (Int32.toNatClampNeg v1)).toInt := by
  have := rg_rng n_tr; have := rg_rng n_ho; have := rg_rng v1; omega
set_option maxHeartbeats 4000000 in
set_option maxRecDepth 100000 in
theorem kX2_nodeOfTree (l : Launch) (dC : Nat → ClassId) (dI : Nat → Nat → Nat) (sz : Nat) (h0 : Nat) (g_node : Nat) (g_girth : Nat) (g_gave : Nat) (g_holeTree : Nat) (g_holeAngle : Nat) (g_holeYear : Nat) (n_tr : Int32) (n_ho : Int32) (k_node : ClassId) (f_node : Nat → Int32) (v1 : Int32) (yg : 0 ≤ n_tr.toInt ∧ n_tr.toInt ≤ 60 ∧ 0 ≤ n_ho.toInt ∧ n_ho.toInt ≤ 300) (yv : 0 ≤ v1.toInt ∧ v1.toInt < n_tr.toInt) : Met l yX2_nodeOfTree (Cond.code yX2_nodeOfTree cX2_nodeOfTree 2 (some .int) :: bg) ({ frames := 1, cells := 0, slots := 0, locals := 21 }) (pcW dC dI [.ref h0, .int v1] sz [(h0, .inr (2, [.ref g_node, .ref g_girth, .ref g_gave, .ref g_holeTree, .ref g_holeAngle, .ref g_holeYear, .int n_tr, .int n_ho])), (g_node, .inl (k_node, 60, .inl f_node))] [(k_node, .int)]) (va_Qi (fun (r : Int32) (u : Unit) => r.toInt = (f_node (Int32.toNatClampNeg v1)).toInt) (fun (u : Unit) (t : State) => va_P (dC, dI) vwCl [(h0, .inr (2, [.ref g_node, .ref g_girth, .ref g_gave, .ref g_holeTree, .ref g_holeAngle, .ref g_holeYear, .int n_tr, .int n_ho])), (g_node, .inl (k_node, 60, .inl f_node))] t.heap ∧ va_K (dC, dI) vwCl [(k_node, .int)] t ∧ va_D (va_A [(h0, .inr (2, [.ref g_node, .ref g_girth, .ref g_gave, .ref g_holeTree, .ref g_holeAngle, .ref g_holeYear, .int n_tr, .int n_ho])), (g_node, .inl (k_node, 60, .inl f_node))] sz) [(h0, .inr (2, [.ref g_node, .ref g_girth, .ref g_gave, .ref g_holeTree, .ref g_holeAngle, .ref g_holeYear, .int n_tr, .int n_ho])), (g_node, .inl (k_node, 60, .inl f_node))]) (va_A [(h0, .inr (2, [.ref g_node, .ref g_girth, .ref g_gave, .ref g_holeTree, .ref g_holeAngle, .ref g_holeYear, .int n_tr, .int n_ho])), (g_node, .inl (k_node, 60, .inl f_node))] sz)) 0 0 (va_A [(h0, .inr (2, [.ref g_node, .ref g_girth, .ref g_gave, .ref g_holeTree, .ref g_holeAngle, .ref g_holeYear, .int n_tr, .int n_ho])), (g_node, .inl (k_node, 60, .inl f_node))] sz) := by
  refine Met.ofW (cc := cX2_nodeOfTree) (maxL := 2) (ret := (some .int)) pnX2 rfl ?_
  intro p e s m args below meth c s₁ B hml hv
  obtain ⟨rfl, hsz, hP, hK, hD0, hN⟩ := hv
  have hx := B.exec
  have hb := B.bytes
  have hr := B.returns
  have htb : ∀ w ∈ bg, w.before [.ref h0, .int v1].toArray s = true := fun w h => atoms_spec (ws := Cond.code yX2_nodeOfTree cX2_nodeOfTree 2 (some .int) :: bg) B.pre w (List.mem_cons_of_mem _ h)
  have hown : s.vm.findClass RX2 = some m.cls := findClass_of_methodNamed B.named
  have hlocks := B.notSynchronized
  subst hsz
  have hD := hD0.self (sz := s.heap.size)
  generalize hAe : va_A [(h0, .inr (2, [.ref g_node, .ref g_girth, .ref g_gave, .ref g_holeTree, .ref g_holeAngle, .ref g_holeYear, .int n_tr, .int n_ho])), (g_node, .inl (k_node, 60, .inl f_node))] s.heap.size = A at hD ⊢
  have hA : ∀ q : Nat, s.heap.size ≤ q → A q := fun q h => by rw [← hAe]; exact Or.inr h
  have hS : va_S A s.heap s.heap [] := va_S.rf
  have hl := lv_entry ([.ref h0, .int v1]) (n := 2) (Nat.le_of_ble_eq_true rfl)
  rw [lg_entry_eq]
  generalize (lg_sl ([.ref h0, .int v1]) ++ List.replicate (2 - (lg_sl ([.ref h0, .int v1])).length) Slot.unset).toArray = ls at hl ⊢
  change lv_has ls 2 [(0, .ref h0), (1, .int v1)] at hl
  clear hD0 hAe
  refine go0 (wsP := fun H => va_P (dC, dI) vwCl [(h0, .inr (2, [.ref g_node, .ref g_girth, .ref g_gave, .ref g_holeTree, .ref g_holeAngle, .ref g_holeYear, .int n_tr, .int n_ho])), (g_node, .inl (k_node, 60, .inl f_node))] H) hP hS ?_
  clear hP hS; intro H locs hP hS
  change va_P (dC, dI) vwCl [(h0, .inr (2, [.ref g_node, .ref g_girth, .ref g_gave, .ref g_holeTree, .ref g_holeAngle, .ref g_holeYear, .int n_tr, .int n_ho])), (g_node, .inl (k_node, 60, .inl f_node))] H at hP
  refine lv_aload_n hx hb dX2_nodeOfTree_0 rfl (lv_at hl 0 rfl) ?_
  refine lv_iload_n hx hb dX2_nodeOfTree_1 rfl (lv_at hl 1 rfl) ?_
  have hPc := hP.sub (ws' := [(h0, .inr (2, [.ref g_node, .ref g_girth, .ref g_gave, .ref g_holeTree, .ref g_holeAngle, .ref g_holeYear, .int n_tr, .int n_ho]))]) [0] rfl
  have hDc := hD.sub (ws' := [(h0, .inr (2, [.ref g_node, .ref g_girth, .ref g_gave, .ref g_holeTree, .ref g_holeAngle, .ref g_holeYear, .int n_tr, .int n_ho]))]) [0] (by decide) rfl
  have hKc := hK.sub (tys' := []) [] rfl
  have hFc := va_free (wc := [(h0, .inr (2, [.ref g_node, .ref g_girth, .ref g_gave, .ref g_holeTree, .ref g_holeAngle, .ref g_holeYear, .int n_tr, .int n_ho]))]) hD hS hA [0] rfl
  refine va_calli (va_runV (C := RX2) (As := [.int v1]) (rest := []) ⟨hx, hb, hml, hown, htb⟩ (kX2_has l dC dI H.size h0 g_node g_girth g_gave g_holeTree g_holeAngle g_holeYear n_tr n_ho v1 ) ⟨callB_of 1 htb (gd_c m_383) rfl rfl rfl (htb _ m_3) (htb _ m_396) hdX2_has ⟨(Nat.le_of_ble_eq_true rfl), (Nat.le_of_ble_eq_true rfl)⟩, htb _ m_381, htb _ m_382⟩ ⟨pcW_blind, va_recv hKc hPc (ci := 2) (q0 := 0) rfl rfl, pcW_at hPc hKc hDc hN⟩ rfl rfl hl.1 rfl (lv_room (Nat.le_of_ble_eq_true rfl)) dX2_nodeOfTree_2 ⟨(Nat.le_of_ble_eq_true rfl), (Nat.le_of_ble_eq_true rfl)⟩) hS (fun q _ h => hFc q h) hFc (fun r_1 u t H1 locs1 ht hvm h_2 hB hz1 hk1 hS1 => ?_)
  obtain ⟨hP1, hK1, hD1⟩ := hB
  rw [ht] at hP1
  obtain ⟨hPn, hDn⟩ := va_join (wr := [(g_node, .inl (k_node, 60, .inl f_node))]) (w1 := [(h0, .inr (2, [.ref g_node, .ref g_girth, .ref g_gave, .ref g_holeTree, .ref g_holeAngle, .ref g_holeYear, .int n_tr, .int n_ho]))]) hP hD [0] [1] rfl rfl (by decide) (by decide) hk1 hFc hP1 hD1
  clear hP1 hD1 hK1
  clear hP hD hS hPc hDc hKc hFc hk1 hz1 ht hvm
  clear t
  revert hS1 hPn hDn; generalize H1 = H; generalize locs1 = locs; intro hS hP hD
  change va_P (dC, dI) vwCl [(g_node, .inl (k_node, 60, .inl f_node)), (h0, .inr (2, [.ref g_node, .ref g_girth, .ref g_gave, .ref g_holeTree, .ref g_holeAngle, .ref g_holeYear, .int n_tr, .int n_ho]))] H at hP
  change va_D A [(g_node, .inl (k_node, 60, .inl f_node)), (h0, .inr (2, [.ref g_node, .ref g_girth, .ref g_gave, .ref g_holeTree, .ref g_holeAngle, .ref g_holeYear, .int n_tr, .int n_ho]))] at hD
  rcases h_2 with ⟨rfl, h_2⟩ | ⟨rfl, h_2⟩
  · refine lv_if_eq (tgt := 17) hx hb dX2_nodeOfTree_5 (by decide) (fun c_3 => absurd c_3 (by decide)) ?_
    intro _
    refine lv_aload_n hx hb dX2_nodeOfTree_8 rfl (lv_at hl 0 rfl) ?_
    refine va_get (D := (dC, dI)) (ci := 2) (v := .ref g_node) (C := RX2) (T := TX2) (N := 8) hx hb htb iX2 hown hK hP 1 rfl rfl 0 (Nat.le_of_ble_eq_true rfl) (htb _ m_71) (fun _ h9 => h9) rfl dX2_nodeOfTree_9 ?_
    refine lv_iload_n hx hb dX2_nodeOfTree_12 rfl (lv_at hl 1 rfl) ?_
    refine va_iald hx hb hK hP 0 0 rfl rfl (i_in rfl (lg_X2_nodeOfTree_0 n_tr n_ho v1 yg yv h_2)) dX2_nodeOfTree_13 ?_
    refine lv_topi (fun x_4 ex_5 => ?_)
    have t_6 : x_4.toInt = (f_node (Int32.toNatClampNeg v1)).toInt := by rw [ex_5]
    refine lv_goto (tgt := 18) hx hb dX2_nodeOfTree_14 (by decide) ?_
    refine W.widen (k := 0) (n := 0) (Nat.le_of_ble_eq_true rfl) (Nat.le_of_ble_eq_true rfl) ?_
    have hP9 := hP.sub (ws' := [(h0, .inr (2, [.ref g_node, .ref g_girth, .ref g_gave, .ref g_holeTree, .ref g_holeAngle, .ref g_holeYear, .int n_tr, .int n_ho])), (g_node, .inl (k_node, 60, .inl f_node))]) [1, 0] rfl
    have hD9 := hD.sub (ws' := [(h0, .inr (2, [.ref g_node, .ref g_girth, .ref g_gave, .ref g_holeTree, .ref g_holeAngle, .ref g_holeYear, .int n_tr, .int n_ho])), (g_node, .inl (k_node, 60, .inl f_node))]) [1, 0] (by decide) rfl
    have hK9 := hK.sub (tys' := [(k_node, .int)]) [0] rfl
    exact W.iret (v := x_4) hx hb hr (fun t ht hW => ⟨⟨x_4, (), rfl, (lg_X2_nodeOfTree_1 n_tr n_ho f_node v1 x_4 yg yv h_2 t_6), ⟨by rw [ht]; exact hP9, va_K.moved hW.alike hK9, hD9⟩⟩, hS.F ht⟩) hS.2.2 dX2_nodeOfTree_18
  · refine lv_if_eq (tgt := 17) hx hb dX2_nodeOfTree_5 (by decide) ?_ (fun c_7 => absurd (by decide) c_7)
    intro _
    refine lv_iconst (v := (-1)) hx hb dX2_nodeOfTree_17 (by decide) ?_
    refine W.widen (k := 0) (n := 0) (Nat.le_of_ble_eq_true rfl) (Nat.le_of_ble_eq_true rfl) ?_
    have hP9 := hP.sub (ws' := [(h0, .inr (2, [.ref g_node, .ref g_girth, .ref g_gave, .ref g_holeTree, .ref g_holeAngle, .ref g_holeYear, .int n_tr, .int n_ho])), (g_node, .inl (k_node, 60, .inl f_node))]) [1, 0] rfl
    have hD9 := hD.sub (ws' := [(h0, .inr (2, [.ref g_node, .ref g_girth, .ref g_gave, .ref g_holeTree, .ref g_holeAngle, .ref g_holeYear, .int n_tr, .int n_ho])), (g_node, .inl (k_node, 60, .inl f_node))]) [1, 0] (by decide) rfl
    have hK9 := hK.sub (tys' := [(k_node, .int)]) [0] rfl
    exact W.iret (v := (-1)) hx hb hr (fun t ht hW => ⟨⟨(-1), (), rfl, (lg_X2_nodeOfTree_2 n_tr n_ho f_node v1 yg yv h_2), ⟨by rw [ht]; exact hP9, va_K.moved hW.alike hK9, hD9⟩⟩, hS.F ht⟩) hS.2.2 dX2_nodeOfTree_18

theorem lg_X2_girthOf_0 (n_tr : Int32) (n_ho : Int32) (v1 : Int32) (yg : 0 ≤ n_tr.toInt ∧ n_tr.toInt ≤ 60 ∧ 0 ≤ n_ho.toInt ∧ n_ho.toInt ≤ 300) (yv : 0 ≤ v1.toInt ∧ v1.toInt < n_tr.toInt) (h_2 : 0 ≤ v1.toInt ∧ v1.toInt < n_tr.toInt) : 0 ≤ v1.toInt ∧ v1.toInt < ((60 : Nat) : Int) := by
  have := rg_rng n_tr; have := rg_rng n_ho; have := rg_rng v1; omega
theorem lg_X2_girthOf_1 (n_tr : Int32) (n_ho : Int32) (f_girth : Nat → Int32) (v1 : Int32) (x_4 : Int32) (yg : 0 ≤ n_tr.toInt ∧ n_tr.toInt ≤ 60 ∧ 0 ≤ n_ho.toInt ∧ n_ho.toInt ≤ 300) (yv : 0 ≤ v1.toInt ∧ v1.toInt < n_tr.toInt) (h_2 : 0 ≤ v1.toInt ∧ v1.toInt < n_tr.toInt) (t_6 : x_4.toInt = (f_girth (Int32.toNatClampNeg v1)).toInt) : x_4.toInt = (f_girth (Int32.toNatClampNeg v1)).toInt := by
  have := rg_rng n_tr; have := rg_rng n_ho; have := rg_rng v1; have := rg_rng x_4; omega
theorem lg_X2_girthOf_2 (n_tr : Int32) (n_ho : Int32) (f_girth : Nat → Int32) (v1 : Int32) (yg : 0 ≤ n_tr.toInt ∧ n_tr.toInt ≤ 60 ∧ 0 ≤ n_ho.toInt ∧ n_ho.toInt ≤ 300) (yv : 0 ≤ v1.toInt ∧ v1.toInt < n_tr.toInt) (h_2 : ¬ (0 ≤ v1.toInt ∧ v1.toInt < n_tr.toInt)) : (-1 : Int) = (f_girth (Int32.toNatClampNeg v1)).toInt := by
  have := rg_rng n_tr; have := rg_rng n_ho; have := rg_rng v1; omega
set_option maxHeartbeats 4000000 in
set_option maxRecDepth 100000 in
theorem kX2_girthOf (l : Launch) (dC : Nat → ClassId) (dI : Nat → Nat → Nat) (sz : Nat) (h0 : Nat) (g_node : Nat) (g_girth : Nat) (g_gave : Nat) (g_holeTree : Nat) (g_holeAngle : Nat) (g_holeYear : Nat) (n_tr : Int32) (n_ho : Int32) (k_girth : ClassId) (f_girth : Nat → Int32) (v1 : Int32) (yg : 0 ≤ n_tr.toInt ∧ n_tr.toInt ≤ 60 ∧ 0 ≤ n_ho.toInt ∧ n_ho.toInt ≤ 300) (yv : 0 ≤ v1.toInt ∧ v1.toInt < n_tr.toInt) : Met l yX2_girthOf (Cond.code yX2_girthOf cX2_girthOf 2 (some .int) :: bg) ({ frames := 1, cells := 0, slots := 0, locals := 21 }) (pcW dC dI [.ref h0, .int v1] sz [(h0, .inr (2, [.ref g_node, .ref g_girth, .ref g_gave, .ref g_holeTree, .ref g_holeAngle, .ref g_holeYear, .int n_tr, .int n_ho])), (g_girth, .inl (k_girth, 60, .inl f_girth))] [(k_girth, .int)]) (va_Qi (fun (r : Int32) (u : Unit) => r.toInt = (f_girth (Int32.toNatClampNeg v1)).toInt) (fun (u : Unit) (t : State) => va_P (dC, dI) vwCl [(h0, .inr (2, [.ref g_node, .ref g_girth, .ref g_gave, .ref g_holeTree, .ref g_holeAngle, .ref g_holeYear, .int n_tr, .int n_ho])), (g_girth, .inl (k_girth, 60, .inl f_girth))] t.heap ∧ va_K (dC, dI) vwCl [(k_girth, .int)] t ∧ va_D (va_A [(h0, .inr (2, [.ref g_node, .ref g_girth, .ref g_gave, .ref g_holeTree, .ref g_holeAngle, .ref g_holeYear, .int n_tr, .int n_ho])), (g_girth, .inl (k_girth, 60, .inl f_girth))] sz) [(h0, .inr (2, [.ref g_node, .ref g_girth, .ref g_gave, .ref g_holeTree, .ref g_holeAngle, .ref g_holeYear, .int n_tr, .int n_ho])), (g_girth, .inl (k_girth, 60, .inl f_girth))]) (va_A [(h0, .inr (2, [.ref g_node, .ref g_girth, .ref g_gave, .ref g_holeTree, .ref g_holeAngle, .ref g_holeYear, .int n_tr, .int n_ho])), (g_girth, .inl (k_girth, 60, .inl f_girth))] sz)) 0 0 (va_A [(h0, .inr (2, [.ref g_node, .ref g_girth, .ref g_gave, .ref g_holeTree, .ref g_holeAngle, .ref g_holeYear, .int n_tr, .int n_ho])), (g_girth, .inl (k_girth, 60, .inl f_girth))] sz) := by
  refine Met.ofW (cc := cX2_girthOf) (maxL := 2) (ret := (some .int)) pnX2 rfl ?_
  intro p e s m args below meth c s₁ B hml hv
  obtain ⟨rfl, hsz, hP, hK, hD0, hN⟩ := hv
  have hx := B.exec
  have hb := B.bytes
  have hr := B.returns
  have htb : ∀ w ∈ bg, w.before [.ref h0, .int v1].toArray s = true := fun w h => atoms_spec (ws := Cond.code yX2_girthOf cX2_girthOf 2 (some .int) :: bg) B.pre w (List.mem_cons_of_mem _ h)
  have hown : s.vm.findClass RX2 = some m.cls := findClass_of_methodNamed B.named
  have hlocks := B.notSynchronized
  subst hsz
  have hD := hD0.self (sz := s.heap.size)
  generalize hAe : va_A [(h0, .inr (2, [.ref g_node, .ref g_girth, .ref g_gave, .ref g_holeTree, .ref g_holeAngle, .ref g_holeYear, .int n_tr, .int n_ho])), (g_girth, .inl (k_girth, 60, .inl f_girth))] s.heap.size = A at hD ⊢
  have hA : ∀ q : Nat, s.heap.size ≤ q → A q := fun q h => by rw [← hAe]; exact Or.inr h
  have hS : va_S A s.heap s.heap [] := va_S.rf
  have hl := lv_entry ([.ref h0, .int v1]) (n := 2) (Nat.le_of_ble_eq_true rfl)
  rw [lg_entry_eq]
  generalize (lg_sl ([.ref h0, .int v1]) ++ List.replicate (2 - (lg_sl ([.ref h0, .int v1])).length) Slot.unset).toArray = ls at hl ⊢
  change lv_has ls 2 [(0, .ref h0), (1, .int v1)] at hl
  clear hD0 hAe
  refine go0 (wsP := fun H => va_P (dC, dI) vwCl [(h0, .inr (2, [.ref g_node, .ref g_girth, .ref g_gave, .ref g_holeTree, .ref g_holeAngle, .ref g_holeYear, .int n_tr, .int n_ho])), (g_girth, .inl (k_girth, 60, .inl f_girth))] H) hP hS ?_
  clear hP hS; intro H locs hP hS
  change va_P (dC, dI) vwCl [(h0, .inr (2, [.ref g_node, .ref g_girth, .ref g_gave, .ref g_holeTree, .ref g_holeAngle, .ref g_holeYear, .int n_tr, .int n_ho])), (g_girth, .inl (k_girth, 60, .inl f_girth))] H at hP
  refine lv_aload_n hx hb dX2_girthOf_0 rfl (lv_at hl 0 rfl) ?_
  refine lv_iload_n hx hb dX2_girthOf_1 rfl (lv_at hl 1 rfl) ?_
  have hPc := hP.sub (ws' := [(h0, .inr (2, [.ref g_node, .ref g_girth, .ref g_gave, .ref g_holeTree, .ref g_holeAngle, .ref g_holeYear, .int n_tr, .int n_ho]))]) [0] rfl
  have hDc := hD.sub (ws' := [(h0, .inr (2, [.ref g_node, .ref g_girth, .ref g_gave, .ref g_holeTree, .ref g_holeAngle, .ref g_holeYear, .int n_tr, .int n_ho]))]) [0] (by decide) rfl
  have hKc := hK.sub (tys' := []) [] rfl
  have hFc := va_free (wc := [(h0, .inr (2, [.ref g_node, .ref g_girth, .ref g_gave, .ref g_holeTree, .ref g_holeAngle, .ref g_holeYear, .int n_tr, .int n_ho]))]) hD hS hA [0] rfl
  refine va_calli (va_runV (C := RX2) (As := [.int v1]) (rest := []) ⟨hx, hb, hml, hown, htb⟩ (kX2_has l dC dI H.size h0 g_node g_girth g_gave g_holeTree g_holeAngle g_holeYear n_tr n_ho v1 ) ⟨callB_of 1 htb (gd_c m_383) rfl rfl rfl (htb _ m_3) (htb _ m_396) hdX2_has ⟨(Nat.le_of_ble_eq_true rfl), (Nat.le_of_ble_eq_true rfl)⟩, htb _ m_381, htb _ m_382⟩ ⟨pcW_blind, va_recv hKc hPc (ci := 2) (q0 := 0) rfl rfl, pcW_at hPc hKc hDc hN⟩ rfl rfl hl.1 rfl (lv_room (Nat.le_of_ble_eq_true rfl)) dX2_girthOf_2 ⟨(Nat.le_of_ble_eq_true rfl), (Nat.le_of_ble_eq_true rfl)⟩) hS (fun q _ h => hFc q h) hFc (fun r_1 u t H1 locs1 ht hvm h_2 hB hz1 hk1 hS1 => ?_)
  obtain ⟨hP1, hK1, hD1⟩ := hB
  rw [ht] at hP1
  obtain ⟨hPn, hDn⟩ := va_join (wr := [(g_girth, .inl (k_girth, 60, .inl f_girth))]) (w1 := [(h0, .inr (2, [.ref g_node, .ref g_girth, .ref g_gave, .ref g_holeTree, .ref g_holeAngle, .ref g_holeYear, .int n_tr, .int n_ho]))]) hP hD [0] [1] rfl rfl (by decide) (by decide) hk1 hFc hP1 hD1
  clear hP1 hD1 hK1
  clear hP hD hS hPc hDc hKc hFc hk1 hz1 ht hvm
  clear t
  revert hS1 hPn hDn; generalize H1 = H; generalize locs1 = locs; intro hS hP hD
  change va_P (dC, dI) vwCl [(g_girth, .inl (k_girth, 60, .inl f_girth)), (h0, .inr (2, [.ref g_node, .ref g_girth, .ref g_gave, .ref g_holeTree, .ref g_holeAngle, .ref g_holeYear, .int n_tr, .int n_ho]))] H at hP
  change va_D A [(g_girth, .inl (k_girth, 60, .inl f_girth)), (h0, .inr (2, [.ref g_node, .ref g_girth, .ref g_gave, .ref g_holeTree, .ref g_holeAngle, .ref g_holeYear, .int n_tr, .int n_ho]))] at hD
  rcases h_2 with ⟨rfl, h_2⟩ | ⟨rfl, h_2⟩
  · refine lv_if_eq (tgt := 17) hx hb dX2_girthOf_5 (by decide) (fun c_3 => absurd c_3 (by decide)) ?_
    intro _
    refine lv_aload_n hx hb dX2_girthOf_8 rfl (lv_at hl 0 rfl) ?_
    refine va_get (D := (dC, dI)) (ci := 2) (v := .ref g_girth) (C := RX2) (T := TX2) (N := 8) hx hb htb iX2 hown hK hP 1 rfl rfl 1 (Nat.le_of_ble_eq_true rfl) (htb _ m_72) (fun _ h9 => h9) rfl dX2_girthOf_9 ?_
    refine lv_iload_n hx hb dX2_girthOf_12 rfl (lv_at hl 1 rfl) ?_
    refine va_iald hx hb hK hP 0 0 rfl rfl (i_in rfl (lg_X2_girthOf_0 n_tr n_ho v1 yg yv h_2)) dX2_girthOf_13 ?_
    refine lv_topi (fun x_4 ex_5 => ?_)
    have t_6 : x_4.toInt = (f_girth (Int32.toNatClampNeg v1)).toInt := by rw [ex_5]
    refine lv_goto (tgt := 18) hx hb dX2_girthOf_14 (by decide) ?_
    refine W.widen (k := 0) (n := 0) (Nat.le_of_ble_eq_true rfl) (Nat.le_of_ble_eq_true rfl) ?_
    have hP9 := hP.sub (ws' := [(h0, .inr (2, [.ref g_node, .ref g_girth, .ref g_gave, .ref g_holeTree, .ref g_holeAngle, .ref g_holeYear, .int n_tr, .int n_ho])), (g_girth, .inl (k_girth, 60, .inl f_girth))]) [1, 0] rfl
    have hD9 := hD.sub (ws' := [(h0, .inr (2, [.ref g_node, .ref g_girth, .ref g_gave, .ref g_holeTree, .ref g_holeAngle, .ref g_holeYear, .int n_tr, .int n_ho])), (g_girth, .inl (k_girth, 60, .inl f_girth))]) [1, 0] (by decide) rfl
    have hK9 := hK.sub (tys' := [(k_girth, .int)]) [0] rfl
    exact W.iret (v := x_4) hx hb hr (fun t ht hW => ⟨⟨x_4, (), rfl, (lg_X2_girthOf_1 n_tr n_ho f_girth v1 x_4 yg yv h_2 t_6), ⟨by rw [ht]; exact hP9, va_K.moved hW.alike hK9, hD9⟩⟩, hS.F ht⟩) hS.2.2 dX2_girthOf_18
  · refine lv_if_eq (tgt := 17) hx hb dX2_girthOf_5 (by decide) ?_ (fun c_7 => absurd (by decide) c_7)
    intro _
    refine lv_iconst (v := (-1)) hx hb dX2_girthOf_17 (by decide) ?_
    refine W.widen (k := 0) (n := 0) (Nat.le_of_ble_eq_true rfl) (Nat.le_of_ble_eq_true rfl) ?_
    have hP9 := hP.sub (ws' := [(h0, .inr (2, [.ref g_node, .ref g_girth, .ref g_gave, .ref g_holeTree, .ref g_holeAngle, .ref g_holeYear, .int n_tr, .int n_ho])), (g_girth, .inl (k_girth, 60, .inl f_girth))]) [1, 0] rfl
    have hD9 := hD.sub (ws' := [(h0, .inr (2, [.ref g_node, .ref g_girth, .ref g_gave, .ref g_holeTree, .ref g_holeAngle, .ref g_holeYear, .int n_tr, .int n_ho])), (g_girth, .inl (k_girth, 60, .inl f_girth))]) [1, 0] (by decide) rfl
    have hK9 := hK.sub (tys' := [(k_girth, .int)]) [0] rfl
    exact W.iret (v := (-1)) hx hb hr (fun t ht hW => ⟨⟨(-1), (), rfl, (lg_X2_girthOf_2 n_tr n_ho f_girth v1 yg yv h_2), ⟨by rw [ht]; exact hP9, va_K.moved hW.alike hK9, hD9⟩⟩, hS.F ht⟩) hS.2.2 dX2_girthOf_18

theorem lg_X2_gaveThisYear_0 (n_tr : Int32) (n_ho : Int32) (v1 : Int32) (yg : 0 ≤ n_tr.toInt ∧ n_tr.toInt ≤ 60 ∧ 0 ≤ n_ho.toInt ∧ n_ho.toInt ≤ 300) (yv : 0 ≤ v1.toInt ∧ v1.toInt < n_tr.toInt) (h_2 : 0 ≤ v1.toInt ∧ v1.toInt < n_tr.toInt) : 0 ≤ v1.toInt ∧ v1.toInt < ((60 : Nat) : Int) := by
  have := rg_rng n_tr; have := rg_rng n_ho; have := rg_rng v1; omega
theorem lg_X2_gaveThisYear_1 (n_tr : Int32) (n_ho : Int32) (f_gave : Nat → Int32) (v1 : Int32) (x_4 : Int32) (yg : 0 ≤ n_tr.toInt ∧ n_tr.toInt ≤ 60 ∧ 0 ≤ n_ho.toInt ∧ n_ho.toInt ≤ 300) (yv : 0 ≤ v1.toInt ∧ v1.toInt < n_tr.toInt) (h_2 : 0 ≤ v1.toInt ∧ v1.toInt < n_tr.toInt) (t_6 : x_4.toInt = (f_gave (Int32.toNatClampNeg v1)).toInt) : x_4.toInt = (f_gave (Int32.toNatClampNeg v1)).toInt := by
  have := rg_rng n_tr; have := rg_rng n_ho; have := rg_rng v1; have := rg_rng x_4; omega
theorem lg_X2_gaveThisYear_2 (n_tr : Int32) (n_ho : Int32) (f_gave : Nat → Int32) (v1 : Int32) (yg : 0 ≤ n_tr.toInt ∧ n_tr.toInt ≤ 60 ∧ 0 ≤ n_ho.toInt ∧ n_ho.toInt ≤ 300) (yv : 0 ≤ v1.toInt ∧ v1.toInt < n_tr.toInt) (h_2 : ¬ (0 ≤ v1.toInt ∧ v1.toInt < n_tr.toInt)) : (-1 : Int) = (f_gave (Int32.toNatClampNeg v1)).toInt := by
  have := rg_rng n_tr; have := rg_rng n_ho; have := rg_rng v1; omega
set_option maxHeartbeats 4000000 in
set_option maxRecDepth 100000 in
theorem kX2_gaveThisYear (l : Launch) (dC : Nat → ClassId) (dI : Nat → Nat → Nat) (sz : Nat) (h0 : Nat) (g_node : Nat) (g_girth : Nat) (g_gave : Nat) (g_holeTree : Nat) (g_holeAngle : Nat) (g_holeYear : Nat) (n_tr : Int32) (n_ho : Int32) (k_gave : ClassId) (f_gave : Nat → Int32) (v1 : Int32) (yg : 0 ≤ n_tr.toInt ∧ n_tr.toInt ≤ 60 ∧ 0 ≤ n_ho.toInt ∧ n_ho.toInt ≤ 300) (yv : 0 ≤ v1.toInt ∧ v1.toInt < n_tr.toInt) : Met l yX2_gaveThisYear (Cond.code yX2_gaveThisYear cX2_gaveThisYear 2 (some .int) :: bg) ({ frames := 1, cells := 0, slots := 0, locals := 21 }) (pcW dC dI [.ref h0, .int v1] sz [(h0, .inr (2, [.ref g_node, .ref g_girth, .ref g_gave, .ref g_holeTree, .ref g_holeAngle, .ref g_holeYear, .int n_tr, .int n_ho])), (g_gave, .inl (k_gave, 60, .inl f_gave))] [(k_gave, .int)]) (va_Qi (fun (r : Int32) (u : Unit) => r.toInt = (f_gave (Int32.toNatClampNeg v1)).toInt) (fun (u : Unit) (t : State) => va_P (dC, dI) vwCl [(h0, .inr (2, [.ref g_node, .ref g_girth, .ref g_gave, .ref g_holeTree, .ref g_holeAngle, .ref g_holeYear, .int n_tr, .int n_ho])), (g_gave, .inl (k_gave, 60, .inl f_gave))] t.heap ∧ va_K (dC, dI) vwCl [(k_gave, .int)] t ∧ va_D (va_A [(h0, .inr (2, [.ref g_node, .ref g_girth, .ref g_gave, .ref g_holeTree, .ref g_holeAngle, .ref g_holeYear, .int n_tr, .int n_ho])), (g_gave, .inl (k_gave, 60, .inl f_gave))] sz) [(h0, .inr (2, [.ref g_node, .ref g_girth, .ref g_gave, .ref g_holeTree, .ref g_holeAngle, .ref g_holeYear, .int n_tr, .int n_ho])), (g_gave, .inl (k_gave, 60, .inl f_gave))]) (va_A [(h0, .inr (2, [.ref g_node, .ref g_girth, .ref g_gave, .ref g_holeTree, .ref g_holeAngle, .ref g_holeYear, .int n_tr, .int n_ho])), (g_gave, .inl (k_gave, 60, .inl f_gave))] sz)) 0 0 (va_A [(h0, .inr (2, [.ref g_node, .ref g_girth, .ref g_gave, .ref g_holeTree, .ref g_holeAngle, .ref g_holeYear, .int n_tr, .int n_ho])), (g_gave, .inl (k_gave, 60, .inl f_gave))] sz) := by
  refine Met.ofW (cc := cX2_gaveThisYear) (maxL := 2) (ret := (some .int)) pnX2 rfl ?_
  intro p e s m args below meth c s₁ B hml hv
  obtain ⟨rfl, hsz, hP, hK, hD0, hN⟩ := hv
  have hx := B.exec
  have hb := B.bytes
  have hr := B.returns
  have htb : ∀ w ∈ bg, w.before [.ref h0, .int v1].toArray s = true := fun w h => atoms_spec (ws := Cond.code yX2_gaveThisYear cX2_gaveThisYear 2 (some .int) :: bg) B.pre w (List.mem_cons_of_mem _ h)
  have hown : s.vm.findClass RX2 = some m.cls := findClass_of_methodNamed B.named
  have hlocks := B.notSynchronized
  subst hsz
  have hD := hD0.self (sz := s.heap.size)
  generalize hAe : va_A [(h0, .inr (2, [.ref g_node, .ref g_girth, .ref g_gave, .ref g_holeTree, .ref g_holeAngle, .ref g_holeYear, .int n_tr, .int n_ho])), (g_gave, .inl (k_gave, 60, .inl f_gave))] s.heap.size = A at hD ⊢
  have hA : ∀ q : Nat, s.heap.size ≤ q → A q := fun q h => by rw [← hAe]; exact Or.inr h
  have hS : va_S A s.heap s.heap [] := va_S.rf
  have hl := lv_entry ([.ref h0, .int v1]) (n := 2) (Nat.le_of_ble_eq_true rfl)
  rw [lg_entry_eq]
  generalize (lg_sl ([.ref h0, .int v1]) ++ List.replicate (2 - (lg_sl ([.ref h0, .int v1])).length) Slot.unset).toArray = ls at hl ⊢
  change lv_has ls 2 [(0, .ref h0), (1, .int v1)] at hl
  clear hD0 hAe
  refine go0 (wsP := fun H => va_P (dC, dI) vwCl [(h0, .inr (2, [.ref g_node, .ref g_girth, .ref g_gave, .ref g_holeTree, .ref g_holeAngle, .ref g_holeYear, .int n_tr, .int n_ho])), (g_gave, .inl (k_gave, 60, .inl f_gave))] H) hP hS ?_
  clear hP hS; intro H locs hP hS
  change va_P (dC, dI) vwCl [(h0, .inr (2, [.ref g_node, .ref g_girth, .ref g_gave, .ref g_holeTree, .ref g_holeAngle, .ref g_holeYear, .int n_tr, .int n_ho])), (g_gave, .inl (k_gave, 60, .inl f_gave))] H at hP
  refine lv_aload_n hx hb dX2_gaveThisYear_0 rfl (lv_at hl 0 rfl) ?_
  refine lv_iload_n hx hb dX2_gaveThisYear_1 rfl (lv_at hl 1 rfl) ?_
  have hPc := hP.sub (ws' := [(h0, .inr (2, [.ref g_node, .ref g_girth, .ref g_gave, .ref g_holeTree, .ref g_holeAngle, .ref g_holeYear, .int n_tr, .int n_ho]))]) [0] rfl
  have hDc := hD.sub (ws' := [(h0, .inr (2, [.ref g_node, .ref g_girth, .ref g_gave, .ref g_holeTree, .ref g_holeAngle, .ref g_holeYear, .int n_tr, .int n_ho]))]) [0] (by decide) rfl
  have hKc := hK.sub (tys' := []) [] rfl
  have hFc := va_free (wc := [(h0, .inr (2, [.ref g_node, .ref g_girth, .ref g_gave, .ref g_holeTree, .ref g_holeAngle, .ref g_holeYear, .int n_tr, .int n_ho]))]) hD hS hA [0] rfl
  refine va_calli (va_runV (C := RX2) (As := [.int v1]) (rest := []) ⟨hx, hb, hml, hown, htb⟩ (kX2_has l dC dI H.size h0 g_node g_girth g_gave g_holeTree g_holeAngle g_holeYear n_tr n_ho v1 ) ⟨callB_of 1 htb (gd_c m_383) rfl rfl rfl (htb _ m_3) (htb _ m_396) hdX2_has ⟨(Nat.le_of_ble_eq_true rfl), (Nat.le_of_ble_eq_true rfl)⟩, htb _ m_381, htb _ m_382⟩ ⟨pcW_blind, va_recv hKc hPc (ci := 2) (q0 := 0) rfl rfl, pcW_at hPc hKc hDc hN⟩ rfl rfl hl.1 rfl (lv_room (Nat.le_of_ble_eq_true rfl)) dX2_gaveThisYear_2 ⟨(Nat.le_of_ble_eq_true rfl), (Nat.le_of_ble_eq_true rfl)⟩) hS (fun q _ h => hFc q h) hFc (fun r_1 u t H1 locs1 ht hvm h_2 hB hz1 hk1 hS1 => ?_)
  obtain ⟨hP1, hK1, hD1⟩ := hB
  rw [ht] at hP1
  obtain ⟨hPn, hDn⟩ := va_join (wr := [(g_gave, .inl (k_gave, 60, .inl f_gave))]) (w1 := [(h0, .inr (2, [.ref g_node, .ref g_girth, .ref g_gave, .ref g_holeTree, .ref g_holeAngle, .ref g_holeYear, .int n_tr, .int n_ho]))]) hP hD [0] [1] rfl rfl (by decide) (by decide) hk1 hFc hP1 hD1
  clear hP1 hD1 hK1
  clear hP hD hS hPc hDc hKc hFc hk1 hz1 ht hvm
  clear t
  revert hS1 hPn hDn; generalize H1 = H; generalize locs1 = locs; intro hS hP hD
  change va_P (dC, dI) vwCl [(g_gave, .inl (k_gave, 60, .inl f_gave)), (h0, .inr (2, [.ref g_node, .ref g_girth, .ref g_gave, .ref g_holeTree, .ref g_holeAngle, .ref g_holeYear, .int n_tr, .int n_ho]))] H at hP
  change va_D A [(g_gave, .inl (k_gave, 60, .inl f_gave)), (h0, .inr (2, [.ref g_node, .ref g_girth, .ref g_gave, .ref g_holeTree, .ref g_holeAngle, .ref g_holeYear, .int n_tr, .int n_ho]))] at hD
  rcases h_2 with ⟨rfl, h_2⟩ | ⟨rfl, h_2⟩
  · refine lv_if_eq (tgt := 17) hx hb dX2_gaveThisYear_5 (by decide) (fun c_3 => absurd c_3 (by decide)) ?_
    intro _
    refine lv_aload_n hx hb dX2_gaveThisYear_8 rfl (lv_at hl 0 rfl) ?_
    refine va_get (D := (dC, dI)) (ci := 2) (v := .ref g_gave) (C := RX2) (T := TX2) (N := 8) hx hb htb iX2 hown hK hP 1 rfl rfl 2 (Nat.le_of_ble_eq_true rfl) (htb _ m_73) (fun _ h9 => h9) rfl dX2_gaveThisYear_9 ?_
    refine lv_iload_n hx hb dX2_gaveThisYear_12 rfl (lv_at hl 1 rfl) ?_
    refine va_iald hx hb hK hP 0 0 rfl rfl (i_in rfl (lg_X2_gaveThisYear_0 n_tr n_ho v1 yg yv h_2)) dX2_gaveThisYear_13 ?_
    refine lv_topi (fun x_4 ex_5 => ?_)
    have t_6 : x_4.toInt = (f_gave (Int32.toNatClampNeg v1)).toInt := by rw [ex_5]
    refine lv_goto (tgt := 18) hx hb dX2_gaveThisYear_14 (by decide) ?_
    refine W.widen (k := 0) (n := 0) (Nat.le_of_ble_eq_true rfl) (Nat.le_of_ble_eq_true rfl) ?_
    have hP9 := hP.sub (ws' := [(h0, .inr (2, [.ref g_node, .ref g_girth, .ref g_gave, .ref g_holeTree, .ref g_holeAngle, .ref g_holeYear, .int n_tr, .int n_ho])), (g_gave, .inl (k_gave, 60, .inl f_gave))]) [1, 0] rfl
    have hD9 := hD.sub (ws' := [(h0, .inr (2, [.ref g_node, .ref g_girth, .ref g_gave, .ref g_holeTree, .ref g_holeAngle, .ref g_holeYear, .int n_tr, .int n_ho])), (g_gave, .inl (k_gave, 60, .inl f_gave))]) [1, 0] (by decide) rfl
    have hK9 := hK.sub (tys' := [(k_gave, .int)]) [0] rfl
    exact W.iret (v := x_4) hx hb hr (fun t ht hW => ⟨⟨x_4, (), rfl, (lg_X2_gaveThisYear_1 n_tr n_ho f_gave v1 x_4 yg yv h_2 t_6), ⟨by rw [ht]; exact hP9, va_K.moved hW.alike hK9, hD9⟩⟩, hS.F ht⟩) hS.2.2 dX2_gaveThisYear_18
  · refine lv_if_eq (tgt := 17) hx hb dX2_gaveThisYear_5 (by decide) ?_ (fun c_7 => absurd (by decide) c_7)
    intro _
    refine lv_iconst (v := (-1)) hx hb dX2_gaveThisYear_17 (by decide) ?_
    refine W.widen (k := 0) (n := 0) (Nat.le_of_ble_eq_true rfl) (Nat.le_of_ble_eq_true rfl) ?_
    have hP9 := hP.sub (ws' := [(h0, .inr (2, [.ref g_node, .ref g_girth, .ref g_gave, .ref g_holeTree, .ref g_holeAngle, .ref g_holeYear, .int n_tr, .int n_ho])), (g_gave, .inl (k_gave, 60, .inl f_gave))]) [1, 0] rfl
    have hD9 := hD.sub (ws' := [(h0, .inr (2, [.ref g_node, .ref g_girth, .ref g_gave, .ref g_holeTree, .ref g_holeAngle, .ref g_holeYear, .int n_tr, .int n_ho])), (g_gave, .inl (k_gave, 60, .inl f_gave))]) [1, 0] (by decide) rfl
    have hK9 := hK.sub (tys' := [(k_gave, .int)]) [0] rfl
    exact W.iret (v := (-1)) hx hb hr (fun t ht hW => ⟨⟨(-1), (), rfl, (lg_X2_gaveThisYear_2 n_tr n_ho f_gave v1 yg yv h_2), ⟨by rw [ht]; exact hP9, va_K.moved hW.alike hK9, hD9⟩⟩, hS.F ht⟩) hS.2.2 dX2_gaveThisYear_18

theorem lg_X2_treeOfHole_0 (n_tr : Int32) (n_ho : Int32) (v1 : Int32) (yg : 0 ≤ n_tr.toInt ∧ n_tr.toInt ≤ 60 ∧ 0 ≤ n_ho.toInt ∧ n_ho.toInt ≤ 300) (yv : 0 ≤ v1.toInt ∧ v1.toInt < n_ho.toInt) (h_2 : 0 ≤ v1.toInt ∧ v1.toInt < n_ho.toInt) : 0 ≤ v1.toInt ∧ v1.toInt < ((300 : Nat) : Int) := by
  have := rg_rng n_tr; have := rg_rng n_ho; have := rg_rng v1; omega
theorem lg_X2_treeOfHole_1 (n_tr : Int32) (n_ho : Int32) (f_holeTree : Nat → Int32) (v1 : Int32) (x_4 : Int32) (yg : 0 ≤ n_tr.toInt ∧ n_tr.toInt ≤ 60 ∧ 0 ≤ n_ho.toInt ∧ n_ho.toInt ≤ 300) (yv : 0 ≤ v1.toInt ∧ v1.toInt < n_ho.toInt) (h_2 : 0 ≤ v1.toInt ∧ v1.toInt < n_ho.toInt) (t_6 : x_4.toInt = (f_holeTree (Int32.toNatClampNeg v1)).toInt) : x_4.toInt = (f_holeTree (Int32.toNatClampNeg v1)).toInt := by
  have := rg_rng n_tr; have := rg_rng n_ho; have := rg_rng v1; have := rg_rng x_4; omega
theorem lg_X2_treeOfHole_2 (n_tr : Int32) (n_ho : Int32) (f_holeTree : Nat → Int32) (v1 : Int32) (yg : 0 ≤ n_tr.toInt ∧ n_tr.toInt ≤ 60 ∧ 0 ≤ n_ho.toInt ∧ n_ho.toInt ≤ 300) (yv : 0 ≤ v1.toInt ∧ v1.toInt < n_ho.toInt) (h_2 : ¬ (0 ≤ v1.toInt ∧ v1.toInt < n_ho.toInt)) : (-1 : Int) = (f_holeTree (Int32.toNatClampNeg v1)).toInt := by
  have := rg_rng n_tr; have := rg_rng n_ho; have := rg_rng v1; omega
set_option maxHeartbeats 4000000 in
set_option maxRecDepth 100000 in
theorem kX2_treeOfHole (l : Launch) (dC : Nat → ClassId) (dI : Nat → Nat → Nat) (sz : Nat) (h0 : Nat) (g_node : Nat) (g_girth : Nat) (g_gave : Nat) (g_holeTree : Nat) (g_holeAngle : Nat) (g_holeYear : Nat) (n_tr : Int32) (n_ho : Int32) (k_holeTree : ClassId) (f_holeTree : Nat → Int32) (v1 : Int32) (yg : 0 ≤ n_tr.toInt ∧ n_tr.toInt ≤ 60 ∧ 0 ≤ n_ho.toInt ∧ n_ho.toInt ≤ 300) (yv : 0 ≤ v1.toInt ∧ v1.toInt < n_ho.toInt) : Met l yX2_treeOfHole (Cond.code yX2_treeOfHole cX2_treeOfHole 2 (some .int) :: bg) ({ frames := 1, cells := 0, slots := 0, locals := 21 }) (pcW dC dI [.ref h0, .int v1] sz [(h0, .inr (2, [.ref g_node, .ref g_girth, .ref g_gave, .ref g_holeTree, .ref g_holeAngle, .ref g_holeYear, .int n_tr, .int n_ho])), (g_holeTree, .inl (k_holeTree, 300, .inl f_holeTree))] [(k_holeTree, .int)]) (va_Qi (fun (r : Int32) (u : Unit) => r.toInt = (f_holeTree (Int32.toNatClampNeg v1)).toInt) (fun (u : Unit) (t : State) => va_P (dC, dI) vwCl [(h0, .inr (2, [.ref g_node, .ref g_girth, .ref g_gave, .ref g_holeTree, .ref g_holeAngle, .ref g_holeYear, .int n_tr, .int n_ho])), (g_holeTree, .inl (k_holeTree, 300, .inl f_holeTree))] t.heap ∧ va_K (dC, dI) vwCl [(k_holeTree, .int)] t ∧ va_D (va_A [(h0, .inr (2, [.ref g_node, .ref g_girth, .ref g_gave, .ref g_holeTree, .ref g_holeAngle, .ref g_holeYear, .int n_tr, .int n_ho])), (g_holeTree, .inl (k_holeTree, 300, .inl f_holeTree))] sz) [(h0, .inr (2, [.ref g_node, .ref g_girth, .ref g_gave, .ref g_holeTree, .ref g_holeAngle, .ref g_holeYear, .int n_tr, .int n_ho])), (g_holeTree, .inl (k_holeTree, 300, .inl f_holeTree))]) (va_A [(h0, .inr (2, [.ref g_node, .ref g_girth, .ref g_gave, .ref g_holeTree, .ref g_holeAngle, .ref g_holeYear, .int n_tr, .int n_ho])), (g_holeTree, .inl (k_holeTree, 300, .inl f_holeTree))] sz)) 0 0 (va_A [(h0, .inr (2, [.ref g_node, .ref g_girth, .ref g_gave, .ref g_holeTree, .ref g_holeAngle, .ref g_holeYear, .int n_tr, .int n_ho])), (g_holeTree, .inl (k_holeTree, 300, .inl f_holeTree))] sz) := by
  refine Met.ofW (cc := cX2_treeOfHole) (maxL := 2) (ret := (some .int)) pnX2 rfl ?_
  intro p e s m args below meth c s₁ B hml hv
  obtain ⟨rfl, hsz, hP, hK, hD0, hN⟩ := hv
  have hx := B.exec
  have hb := B.bytes
  have hr := B.returns
  have htb : ∀ w ∈ bg, w.before [.ref h0, .int v1].toArray s = true := fun w h => atoms_spec (ws := Cond.code yX2_treeOfHole cX2_treeOfHole 2 (some .int) :: bg) B.pre w (List.mem_cons_of_mem _ h)
  have hown : s.vm.findClass RX2 = some m.cls := findClass_of_methodNamed B.named
  have hlocks := B.notSynchronized
  subst hsz
  have hD := hD0.self (sz := s.heap.size)
  generalize hAe : va_A [(h0, .inr (2, [.ref g_node, .ref g_girth, .ref g_gave, .ref g_holeTree, .ref g_holeAngle, .ref g_holeYear, .int n_tr, .int n_ho])), (g_holeTree, .inl (k_holeTree, 300, .inl f_holeTree))] s.heap.size = A at hD ⊢
  have hA : ∀ q : Nat, s.heap.size ≤ q → A q := fun q h => by rw [← hAe]; exact Or.inr h
  have hS : va_S A s.heap s.heap [] := va_S.rf
  have hl := lv_entry ([.ref h0, .int v1]) (n := 2) (Nat.le_of_ble_eq_true rfl)
  rw [lg_entry_eq]
  generalize (lg_sl ([.ref h0, .int v1]) ++ List.replicate (2 - (lg_sl ([.ref h0, .int v1])).length) Slot.unset).toArray = ls at hl ⊢
  change lv_has ls 2 [(0, .ref h0), (1, .int v1)] at hl
  clear hD0 hAe
  refine go0 (wsP := fun H => va_P (dC, dI) vwCl [(h0, .inr (2, [.ref g_node, .ref g_girth, .ref g_gave, .ref g_holeTree, .ref g_holeAngle, .ref g_holeYear, .int n_tr, .int n_ho])), (g_holeTree, .inl (k_holeTree, 300, .inl f_holeTree))] H) hP hS ?_
  clear hP hS; intro H locs hP hS
  change va_P (dC, dI) vwCl [(h0, .inr (2, [.ref g_node, .ref g_girth, .ref g_gave, .ref g_holeTree, .ref g_holeAngle, .ref g_holeYear, .int n_tr, .int n_ho])), (g_holeTree, .inl (k_holeTree, 300, .inl f_holeTree))] H at hP
  refine lv_aload_n hx hb dX2_treeOfHole_0 rfl (lv_at hl 0 rfl) ?_
  refine lv_iload_n hx hb dX2_treeOfHole_1 rfl (lv_at hl 1 rfl) ?_
  have hPc := hP.sub (ws' := [(h0, .inr (2, [.ref g_node, .ref g_girth, .ref g_gave, .ref g_holeTree, .ref g_holeAngle, .ref g_holeYear, .int n_tr, .int n_ho]))]) [0] rfl
  have hDc := hD.sub (ws' := [(h0, .inr (2, [.ref g_node, .ref g_girth, .ref g_gave, .ref g_holeTree, .ref g_holeAngle, .ref g_holeYear, .int n_tr, .int n_ho]))]) [0] (by decide) rfl
  have hKc := hK.sub (tys' := []) [] rfl
  have hFc := va_free (wc := [(h0, .inr (2, [.ref g_node, .ref g_girth, .ref g_gave, .ref g_holeTree, .ref g_holeAngle, .ref g_holeYear, .int n_tr, .int n_ho]))]) hD hS hA [0] rfl
  refine va_calli (va_runV (C := RX2) (As := [.int v1]) (rest := []) ⟨hx, hb, hml, hown, htb⟩ (kX2_hasHole l dC dI H.size h0 g_node g_girth g_gave g_holeTree g_holeAngle g_holeYear n_tr n_ho v1 ) ⟨callB_of 1 htb (gd_c m_517) rfl rfl rfl (htb _ m_3) (htb _ m_514) hdX2_hasHole ⟨(Nat.le_of_ble_eq_true rfl), (Nat.le_of_ble_eq_true rfl)⟩, htb _ m_516, htb _ ms_4⟩ ⟨pcW_blind, va_recv hKc hPc (ci := 2) (q0 := 0) rfl rfl, pcW_at hPc hKc hDc hN⟩ rfl rfl hl.1 rfl (lv_room (Nat.le_of_ble_eq_true rfl)) dX2_treeOfHole_2 ⟨(Nat.le_of_ble_eq_true rfl), (Nat.le_of_ble_eq_true rfl)⟩) hS (fun q _ h => hFc q h) hFc (fun r_1 u t H1 locs1 ht hvm h_2 hB hz1 hk1 hS1 => ?_)
  obtain ⟨hP1, hK1, hD1⟩ := hB
  rw [ht] at hP1
  obtain ⟨hPn, hDn⟩ := va_join (wr := [(g_holeTree, .inl (k_holeTree, 300, .inl f_holeTree))]) (w1 := [(h0, .inr (2, [.ref g_node, .ref g_girth, .ref g_gave, .ref g_holeTree, .ref g_holeAngle, .ref g_holeYear, .int n_tr, .int n_ho]))]) hP hD [0] [1] rfl rfl (by decide) (by decide) hk1 hFc hP1 hD1
  clear hP1 hD1 hK1
  clear hP hD hS hPc hDc hKc hFc hk1 hz1 ht hvm
  clear t
  revert hS1 hPn hDn; generalize H1 = H; generalize locs1 = locs; intro hS hP hD
  change va_P (dC, dI) vwCl [(g_holeTree, .inl (k_holeTree, 300, .inl f_holeTree)), (h0, .inr (2, [.ref g_node, .ref g_girth, .ref g_gave, .ref g_holeTree, .ref g_holeAngle, .ref g_holeYear, .int n_tr, .int n_ho]))] H at hP
  change va_D A [(g_holeTree, .inl (k_holeTree, 300, .inl f_holeTree)), (h0, .inr (2, [.ref g_node, .ref g_girth, .ref g_gave, .ref g_holeTree, .ref g_holeAngle, .ref g_holeYear, .int n_tr, .int n_ho]))] at hD
  rcases h_2 with ⟨rfl, h_2⟩ | ⟨rfl, h_2⟩
  · refine lv_if_eq (tgt := 17) hx hb dX2_treeOfHole_5 (by decide) (fun c_3 => absurd c_3 (by decide)) ?_
    intro _
    refine lv_aload_n hx hb dX2_treeOfHole_8 rfl (lv_at hl 0 rfl) ?_
    refine va_get (D := (dC, dI)) (ci := 2) (v := .ref g_holeTree) (C := RX2) (T := TX2) (N := 8) hx hb htb iX2 hown hK hP 1 rfl rfl 3 (Nat.le_of_ble_eq_true rfl) (htb _ m_74) (fun _ h9 => h9) rfl dX2_treeOfHole_9 ?_
    refine lv_iload_n hx hb dX2_treeOfHole_12 rfl (lv_at hl 1 rfl) ?_
    refine va_iald hx hb hK hP 0 0 rfl rfl (i_in rfl (lg_X2_treeOfHole_0 n_tr n_ho v1 yg yv h_2)) dX2_treeOfHole_13 ?_
    refine lv_topi (fun x_4 ex_5 => ?_)
    have t_6 : x_4.toInt = (f_holeTree (Int32.toNatClampNeg v1)).toInt := by rw [ex_5]
    refine lv_goto (tgt := 18) hx hb dX2_treeOfHole_14 (by decide) ?_
    refine W.widen (k := 0) (n := 0) (Nat.le_of_ble_eq_true rfl) (Nat.le_of_ble_eq_true rfl) ?_
    have hP9 := hP.sub (ws' := [(h0, .inr (2, [.ref g_node, .ref g_girth, .ref g_gave, .ref g_holeTree, .ref g_holeAngle, .ref g_holeYear, .int n_tr, .int n_ho])), (g_holeTree, .inl (k_holeTree, 300, .inl f_holeTree))]) [1, 0] rfl
    have hD9 := hD.sub (ws' := [(h0, .inr (2, [.ref g_node, .ref g_girth, .ref g_gave, .ref g_holeTree, .ref g_holeAngle, .ref g_holeYear, .int n_tr, .int n_ho])), (g_holeTree, .inl (k_holeTree, 300, .inl f_holeTree))]) [1, 0] (by decide) rfl
    have hK9 := hK.sub (tys' := [(k_holeTree, .int)]) [0] rfl
    exact W.iret (v := x_4) hx hb hr (fun t ht hW => ⟨⟨x_4, (), rfl, (lg_X2_treeOfHole_1 n_tr n_ho f_holeTree v1 x_4 yg yv h_2 t_6), ⟨by rw [ht]; exact hP9, va_K.moved hW.alike hK9, hD9⟩⟩, hS.F ht⟩) hS.2.2 dX2_treeOfHole_18
  · refine lv_if_eq (tgt := 17) hx hb dX2_treeOfHole_5 (by decide) ?_ (fun c_7 => absurd (by decide) c_7)
    intro _
    refine lv_iconst (v := (-1)) hx hb dX2_treeOfHole_17 (by decide) ?_
    refine W.widen (k := 0) (n := 0) (Nat.le_of_ble_eq_true rfl) (Nat.le_of_ble_eq_true rfl) ?_
    have hP9 := hP.sub (ws' := [(h0, .inr (2, [.ref g_node, .ref g_girth, .ref g_gave, .ref g_holeTree, .ref g_holeAngle, .ref g_holeYear, .int n_tr, .int n_ho])), (g_holeTree, .inl (k_holeTree, 300, .inl f_holeTree))]) [1, 0] rfl
    have hD9 := hD.sub (ws' := [(h0, .inr (2, [.ref g_node, .ref g_girth, .ref g_gave, .ref g_holeTree, .ref g_holeAngle, .ref g_holeYear, .int n_tr, .int n_ho])), (g_holeTree, .inl (k_holeTree, 300, .inl f_holeTree))]) [1, 0] (by decide) rfl
    have hK9 := hK.sub (tys' := [(k_holeTree, .int)]) [0] rfl
    exact W.iret (v := (-1)) hx hb hr (fun t ht hW => ⟨⟨(-1), (), rfl, (lg_X2_treeOfHole_2 n_tr n_ho f_holeTree v1 yg yv h_2), ⟨by rw [ht]; exact hP9, va_K.moved hW.alike hK9, hD9⟩⟩, hS.F ht⟩) hS.2.2 dX2_treeOfHole_18

theorem lg_X2_yearOfHole_0 (n_tr : Int32) (n_ho : Int32) (v1 : Int32) (yg : 0 ≤ n_tr.toInt ∧ n_tr.toInt ≤ 60 ∧ 0 ≤ n_ho.toInt ∧ n_ho.toInt ≤ 300) (yv : 0 ≤ v1.toInt ∧ v1.toInt < n_ho.toInt) (h_2 : 0 ≤ v1.toInt ∧ v1.toInt < n_ho.toInt) : 0 ≤ v1.toInt ∧ v1.toInt < ((300 : Nat) : Int) := by
  have := rg_rng n_tr; have := rg_rng n_ho; have := rg_rng v1; omega
theorem lg_X2_yearOfHole_1 (n_tr : Int32) (n_ho : Int32) (f_holeYear : Nat → Int32) (v1 : Int32) (x_4 : Int32) (yg : 0 ≤ n_tr.toInt ∧ n_tr.toInt ≤ 60 ∧ 0 ≤ n_ho.toInt ∧ n_ho.toInt ≤ 300) (yv : 0 ≤ v1.toInt ∧ v1.toInt < n_ho.toInt) (h_2 : 0 ≤ v1.toInt ∧ v1.toInt < n_ho.toInt) (t_6 : x_4.toInt = (f_holeYear (Int32.toNatClampNeg v1)).toInt) : x_4.toInt = (f_holeYear (Int32.toNatClampNeg v1)).toInt := by
  have := rg_rng n_tr; have := rg_rng n_ho; have := rg_rng v1; have := rg_rng x_4; omega
theorem lg_X2_yearOfHole_2 (n_tr : Int32) (n_ho : Int32) (f_holeYear : Nat → Int32) (v1 : Int32) (yg : 0 ≤ n_tr.toInt ∧ n_tr.toInt ≤ 60 ∧ 0 ≤ n_ho.toInt ∧ n_ho.toInt ≤ 300) (yv : 0 ≤ v1.toInt ∧ v1.toInt < n_ho.toInt) (h_2 : ¬ (0 ≤ v1.toInt ∧ v1.toInt < n_ho.toInt)) : (-1 : Int) = (f_holeYear (Int32.toNatClampNeg v1)).toInt := by
  have := rg_rng n_tr; have := rg_rng n_ho; have := rg_rng v1; omega
set_option maxHeartbeats 4000000 in
set_option maxRecDepth 100000 in
theorem kX2_yearOfHole (l : Launch) (dC : Nat → ClassId) (dI : Nat → Nat → Nat) (sz : Nat) (h0 : Nat) (g_node : Nat) (g_girth : Nat) (g_gave : Nat) (g_holeTree : Nat) (g_holeAngle : Nat) (g_holeYear : Nat) (n_tr : Int32) (n_ho : Int32) (k_holeYear : ClassId) (f_holeYear : Nat → Int32) (v1 : Int32) (yg : 0 ≤ n_tr.toInt ∧ n_tr.toInt ≤ 60 ∧ 0 ≤ n_ho.toInt ∧ n_ho.toInt ≤ 300) (yv : 0 ≤ v1.toInt ∧ v1.toInt < n_ho.toInt) : Met l yX2_yearOfHole (Cond.code yX2_yearOfHole cX2_yearOfHole 2 (some .int) :: bg) ({ frames := 1, cells := 0, slots := 0, locals := 21 }) (pcW dC dI [.ref h0, .int v1] sz [(h0, .inr (2, [.ref g_node, .ref g_girth, .ref g_gave, .ref g_holeTree, .ref g_holeAngle, .ref g_holeYear, .int n_tr, .int n_ho])), (g_holeYear, .inl (k_holeYear, 300, .inl f_holeYear))] [(k_holeYear, .int)]) (va_Qi (fun (r : Int32) (u : Unit) => r.toInt = (f_holeYear (Int32.toNatClampNeg v1)).toInt) (fun (u : Unit) (t : State) => va_P (dC, dI) vwCl [(h0, .inr (2, [.ref g_node, .ref g_girth, .ref g_gave, .ref g_holeTree, .ref g_holeAngle, .ref g_holeYear, .int n_tr, .int n_ho])), (g_holeYear, .inl (k_holeYear, 300, .inl f_holeYear))] t.heap ∧ va_K (dC, dI) vwCl [(k_holeYear, .int)] t ∧ va_D (va_A [(h0, .inr (2, [.ref g_node, .ref g_girth, .ref g_gave, .ref g_holeTree, .ref g_holeAngle, .ref g_holeYear, .int n_tr, .int n_ho])), (g_holeYear, .inl (k_holeYear, 300, .inl f_holeYear))] sz) [(h0, .inr (2, [.ref g_node, .ref g_girth, .ref g_gave, .ref g_holeTree, .ref g_holeAngle, .ref g_holeYear, .int n_tr, .int n_ho])), (g_holeYear, .inl (k_holeYear, 300, .inl f_holeYear))]) (va_A [(h0, .inr (2, [.ref g_node, .ref g_girth, .ref g_gave, .ref g_holeTree, .ref g_holeAngle, .ref g_holeYear, .int n_tr, .int n_ho])), (g_holeYear, .inl (k_holeYear, 300, .inl f_holeYear))] sz)) 0 0 (va_A [(h0, .inr (2, [.ref g_node, .ref g_girth, .ref g_gave, .ref g_holeTree, .ref g_holeAngle, .ref g_holeYear, .int n_tr, .int n_ho])), (g_holeYear, .inl (k_holeYear, 300, .inl f_holeYear))] sz) := by
  refine Met.ofW (cc := cX2_yearOfHole) (maxL := 2) (ret := (some .int)) pnX2 rfl ?_
  intro p e s m args below meth c s₁ B hml hv
  obtain ⟨rfl, hsz, hP, hK, hD0, hN⟩ := hv
  have hx := B.exec
  have hb := B.bytes
  have hr := B.returns
  have htb : ∀ w ∈ bg, w.before [.ref h0, .int v1].toArray s = true := fun w h => atoms_spec (ws := Cond.code yX2_yearOfHole cX2_yearOfHole 2 (some .int) :: bg) B.pre w (List.mem_cons_of_mem _ h)
  have hown : s.vm.findClass RX2 = some m.cls := findClass_of_methodNamed B.named
  have hlocks := B.notSynchronized
  subst hsz
  have hD := hD0.self (sz := s.heap.size)
  generalize hAe : va_A [(h0, .inr (2, [.ref g_node, .ref g_girth, .ref g_gave, .ref g_holeTree, .ref g_holeAngle, .ref g_holeYear, .int n_tr, .int n_ho])), (g_holeYear, .inl (k_holeYear, 300, .inl f_holeYear))] s.heap.size = A at hD ⊢
  have hA : ∀ q : Nat, s.heap.size ≤ q → A q := fun q h => by rw [← hAe]; exact Or.inr h
  have hS : va_S A s.heap s.heap [] := va_S.rf
  have hl := lv_entry ([.ref h0, .int v1]) (n := 2) (Nat.le_of_ble_eq_true rfl)
  rw [lg_entry_eq]
  generalize (lg_sl ([.ref h0, .int v1]) ++ List.replicate (2 - (lg_sl ([.ref h0, .int v1])).length) Slot.unset).toArray = ls at hl ⊢
  change lv_has ls 2 [(0, .ref h0), (1, .int v1)] at hl
  clear hD0 hAe
  refine go0 (wsP := fun H => va_P (dC, dI) vwCl [(h0, .inr (2, [.ref g_node, .ref g_girth, .ref g_gave, .ref g_holeTree, .ref g_holeAngle, .ref g_holeYear, .int n_tr, .int n_ho])), (g_holeYear, .inl (k_holeYear, 300, .inl f_holeYear))] H) hP hS ?_
  clear hP hS; intro H locs hP hS
  change va_P (dC, dI) vwCl [(h0, .inr (2, [.ref g_node, .ref g_girth, .ref g_gave, .ref g_holeTree, .ref g_holeAngle, .ref g_holeYear, .int n_tr, .int n_ho])), (g_holeYear, .inl (k_holeYear, 300, .inl f_holeYear))] H at hP
  refine lv_aload_n hx hb dX2_yearOfHole_0 rfl (lv_at hl 0 rfl) ?_
  refine lv_iload_n hx hb dX2_yearOfHole_1 rfl (lv_at hl 1 rfl) ?_
  have hPc := hP.sub (ws' := [(h0, .inr (2, [.ref g_node, .ref g_girth, .ref g_gave, .ref g_holeTree, .ref g_holeAngle, .ref g_holeYear, .int n_tr, .int n_ho]))]) [0] rfl
  have hDc := hD.sub (ws' := [(h0, .inr (2, [.ref g_node, .ref g_girth, .ref g_gave, .ref g_holeTree, .ref g_holeAngle, .ref g_holeYear, .int n_tr, .int n_ho]))]) [0] (by decide) rfl
  have hKc := hK.sub (tys' := []) [] rfl
  have hFc := va_free (wc := [(h0, .inr (2, [.ref g_node, .ref g_girth, .ref g_gave, .ref g_holeTree, .ref g_holeAngle, .ref g_holeYear, .int n_tr, .int n_ho]))]) hD hS hA [0] rfl
  refine va_calli (va_runV (C := RX2) (As := [.int v1]) (rest := []) ⟨hx, hb, hml, hown, htb⟩ (kX2_hasHole l dC dI H.size h0 g_node g_girth g_gave g_holeTree g_holeAngle g_holeYear n_tr n_ho v1 ) ⟨callB_of 1 htb (gd_c m_517) rfl rfl rfl (htb _ m_3) (htb _ m_514) hdX2_hasHole ⟨(Nat.le_of_ble_eq_true rfl), (Nat.le_of_ble_eq_true rfl)⟩, htb _ m_516, htb _ ms_4⟩ ⟨pcW_blind, va_recv hKc hPc (ci := 2) (q0 := 0) rfl rfl, pcW_at hPc hKc hDc hN⟩ rfl rfl hl.1 rfl (lv_room (Nat.le_of_ble_eq_true rfl)) dX2_yearOfHole_2 ⟨(Nat.le_of_ble_eq_true rfl), (Nat.le_of_ble_eq_true rfl)⟩) hS (fun q _ h => hFc q h) hFc (fun r_1 u t H1 locs1 ht hvm h_2 hB hz1 hk1 hS1 => ?_)
  obtain ⟨hP1, hK1, hD1⟩ := hB
  rw [ht] at hP1
  obtain ⟨hPn, hDn⟩ := va_join (wr := [(g_holeYear, .inl (k_holeYear, 300, .inl f_holeYear))]) (w1 := [(h0, .inr (2, [.ref g_node, .ref g_girth, .ref g_gave, .ref g_holeTree, .ref g_holeAngle, .ref g_holeYear, .int n_tr, .int n_ho]))]) hP hD [0] [1] rfl rfl (by decide) (by decide) hk1 hFc hP1 hD1
  clear hP1 hD1 hK1
  clear hP hD hS hPc hDc hKc hFc hk1 hz1 ht hvm
  clear t
  revert hS1 hPn hDn; generalize H1 = H; generalize locs1 = locs; intro hS hP hD
  change va_P (dC, dI) vwCl [(g_holeYear, .inl (k_holeYear, 300, .inl f_holeYear)), (h0, .inr (2, [.ref g_node, .ref g_girth, .ref g_gave, .ref g_holeTree, .ref g_holeAngle, .ref g_holeYear, .int n_tr, .int n_ho]))] H at hP
  change va_D A [(g_holeYear, .inl (k_holeYear, 300, .inl f_holeYear)), (h0, .inr (2, [.ref g_node, .ref g_girth, .ref g_gave, .ref g_holeTree, .ref g_holeAngle, .ref g_holeYear, .int n_tr, .int n_ho]))] at hD
  rcases h_2 with ⟨rfl, h_2⟩ | ⟨rfl, h_2⟩
  · refine lv_if_eq (tgt := 17) hx hb dX2_yearOfHole_5 (by decide) (fun c_3 => absurd c_3 (by decide)) ?_
    intro _
    refine lv_aload_n hx hb dX2_yearOfHole_8 rfl (lv_at hl 0 rfl) ?_
    refine va_get (D := (dC, dI)) (ci := 2) (v := .ref g_holeYear) (C := RX2) (T := TX2) (N := 8) hx hb htb iX2 hown hK hP 1 rfl rfl 5 (Nat.le_of_ble_eq_true rfl) (htb _ m_76) (fun _ h9 => h9) rfl dX2_yearOfHole_9 ?_
    refine lv_iload_n hx hb dX2_yearOfHole_12 rfl (lv_at hl 1 rfl) ?_
    refine va_iald hx hb hK hP 0 0 rfl rfl (i_in rfl (lg_X2_yearOfHole_0 n_tr n_ho v1 yg yv h_2)) dX2_yearOfHole_13 ?_
    refine lv_topi (fun x_4 ex_5 => ?_)
    have t_6 : x_4.toInt = (f_holeYear (Int32.toNatClampNeg v1)).toInt := by rw [ex_5]
    refine lv_goto (tgt := 18) hx hb dX2_yearOfHole_14 (by decide) ?_
    refine W.widen (k := 0) (n := 0) (Nat.le_of_ble_eq_true rfl) (Nat.le_of_ble_eq_true rfl) ?_
    have hP9 := hP.sub (ws' := [(h0, .inr (2, [.ref g_node, .ref g_girth, .ref g_gave, .ref g_holeTree, .ref g_holeAngle, .ref g_holeYear, .int n_tr, .int n_ho])), (g_holeYear, .inl (k_holeYear, 300, .inl f_holeYear))]) [1, 0] rfl
    have hD9 := hD.sub (ws' := [(h0, .inr (2, [.ref g_node, .ref g_girth, .ref g_gave, .ref g_holeTree, .ref g_holeAngle, .ref g_holeYear, .int n_tr, .int n_ho])), (g_holeYear, .inl (k_holeYear, 300, .inl f_holeYear))]) [1, 0] (by decide) rfl
    have hK9 := hK.sub (tys' := [(k_holeYear, .int)]) [0] rfl
    exact W.iret (v := x_4) hx hb hr (fun t ht hW => ⟨⟨x_4, (), rfl, (lg_X2_yearOfHole_1 n_tr n_ho f_holeYear v1 x_4 yg yv h_2 t_6), ⟨by rw [ht]; exact hP9, va_K.moved hW.alike hK9, hD9⟩⟩, hS.F ht⟩) hS.2.2 dX2_yearOfHole_18
  · refine lv_if_eq (tgt := 17) hx hb dX2_yearOfHole_5 (by decide) ?_ (fun c_7 => absurd (by decide) c_7)
    intro _
    refine lv_iconst (v := (-1)) hx hb dX2_yearOfHole_17 (by decide) ?_
    refine W.widen (k := 0) (n := 0) (Nat.le_of_ble_eq_true rfl) (Nat.le_of_ble_eq_true rfl) ?_
    have hP9 := hP.sub (ws' := [(h0, .inr (2, [.ref g_node, .ref g_girth, .ref g_gave, .ref g_holeTree, .ref g_holeAngle, .ref g_holeYear, .int n_tr, .int n_ho])), (g_holeYear, .inl (k_holeYear, 300, .inl f_holeYear))]) [1, 0] rfl
    have hD9 := hD.sub (ws' := [(h0, .inr (2, [.ref g_node, .ref g_girth, .ref g_gave, .ref g_holeTree, .ref g_holeAngle, .ref g_holeYear, .int n_tr, .int n_ho])), (g_holeYear, .inl (k_holeYear, 300, .inl f_holeYear))]) [1, 0] (by decide) rfl
    have hK9 := hK.sub (tys' := [(k_holeYear, .int)]) [0] rfl
    exact W.iret (v := (-1)) hx hb hr (fun t ht hW => ⟨⟨(-1), (), rfl, (lg_X2_yearOfHole_2 n_tr n_ho f_holeYear v1 yg yv h_2), ⟨by rw [ht]; exact hP9, va_K.moved hW.alike hK9, hD9⟩⟩, hS.F ht⟩) hS.2.2 dX2_yearOfHole_18

theorem lg_X2_treesAt_0 (n_tr : Int32) (n_ho : Int32) (yg : 0 ≤ n_tr.toInt ∧ n_tr.toInt ≤ 60 ∧ 0 ≤ n_ho.toInt ∧ n_ho.toInt ≤ 300) : (n_tr.toInt - (0 : Int)) < ((Int.toNat (n_tr.toInt - (0 : Int)) + 1 : Nat) : Int) := by
  have := rg_rng n_tr; have := rg_rng n_ho; omega
theorem lg_X2_treesAt_1 (n_tr : Int32) (n_ho : Int32) (yg : 0 ≤ n_tr.toInt ∧ n_tr.toInt ≤ 60 ∧ 0 ≤ n_ho.toInt ∧ n_ho.toInt ≤ 300) : 0 ≤ (0 : Int) ∧ (0 : Int) ≤ n_tr.toInt := by
  have := rg_rng n_tr; have := rg_rng n_ho; omega
theorem lg_X2_treesAt_2 (n_tr : Int32) (n_ho : Int32) (yg : 0 ≤ n_tr.toInt ∧ n_tr.toInt ≤ 60 ∧ 0 ≤ n_ho.toInt ∧ n_ho.toInt ≤ 300) : 0 ≤ (0 : Int) ∧ (0 : Int) ≤ (0 : Int) := by
  have := rg_rng n_tr; have := rg_rng n_ho; omega
theorem lg_X2_treesAt_3 (n_tr : Int32) (n_ho : Int32) (i_1 : Int32) (j_1 : Int32) (yg : 0 ≤ n_tr.toInt ∧ n_tr.toInt ≤ 60 ∧ 0 ≤ n_ho.toInt ∧ n_ho.toInt ≤ 300) (hi1_0 : 0 ≤ i_1.toInt ∧ i_1.toInt ≤ n_tr.toInt) (hi1_1 : 0 ≤ j_1.toInt ∧ j_1.toInt ≤ i_1.toInt) (hmu1 : (n_tr.toInt - i_1.toInt) < ((0 : Nat) : Int)) : False := by
  have := rg_rng n_tr; have := rg_rng n_ho; have := rg_rng i_1; have := rg_rng j_1; omega
theorem lg_X2_treesAt_4 (n_tr : Int32) (n_ho : Int32) (i_1 : Int32) (j_1 : Int32) (n1 : Nat) (yg : 0 ≤ n_tr.toInt ∧ n_tr.toInt ≤ 60 ∧ 0 ≤ n_ho.toInt ∧ n_ho.toInt ≤ 300) (hi1_0 : 0 ≤ i_1.toInt ∧ i_1.toInt ≤ n_tr.toInt) (hi1_1 : 0 ≤ j_1.toInt ∧ j_1.toInt ≤ i_1.toInt) (hmu1 : (n_tr.toInt - i_1.toInt) < ((n1 + 1 : Nat) : Int)) (t_3 : n_tr.toInt ≤ i_1.toInt) : i_1.toInt = n_tr.toInt := by
  have := rg_rng n_tr; have := rg_rng n_ho; have := rg_rng i_1; have := rg_rng j_1; omega
theorem lg_X2_treesAt_5 (n_tr : Int32) (n_ho : Int32) (i_1 : Int32) (j_1 : Int32) (n1 : Nat) (yg : 0 ≤ n_tr.toInt ∧ n_tr.toInt ≤ 60 ∧ 0 ≤ n_ho.toInt ∧ n_ho.toInt ≤ 300) (hi1_0 : 0 ≤ i_1.toInt ∧ i_1.toInt ≤ n_tr.toInt) (hi1_1 : 0 ≤ j_1.toInt ∧ j_1.toInt ≤ i_1.toInt) (hmu1 : (n_tr.toInt - i_1.toInt) < ((n1 + 1 : Nat) : Int)) (t_3 : n_tr.toInt ≤ i_1.toInt) : 0 ≤ j_1.toInt ∧ j_1.toInt ≤ n_tr.toInt := by
  have := rg_rng n_tr; have := rg_rng n_ho; have := rg_rng i_1; have := rg_rng j_1; omega
theorem lg_X2_treesAt_6 (n_tr : Int32) (n_ho : Int32) (i_1 : Int32) (j_1 : Int32) (n1 : Nat) (yg : 0 ≤ n_tr.toInt ∧ n_tr.toInt ≤ 60 ∧ 0 ≤ n_ho.toInt ∧ n_ho.toInt ≤ 300) (hi1_0 : 0 ≤ i_1.toInt ∧ i_1.toInt ≤ n_tr.toInt) (hi1_1 : 0 ≤ j_1.toInt ∧ j_1.toInt ≤ i_1.toInt) (hmu1 : (n_tr.toInt - i_1.toInt) < ((n1 + 1 : Nat) : Int)) (t_3 : i_1.toInt < n_tr.toInt) : 0 ≤ i_1.toInt ∧ i_1.toInt < ((60 : Nat) : Int) := by
  have := rg_rng n_tr; have := rg_rng n_ho; have := rg_rng i_1; have := rg_rng j_1; omega
theorem lg_X2_treesAt_7 (n_tr : Int32) (n_ho : Int32) (v1 : Int32) (i_1 : Int32) (j_1 : Int32) (n1 : Nat) (x_4 : Int32) (yg : 0 ≤ n_tr.toInt ∧ n_tr.toInt ≤ 60 ∧ 0 ≤ n_ho.toInt ∧ n_ho.toInt ≤ 300) (hi1_0 : 0 ≤ i_1.toInt ∧ i_1.toInt ≤ n_tr.toInt) (hi1_1 : 0 ≤ j_1.toInt ∧ j_1.toInt ≤ i_1.toInt) (hmu1 : (n_tr.toInt - i_1.toInt) < ((n1 + 1 : Nat) : Int)) (t_3 : i_1.toInt < n_tr.toInt) (t_7 : ¬ x_4.toInt = v1.toInt) : -2147483648 ≤ i_1.toInt + 1 ∧ i_1.toInt + 1 < 2147483648 := by
  have := rg_rng n_tr; have := rg_rng n_ho; have := rg_rng v1; have := rg_rng i_1; have := rg_rng j_1; have := rg_rng x_4; omega
theorem lg_X2_treesAt_8 (n_tr : Int32) (n_ho : Int32) (v1 : Int32) (i_1 : Int32) (j_1 : Int32) (n1 : Nat) (x_4 : Int32) (x_8 : Int32) (yg : 0 ≤ n_tr.toInt ∧ n_tr.toInt ≤ 60 ∧ 0 ≤ n_ho.toInt ∧ n_ho.toInt ≤ 300) (hi1_0 : 0 ≤ i_1.toInt ∧ i_1.toInt ≤ n_tr.toInt) (hi1_1 : 0 ≤ j_1.toInt ∧ j_1.toInt ≤ i_1.toInt) (hmu1 : (n_tr.toInt - i_1.toInt) < ((n1 + 1 : Nat) : Int)) (t_3 : i_1.toInt < n_tr.toInt) (t_7 : ¬ x_4.toInt = v1.toInt) (t_10 : x_8.toInt = i_1.toInt + 1) : (n_tr.toInt - x_8.toInt) < (n1 : Int) := by
  have := rg_rng n_tr; have := rg_rng n_ho; have := rg_rng v1; have := rg_rng i_1; have := rg_rng j_1; have := rg_rng x_4; have := rg_rng x_8; omega
theorem lg_X2_treesAt_9 (n_tr : Int32) (n_ho : Int32) (v1 : Int32) (i_1 : Int32) (j_1 : Int32) (n1 : Nat) (x_4 : Int32) (x_8 : Int32) (yg : 0 ≤ n_tr.toInt ∧ n_tr.toInt ≤ 60 ∧ 0 ≤ n_ho.toInt ∧ n_ho.toInt ≤ 300) (hi1_0 : 0 ≤ i_1.toInt ∧ i_1.toInt ≤ n_tr.toInt) (hi1_1 : 0 ≤ j_1.toInt ∧ j_1.toInt ≤ i_1.toInt) (hmu1 : (n_tr.toInt - i_1.toInt) < ((n1 + 1 : Nat) : Int)) (t_3 : i_1.toInt < n_tr.toInt) (t_7 : ¬ x_4.toInt = v1.toInt) (t_10 : x_8.toInt = i_1.toInt + 1) : 0 ≤ x_8.toInt ∧ x_8.toInt ≤ n_tr.toInt := by
  have := rg_rng n_tr; have := rg_rng n_ho; have := rg_rng v1; have := rg_rng i_1; have := rg_rng j_1; have := rg_rng x_4; have := rg_rng x_8; omega
theorem lg_X2_treesAt_10 (n_tr : Int32) (n_ho : Int32) (v1 : Int32) (i_1 : Int32) (j_1 : Int32) (n1 : Nat) (x_4 : Int32) (x_8 : Int32) (yg : 0 ≤ n_tr.toInt ∧ n_tr.toInt ≤ 60 ∧ 0 ≤ n_ho.toInt ∧ n_ho.toInt ≤ 300) (hi1_0 : 0 ≤ i_1.toInt ∧ i_1.toInt ≤ n_tr.toInt) (hi1_1 : 0 ≤ j_1.toInt ∧ j_1.toInt ≤ i_1.toInt) (hmu1 : (n_tr.toInt - i_1.toInt) < ((n1 + 1 : Nat) : Int)) (t_3 : i_1.toInt < n_tr.toInt) (t_7 : ¬ x_4.toInt = v1.toInt) (t_10 : x_8.toInt = i_1.toInt + 1) : 0 ≤ j_1.toInt ∧ j_1.toInt ≤ x_8.toInt := by
  have := rg_rng n_tr; have := rg_rng n_ho; have := rg_rng v1; have := rg_rng i_1; have := rg_rng j_1; have := rg_rng x_4; have := rg_rng x_8; omega
theorem lg_X2_treesAt_11 (n_tr : Int32) (n_ho : Int32) (f_node : Nat → Int32) (v1 : Int32) (i_1 : Int32) (j_1 : Int32) (n1 : Nat) (x_4 : Int32) (x_8 : Int32) (yg : 0 ≤ n_tr.toInt ∧ n_tr.toInt ≤ 60 ∧ 0 ≤ n_ho.toInt ∧ n_ho.toInt ≤ 300) (hi1_0 : 0 ≤ i_1.toInt ∧ i_1.toInt ≤ n_tr.toInt) (hi1_1 : 0 ≤ j_1.toInt ∧ j_1.toInt ≤ i_1.toInt) (hmu1 : (n_tr.toInt - i_1.toInt) < ((n1 + 1 : Nat) : Int)) (t_3 : i_1.toInt < n_tr.toInt) (t_7 : ¬ x_4.toInt = v1.toInt) (t_10 : x_8.toInt = i_1.toInt + 1) (ex_5 : x_4 = f_node (Int32.toNatClampNeg i_1)) : (fun k => decide (f_node k = v1)) (Int32.toNatClampNeg i_1) = false := by
  have := rg_rng n_tr; have := rg_rng n_ho; have := rg_rng v1; have := rg_rng i_1; have := rg_rng j_1; have := rg_rng x_4; have := rg_rng x_8; refine decide_eq_false ?_
  simp only [← ex_5, ← Int32.toInt_inj]
  omega
theorem lg_X2_treesAt_12 (n_tr : Int32) (n_ho : Int32) (v1 : Int32) (i_1 : Int32) (j_1 : Int32) (n1 : Nat) (x_4 : Int32) (x_8 : Int32) (yg : 0 ≤ n_tr.toInt ∧ n_tr.toInt ≤ 60 ∧ 0 ≤ n_ho.toInt ∧ n_ho.toInt ≤ 300) (hi1_0 : 0 ≤ i_1.toInt ∧ i_1.toInt ≤ n_tr.toInt) (hi1_1 : 0 ≤ j_1.toInt ∧ j_1.toInt ≤ i_1.toInt) (hmu1 : (n_tr.toInt - i_1.toInt) < ((n1 + 1 : Nat) : Int)) (t_3 : i_1.toInt < n_tr.toInt) (t_7 : ¬ x_4.toInt = v1.toInt) (t_10 : x_8.toInt = i_1.toInt + 1) : x_8.toInt = i_1.toInt + 1 := by
  have := rg_rng n_tr; have := rg_rng n_ho; have := rg_rng v1; have := rg_rng i_1; have := rg_rng j_1; have := rg_rng x_4; have := rg_rng x_8; omega
theorem lg_X2_treesAt_13 (n_tr : Int32) (n_ho : Int32) (v1 : Int32) (i_1 : Int32) (j_1 : Int32) (n1 : Nat) (x_4 : Int32) (x_8 : Int32) (yg : 0 ≤ n_tr.toInt ∧ n_tr.toInt ≤ 60 ∧ 0 ≤ n_ho.toInt ∧ n_ho.toInt ≤ 300) (hi1_0 : 0 ≤ i_1.toInt ∧ i_1.toInt ≤ n_tr.toInt) (hi1_1 : 0 ≤ j_1.toInt ∧ j_1.toInt ≤ i_1.toInt) (hmu1 : (n_tr.toInt - i_1.toInt) < ((n1 + 1 : Nat) : Int)) (t_3 : i_1.toInt < n_tr.toInt) (t_7 : ¬ x_4.toInt = v1.toInt) (t_10 : x_8.toInt = i_1.toInt + 1) : j_1.toInt = j_1.toInt := by
  have := rg_rng n_tr; have := rg_rng n_ho; have := rg_rng v1; have := rg_rng i_1; have := rg_rng j_1; have := rg_rng x_4; have := rg_rng x_8; omega
theorem lg_X2_treesAt_14 (n_tr : Int32) (n_ho : Int32) (v1 : Int32) (i_1 : Int32) (j_1 : Int32) (n1 : Nat) (x_4 : Int32) (yg : 0 ≤ n_tr.toInt ∧ n_tr.toInt ≤ 60 ∧ 0 ≤ n_ho.toInt ∧ n_ho.toInt ≤ 300) (hi1_0 : 0 ≤ i_1.toInt ∧ i_1.toInt ≤ n_tr.toInt) (hi1_1 : 0 ≤ j_1.toInt ∧ j_1.toInt ≤ i_1.toInt) (hmu1 : (n_tr.toInt - i_1.toInt) < ((n1 + 1 : Nat) : Int)) (t_3 : i_1.toInt < n_tr.toInt) (t_7 : x_4.toInt = v1.toInt) : -2147483648 ≤ j_1.toInt + 1 ∧ j_1.toInt + 1 < 2147483648 := by
  have := rg_rng n_tr; have := rg_rng n_ho; have := rg_rng v1; have := rg_rng i_1; have := rg_rng j_1; have := rg_rng x_4; omega
theorem lg_X2_treesAt_15 (n_tr : Int32) (n_ho : Int32) (v1 : Int32) (i_1 : Int32) (j_1 : Int32) (n1 : Nat) (x_4 : Int32) (x_11 : Int32) (yg : 0 ≤ n_tr.toInt ∧ n_tr.toInt ≤ 60 ∧ 0 ≤ n_ho.toInt ∧ n_ho.toInt ≤ 300) (hi1_0 : 0 ≤ i_1.toInt ∧ i_1.toInt ≤ n_tr.toInt) (hi1_1 : 0 ≤ j_1.toInt ∧ j_1.toInt ≤ i_1.toInt) (hmu1 : (n_tr.toInt - i_1.toInt) < ((n1 + 1 : Nat) : Int)) (t_3 : i_1.toInt < n_tr.toInt) (t_7 : x_4.toInt = v1.toInt) (t_13 : x_11.toInt = j_1.toInt + 1) : -2147483648 ≤ i_1.toInt + 1 ∧ i_1.toInt + 1 < 2147483648 := by
  have := rg_rng n_tr; have := rg_rng n_ho; have := rg_rng v1; have := rg_rng i_1; have := rg_rng j_1; have := rg_rng x_4; have := rg_rng x_11; omega
theorem lg_X2_treesAt_16 (n_tr : Int32) (n_ho : Int32) (v1 : Int32) (i_1 : Int32) (j_1 : Int32) (n1 : Nat) (x_4 : Int32) (x_11 : Int32) (x_14 : Int32) (yg : 0 ≤ n_tr.toInt ∧ n_tr.toInt ≤ 60 ∧ 0 ≤ n_ho.toInt ∧ n_ho.toInt ≤ 300) (hi1_0 : 0 ≤ i_1.toInt ∧ i_1.toInt ≤ n_tr.toInt) (hi1_1 : 0 ≤ j_1.toInt ∧ j_1.toInt ≤ i_1.toInt) (hmu1 : (n_tr.toInt - i_1.toInt) < ((n1 + 1 : Nat) : Int)) (t_3 : i_1.toInt < n_tr.toInt) (t_7 : x_4.toInt = v1.toInt) (t_13 : x_11.toInt = j_1.toInt + 1) (t_16 : x_14.toInt = i_1.toInt + 1) : (n_tr.toInt - x_14.toInt) < (n1 : Int) := by
  have := rg_rng n_tr; have := rg_rng n_ho; have := rg_rng v1; have := rg_rng i_1; have := rg_rng j_1; have := rg_rng x_4; have := rg_rng x_11; have := rg_rng x_14; omega
theorem lg_X2_treesAt_17 (n_tr : Int32) (n_ho : Int32) (v1 : Int32) (i_1 : Int32) (j_1 : Int32) (n1 : Nat) (x_4 : Int32) (x_11 : Int32) (x_14 : Int32) (yg : 0 ≤ n_tr.toInt ∧ n_tr.toInt ≤ 60 ∧ 0 ≤ n_ho.toInt ∧ n_ho.toInt ≤ 300) (hi1_0 : 0 ≤ i_1.toInt ∧ i_1.toInt ≤ n_tr.toInt) (hi1_1 : 0 ≤ j_1.toInt ∧ j_1.toInt ≤ i_1.toInt) (hmu1 : (n_tr.toInt - i_1.toInt) < ((n1 + 1 : Nat) : Int)) (t_3 : i_1.toInt < n_tr.toInt) (t_7 : x_4.toInt = v1.toInt) (t_13 : x_11.toInt = j_1.toInt + 1) (t_16 : x_14.toInt = i_1.toInt + 1) : 0 ≤ x_14.toInt ∧ x_14.toInt ≤ n_tr.toInt := by
  have := rg_rng n_tr; have := rg_rng n_ho; have := rg_rng v1; have := rg_rng i_1; have := rg_rng j_1; have := rg_rng x_4; have := rg_rng x_11; have := rg_rng x_14; omega
theorem lg_X2_treesAt_18 (n_tr : Int32) (n_ho : Int32) (v1 : Int32) (i_1 : Int32) (j_1 : Int32) (n1 : Nat) (x_4 : Int32) (x_11 : Int32) (x_14 : Int32) (yg : 0 ≤ n_tr.toInt ∧ n_tr.toInt ≤ 60 ∧ 0 ≤ n_ho.toInt ∧ n_ho.toInt ≤ 300) (hi1_0 : 0 ≤ i_1.toInt ∧ i_1.toInt ≤ n_tr.toInt) (hi1_1 : 0 ≤ j_1.toInt ∧ j_1.toInt ≤ i_1.toInt) (hmu1 : (n_tr.toInt - i_1.toInt) < ((n1 + 1 : Nat) : Int)) (t_3 : i_1.toInt < n_tr.toInt) (t_7 : x_4.toInt = v1.toInt) (t_13 : x_11.toInt = j_1.toInt + 1) (t_16 : x_14.toInt = i_1.toInt + 1) : 0 ≤ x_11.toInt ∧ x_11.toInt ≤ x_14.toInt := by
  have := rg_rng n_tr; have := rg_rng n_ho; have := rg_rng v1; have := rg_rng i_1; have := rg_rng j_1; have := rg_rng x_4; have := rg_rng x_11; have := rg_rng x_14; omega
theorem lg_X2_treesAt_19 (n_tr : Int32) (n_ho : Int32) (f_node : Nat → Int32) (v1 : Int32) (i_1 : Int32) (j_1 : Int32) (n1 : Nat) (x_4 : Int32) (x_11 : Int32) (x_14 : Int32) (yg : 0 ≤ n_tr.toInt ∧ n_tr.toInt ≤ 60 ∧ 0 ≤ n_ho.toInt ∧ n_ho.toInt ≤ 300) (hi1_0 : 0 ≤ i_1.toInt ∧ i_1.toInt ≤ n_tr.toInt) (hi1_1 : 0 ≤ j_1.toInt ∧ j_1.toInt ≤ i_1.toInt) (hmu1 : (n_tr.toInt - i_1.toInt) < ((n1 + 1 : Nat) : Int)) (t_3 : i_1.toInt < n_tr.toInt) (t_7 : x_4.toInt = v1.toInt) (t_13 : x_11.toInt = j_1.toInt + 1) (t_16 : x_14.toInt = i_1.toInt + 1) (ex_5 : x_4 = f_node (Int32.toNatClampNeg i_1)) : (fun k => decide (f_node k = v1)) (Int32.toNatClampNeg i_1) = true := by
  have := rg_rng n_tr; have := rg_rng n_ho; have := rg_rng v1; have := rg_rng i_1; have := rg_rng j_1; have := rg_rng x_4; have := rg_rng x_11; have := rg_rng x_14; refine decide_eq_true ?_
  simp only [← ex_5, ← Int32.toInt_inj]
  omega
theorem lg_X2_treesAt_20 (n_tr : Int32) (n_ho : Int32) (v1 : Int32) (i_1 : Int32) (j_1 : Int32) (n1 : Nat) (x_4 : Int32) (x_11 : Int32) (x_14 : Int32) (yg : 0 ≤ n_tr.toInt ∧ n_tr.toInt ≤ 60 ∧ 0 ≤ n_ho.toInt ∧ n_ho.toInt ≤ 300) (hi1_0 : 0 ≤ i_1.toInt ∧ i_1.toInt ≤ n_tr.toInt) (hi1_1 : 0 ≤ j_1.toInt ∧ j_1.toInt ≤ i_1.toInt) (hmu1 : (n_tr.toInt - i_1.toInt) < ((n1 + 1 : Nat) : Int)) (t_3 : i_1.toInt < n_tr.toInt) (t_7 : x_4.toInt = v1.toInt) (t_13 : x_11.toInt = j_1.toInt + 1) (t_16 : x_14.toInt = i_1.toInt + 1) : x_14.toInt = i_1.toInt + 1 := by
  have := rg_rng n_tr; have := rg_rng n_ho; have := rg_rng v1; have := rg_rng i_1; have := rg_rng j_1; have := rg_rng x_4; have := rg_rng x_11; have := rg_rng x_14; omega
theorem lg_X2_treesAt_21 (n_tr : Int32) (n_ho : Int32) (v1 : Int32) (i_1 : Int32) (j_1 : Int32) (n1 : Nat) (x_4 : Int32) (x_11 : Int32) (x_14 : Int32) (yg : 0 ≤ n_tr.toInt ∧ n_tr.toInt ≤ 60 ∧ 0 ≤ n_ho.toInt ∧ n_ho.toInt ≤ 300) (hi1_0 : 0 ≤ i_1.toInt ∧ i_1.toInt ≤ n_tr.toInt) (hi1_1 : 0 ≤ j_1.toInt ∧ j_1.toInt ≤ i_1.toInt) (hmu1 : (n_tr.toInt - i_1.toInt) < ((n1 + 1 : Nat) : Int)) (t_3 : i_1.toInt < n_tr.toInt) (t_7 : x_4.toInt = v1.toInt) (t_13 : x_11.toInt = j_1.toInt + 1) (t_16 : x_14.toInt = i_1.toInt + 1) : x_11.toInt = j_1.toInt + 1 := by
  have := rg_rng n_tr; have := rg_rng n_ho; have := rg_rng v1; have := rg_rng i_1; have := rg_rng j_1; have := rg_rng x_4; have := rg_rng x_11; have := rg_rng x_14; omega
set_option maxHeartbeats 4000000 in
set_option maxRecDepth 100000 in
theorem kX2_treesAt (l : Launch) (dC : Nat → ClassId) (dI : Nat → Nat → Nat) (sz : Nat) (h0 : Nat) (g_node : Nat) (g_girth : Nat) (g_gave : Nat) (g_holeTree : Nat) (g_holeAngle : Nat) (g_holeYear : Nat) (n_tr : Int32) (n_ho : Int32) (k_node : ClassId) (f_node : Nat → Int32) (v1 : Int32) (yg : 0 ≤ n_tr.toInt ∧ n_tr.toInt ≤ 60 ∧ 0 ≤ n_ho.toInt ∧ n_ho.toInt ≤ 300) : Met l yX2_treesAt (Cond.code yX2_treesAt cX2_treesAt 4 (some .int) :: bg) ({ frames := 0, cells := 0, slots := 0, locals := 0 }) (pcW dC dI [.ref h0, .int v1] sz [(h0, .inr (2, [.ref g_node, .ref g_girth, .ref g_gave, .ref g_holeTree, .ref g_holeAngle, .ref g_holeYear, .int n_tr, .int n_ho])), (g_node, .inl (k_node, 60, .inl f_node))] [(k_node, .int)]) (va_Qi (fun (r : Int32) (u : Unit) => r.toInt = cntB (fun k => decide (f_node k = v1)) (Int32.toNatClampNeg n_tr) ∧ 0 ≤ r.toInt ∧ r.toInt ≤ n_tr.toInt) (fun (u : Unit) (t : State) => va_P (dC, dI) vwCl [(h0, .inr (2, [.ref g_node, .ref g_girth, .ref g_gave, .ref g_holeTree, .ref g_holeAngle, .ref g_holeYear, .int n_tr, .int n_ho])), (g_node, .inl (k_node, 60, .inl f_node))] t.heap ∧ va_K (dC, dI) vwCl [(k_node, .int)] t ∧ va_D (va_A [(h0, .inr (2, [.ref g_node, .ref g_girth, .ref g_gave, .ref g_holeTree, .ref g_holeAngle, .ref g_holeYear, .int n_tr, .int n_ho])), (g_node, .inl (k_node, 60, .inl f_node))] sz) [(h0, .inr (2, [.ref g_node, .ref g_girth, .ref g_gave, .ref g_holeTree, .ref g_holeAngle, .ref g_holeYear, .int n_tr, .int n_ho])), (g_node, .inl (k_node, 60, .inl f_node))]) (va_A [(h0, .inr (2, [.ref g_node, .ref g_girth, .ref g_gave, .ref g_holeTree, .ref g_holeAngle, .ref g_holeYear, .int n_tr, .int n_ho])), (g_node, .inl (k_node, 60, .inl f_node))] sz)) 0 0 (va_A [(h0, .inr (2, [.ref g_node, .ref g_girth, .ref g_gave, .ref g_holeTree, .ref g_holeAngle, .ref g_holeYear, .int n_tr, .int n_ho])), (g_node, .inl (k_node, 60, .inl f_node))] sz) := by
  refine Met.ofW (cc := cX2_treesAt) (maxL := 4) (ret := (some .int)) pnX2 rfl ?_
  intro p e s m args below meth c s₁ B hml hv
  obtain ⟨rfl, hsz, hP, hK, hD0, hN⟩ := hv
  have hx := B.exec
  have hb := B.bytes
  have hr := B.returns
  have htb : ∀ w ∈ bg, w.before [.ref h0, .int v1].toArray s = true := fun w h => atoms_spec (ws := Cond.code yX2_treesAt cX2_treesAt 4 (some .int) :: bg) B.pre w (List.mem_cons_of_mem _ h)
  have hown : s.vm.findClass RX2 = some m.cls := findClass_of_methodNamed B.named
  have hlocks := B.notSynchronized
  subst hsz
  have hD := hD0.self (sz := s.heap.size)
  generalize hAe : va_A [(h0, .inr (2, [.ref g_node, .ref g_girth, .ref g_gave, .ref g_holeTree, .ref g_holeAngle, .ref g_holeYear, .int n_tr, .int n_ho])), (g_node, .inl (k_node, 60, .inl f_node))] s.heap.size = A at hD ⊢
  have hA : ∀ q : Nat, s.heap.size ≤ q → A q := fun q h => by rw [← hAe]; exact Or.inr h
  have hS : va_S A s.heap s.heap [] := va_S.rf
  have hl := lv_entry ([.ref h0, .int v1]) (n := 4) (Nat.le_of_ble_eq_true rfl)
  rw [lg_entry_eq]
  generalize (lg_sl ([.ref h0, .int v1]) ++ List.replicate (4 - (lg_sl ([.ref h0, .int v1])).length) Slot.unset).toArray = ls at hl ⊢
  change lv_has ls 4 [(0, .ref h0), (1, .int v1)] at hl
  clear hD0 hAe
  refine go0 (wsP := fun H => va_P (dC, dI) vwCl [(h0, .inr (2, [.ref g_node, .ref g_girth, .ref g_gave, .ref g_holeTree, .ref g_holeAngle, .ref g_holeYear, .int n_tr, .int n_ho])), (g_node, .inl (k_node, 60, .inl f_node))] H) hP hS ?_
  clear hP hS; intro H locs hP hS
  change va_P (dC, dI) vwCl [(h0, .inr (2, [.ref g_node, .ref g_girth, .ref g_gave, .ref g_holeTree, .ref g_holeAngle, .ref g_holeYear, .int n_tr, .int n_ho])), (g_node, .inl (k_node, 60, .inl f_node))] H at hP
  refine lv_iconst (v := 0) hx hb dX2_treesAt_0 (by decide) ?_
  refine lv_istore_n (lv' := [(2, .int 0), (0, .ref h0), (1, .int v1)]) hx hb dX2_treesAt_1 rfl hl (by decide) rfl ?_
  clear hl; intro ls hl
  refine lv_iconst (v := 0) hx hb dX2_treesAt_2 (by decide) ?_
  refine lv_istore_n (lv' := [(3, .int 0), (2, .int 0), (0, .ref h0), (1, .int v1)]) hx hb dX2_treesAt_3 rfl hl (by decide) rfl ?_
  clear hl; intro ls hl
  refine (fun (lp : ∀ (n1 : Nat) (i_1 : Int32) (j_1 : Int32) (H : Heap) (locs : List Loc) (ls : Array Slot), (n_tr.toInt - i_1.toInt) < (n1 : Int) → (0 ≤ i_1.toInt ∧ i_1.toInt ≤ n_tr.toInt) → (0 ≤ j_1.toInt ∧ j_1.toInt ≤ i_1.toInt) → (Cn (fun k => decide (f_node k = v1)) i_1 j_1) → lv_has ls 4 [(3, .int i_1), (2, .int j_1), (0, .ref h0), (1, .int v1)] → va_P (dC, dI) vwCl [(h0, .inr (2, [.ref g_node, .ref g_girth, .ref g_gave, .ref g_holeTree, .ref g_holeAngle, .ref g_holeYear, .int n_tr, .int n_ho])), (g_node, .inl (k_node, 60, .inl f_node))] H → va_D A [(h0, .inr (2, [.ref g_node, .ref g_girth, .ref g_gave, .ref g_holeTree, .ref g_holeAngle, .ref g_holeYear, .int n_tr, .int n_ho])), (g_node, .inl (k_node, 60, .inl f_node))] → va_S A s.heap H locs → W p l e _ s m _ below meth c H locs _ _ _ (F0 m 4 ls [])) => lp (Int.toNat (n_tr.toInt - (0 : Int)) + 1) 0 0   H locs ls ((lg_X2_treesAt_0 n_tr n_ho yg)) (lg_X2_treesAt_1 n_tr n_ho yg) (lg_X2_treesAt_2 n_tr n_ho yg)  Cn_0 hl hP hD hS) ?_
  clear hP hD hS hl
  intro n1
  induction n1 with
  | zero =>
    intro i_1 j_1 H locs ls hmu1 hi1_0 hi1_1  hp1_0 hl hP hD hS
    exact False.elim (lg_X2_treesAt_3 n_tr n_ho i_1 j_1 yg hi1_0 hi1_1 hmu1)
  | succ n1 ih1 =>
    intro i_1 j_1 H locs ls hmu1 hi1_0 hi1_1  hp1_0 hl hP hD hS
    refine lv_iload_n hx hb dX2_treesAt_4 rfl (lv_at hl 0 rfl) ?_
    refine lv_aload_n hx hb dX2_treesAt_5 rfl (lv_at hl 2 rfl) ?_
    refine va_get (D := (dC, dI)) (ci := 2) (v := .int n_tr) (C := RX2) (T := TX2) (N := 8) hx hb htb iX2 hown hK hP 0 rfl rfl 6 (Nat.le_of_ble_eq_true rfl) (htb _ m_77) (fun _ h9 => h9) rfl dX2_treesAt_6 ?_
    refine lv_icmp_ge (tgt := 31) hx hb dX2_treesAt_9 (by decide) (fun c_2 => ?_) (fun c_2 => ?_)
    · have t_3 : n_tr.toInt ≤ i_1.toInt := i_le rfl rfl c_2
      refine lv_iload_n hx hb dX2_treesAt_31 rfl (lv_at hl 1 rfl) ?_
      refine W.widen (k := 0) (n := 0) (Nat.le_of_ble_eq_true rfl) (Nat.le_of_ble_eq_true rfl) ?_
      have hP9 := hP.sub (ws' := [(h0, .inr (2, [.ref g_node, .ref g_girth, .ref g_gave, .ref g_holeTree, .ref g_holeAngle, .ref g_holeYear, .int n_tr, .int n_ho])), (g_node, .inl (k_node, 60, .inl f_node))]) [0, 1] rfl
      have hD9 := hD.sub (ws' := [(h0, .inr (2, [.ref g_node, .ref g_girth, .ref g_gave, .ref g_holeTree, .ref g_holeAngle, .ref g_holeYear, .int n_tr, .int n_ho])), (g_node, .inl (k_node, 60, .inl f_node))]) [0, 1] (by decide) rfl
      have hK9 := hK.sub (tys' := [(k_node, .int)]) [0] rfl
      exact W.iret (v := j_1) hx hb hr (fun t ht hW => ⟨⟨j_1, (), rfl, ⟨Cn_e hp1_0 (lg_X2_treesAt_4 n_tr n_ho i_1 j_1 n1 yg hi1_0 hi1_1 hmu1 t_3), (lg_X2_treesAt_5 n_tr n_ho i_1 j_1 n1 yg hi1_0 hi1_1 hmu1 t_3)⟩, ⟨by rw [ht]; exact hP9, va_K.moved hW.alike hK9, hD9⟩⟩, hS.F ht⟩) hS.2.2 dX2_treesAt_32
    · have t_3 : i_1.toInt < n_tr.toInt := i_nle rfl rfl c_2
      refine lv_aload_n hx hb dX2_treesAt_12 rfl (lv_at hl 2 rfl) ?_
      refine va_get (D := (dC, dI)) (ci := 2) (v := .ref g_node) (C := RX2) (T := TX2) (N := 8) hx hb htb iX2 hown hK hP 0 rfl rfl 0 (Nat.le_of_ble_eq_true rfl) (htb _ m_71) (fun _ h9 => h9) rfl dX2_treesAt_13 ?_
      refine lv_iload_n hx hb dX2_treesAt_16 rfl (lv_at hl 0 rfl) ?_
      refine va_iald hx hb hK hP 1 0 rfl rfl (i_in rfl (lg_X2_treesAt_6 n_tr n_ho i_1 j_1 n1 yg hi1_0 hi1_1 hmu1 t_3)) dX2_treesAt_17 ?_
      refine lv_topi (fun x_4 ex_5 => ?_)
      refine lv_iload_n hx hb dX2_treesAt_18 rfl (lv_at hl 3 rfl) ?_
      refine lv_icmp_ne (tgt := 25) hx hb dX2_treesAt_19 (by decide) (fun c_6 => ?_) (fun c_6 => ?_)
      · have t_7 : ¬ x_4.toInt = v1.toInt := i_ne rfl rfl c_6
        obtain ⟨x_8, ex_9⟩ : ∃ y : Int32, y = i_1 + Int32.ofInt 1 := ⟨_, rfl⟩
        have t_10 : x_8.toInt = i_1.toInt + 1 := i_add rfl (by decide) (lg_X2_treesAt_7 n_tr n_ho v1 i_1 j_1 n1 x_4 yg hi1_0 hi1_1 hmu1 t_3 t_7) ex_9
        refine lv_iinc (v := x_8) (lv' := [(3, .int x_8), (2, .int j_1), (0, .ref h0), (1, .int v1)]) hx hb dX2_treesAt_25 hl (k := 0) rfl ex_9.symm (by decide) rfl ?_
        clear hl; intro ls hl
        refine lv_goto (tgt := 4) hx hb dX2_treesAt_28 (by decide) ?_
        exact ih1 x_8 j_1  H locs ls (lg_X2_treesAt_8 n_tr n_ho v1 i_1 j_1 n1 x_4 x_8 yg hi1_0 hi1_1 hmu1 t_3 t_7 t_10) (lg_X2_treesAt_9 n_tr n_ho v1 i_1 j_1 n1 x_4 x_8 yg hi1_0 hi1_1 hmu1 t_3 t_7 t_10) (lg_X2_treesAt_10 n_tr n_ho v1 i_1 j_1 n1 x_4 x_8 yg hi1_0 hi1_1 hmu1 t_3 t_7 t_10)  (Cn_f hp1_0 (lg_X2_treesAt_11 n_tr n_ho f_node v1 i_1 j_1 n1 x_4 x_8 yg hi1_0 hi1_1 hmu1 t_3 t_7 t_10 ex_5) (lg_X2_treesAt_12 n_tr n_ho v1 i_1 j_1 n1 x_4 x_8 yg hi1_0 hi1_1 hmu1 t_3 t_7 t_10) (lg_X2_treesAt_13 n_tr n_ho v1 i_1 j_1 n1 x_4 x_8 yg hi1_0 hi1_1 hmu1 t_3 t_7 t_10)) (lv_sub hl [0, 1, 2, 3] rfl) (hP.sub [0, 1] rfl) (hD.sub [0, 1] (by decide) rfl) hS
      · have t_7 : x_4.toInt = v1.toInt := i_eq rfl rfl c_6
        obtain ⟨x_11, ex_12⟩ : ∃ y : Int32, y = j_1 + Int32.ofInt 1 := ⟨_, rfl⟩
        have t_13 : x_11.toInt = j_1.toInt + 1 := i_add rfl (by decide) (lg_X2_treesAt_14 n_tr n_ho v1 i_1 j_1 n1 x_4 yg hi1_0 hi1_1 hmu1 t_3 t_7) ex_12
        refine lv_iinc (v := x_11) (lv' := [(2, .int x_11), (3, .int i_1), (0, .ref h0), (1, .int v1)]) hx hb dX2_treesAt_22 hl (k := 1) rfl ex_12.symm (by decide) rfl ?_
        clear hl; intro ls hl
        obtain ⟨x_14, ex_15⟩ : ∃ y : Int32, y = i_1 + Int32.ofInt 1 := ⟨_, rfl⟩
        have t_16 : x_14.toInt = i_1.toInt + 1 := i_add rfl (by decide) (lg_X2_treesAt_15 n_tr n_ho v1 i_1 j_1 n1 x_4 x_11 yg hi1_0 hi1_1 hmu1 t_3 t_7 t_13) ex_15
        refine lv_iinc (v := x_14) (lv' := [(3, .int x_14), (2, .int x_11), (0, .ref h0), (1, .int v1)]) hx hb dX2_treesAt_25 hl (k := 1) rfl ex_15.symm (by decide) rfl ?_
        clear hl; intro ls hl
        refine lv_goto (tgt := 4) hx hb dX2_treesAt_28 (by decide) ?_
        exact ih1 x_14 x_11  H locs ls (lg_X2_treesAt_16 n_tr n_ho v1 i_1 j_1 n1 x_4 x_11 x_14 yg hi1_0 hi1_1 hmu1 t_3 t_7 t_13 t_16) (lg_X2_treesAt_17 n_tr n_ho v1 i_1 j_1 n1 x_4 x_11 x_14 yg hi1_0 hi1_1 hmu1 t_3 t_7 t_13 t_16) (lg_X2_treesAt_18 n_tr n_ho v1 i_1 j_1 n1 x_4 x_11 x_14 yg hi1_0 hi1_1 hmu1 t_3 t_7 t_13 t_16)  (Cn_t hp1_0 (lg_X2_treesAt_19 n_tr n_ho f_node v1 i_1 j_1 n1 x_4 x_11 x_14 yg hi1_0 hi1_1 hmu1 t_3 t_7 t_13 t_16 ex_5) (lg_X2_treesAt_20 n_tr n_ho v1 i_1 j_1 n1 x_4 x_11 x_14 yg hi1_0 hi1_1 hmu1 t_3 t_7 t_13 t_16) (lg_X2_treesAt_21 n_tr n_ho v1 i_1 j_1 n1 x_4 x_11 x_14 yg hi1_0 hi1_1 hmu1 t_3 t_7 t_13 t_16)) (lv_sub hl [0, 1, 2, 3] rfl) (hP.sub [0, 1] rfl) (hD.sub [0, 1] (by decide) rfl) hS

theorem lg_X2_tapsOf_0 (n_tr : Int32) (n_ho : Int32) (yg : 0 ≤ n_tr.toInt ∧ n_tr.toInt ≤ 60 ∧ 0 ≤ n_ho.toInt ∧ n_ho.toInt ≤ 300) : (n_ho.toInt - (0 : Int)) < ((Int.toNat (n_ho.toInt - (0 : Int)) + 1 : Nat) : Int) := by
  have := rg_rng n_tr; have := rg_rng n_ho; omega
theorem lg_X2_tapsOf_1 (n_tr : Int32) (n_ho : Int32) (yg : 0 ≤ n_tr.toInt ∧ n_tr.toInt ≤ 60 ∧ 0 ≤ n_ho.toInt ∧ n_ho.toInt ≤ 300) : 0 ≤ (0 : Int) ∧ (0 : Int) ≤ n_ho.toInt := by
  have := rg_rng n_tr; have := rg_rng n_ho; omega
theorem lg_X2_tapsOf_2 (n_tr : Int32) (n_ho : Int32) (yg : 0 ≤ n_tr.toInt ∧ n_tr.toInt ≤ 60 ∧ 0 ≤ n_ho.toInt ∧ n_ho.toInt ≤ 300) : 0 ≤ (0 : Int) ∧ (0 : Int) ≤ (0 : Int) := by
  have := rg_rng n_tr; have := rg_rng n_ho; omega
theorem lg_X2_tapsOf_3 (n_tr : Int32) (n_ho : Int32) (i_1 : Int32) (j_1 : Int32) (yg : 0 ≤ n_tr.toInt ∧ n_tr.toInt ≤ 60 ∧ 0 ≤ n_ho.toInt ∧ n_ho.toInt ≤ 300) (hi1_0 : 0 ≤ i_1.toInt ∧ i_1.toInt ≤ n_ho.toInt) (hi1_1 : 0 ≤ j_1.toInt ∧ j_1.toInt ≤ i_1.toInt) (hmu1 : (n_ho.toInt - i_1.toInt) < ((0 : Nat) : Int)) : False := by
  have := rg_rng n_tr; have := rg_rng n_ho; have := rg_rng i_1; have := rg_rng j_1; omega
theorem lg_X2_tapsOf_4 (n_tr : Int32) (n_ho : Int32) (i_1 : Int32) (j_1 : Int32) (n1 : Nat) (yg : 0 ≤ n_tr.toInt ∧ n_tr.toInt ≤ 60 ∧ 0 ≤ n_ho.toInt ∧ n_ho.toInt ≤ 300) (hi1_0 : 0 ≤ i_1.toInt ∧ i_1.toInt ≤ n_ho.toInt) (hi1_1 : 0 ≤ j_1.toInt ∧ j_1.toInt ≤ i_1.toInt) (hmu1 : (n_ho.toInt - i_1.toInt) < ((n1 + 1 : Nat) : Int)) (t_3 : n_ho.toInt ≤ i_1.toInt) : i_1.toInt = n_ho.toInt := by
  have := rg_rng n_tr; have := rg_rng n_ho; have := rg_rng i_1; have := rg_rng j_1; omega
theorem lg_X2_tapsOf_5 (n_tr : Int32) (n_ho : Int32) (i_1 : Int32) (j_1 : Int32) (n1 : Nat) (yg : 0 ≤ n_tr.toInt ∧ n_tr.toInt ≤ 60 ∧ 0 ≤ n_ho.toInt ∧ n_ho.toInt ≤ 300) (hi1_0 : 0 ≤ i_1.toInt ∧ i_1.toInt ≤ n_ho.toInt) (hi1_1 : 0 ≤ j_1.toInt ∧ j_1.toInt ≤ i_1.toInt) (hmu1 : (n_ho.toInt - i_1.toInt) < ((n1 + 1 : Nat) : Int)) (t_3 : n_ho.toInt ≤ i_1.toInt) : 0 ≤ j_1.toInt ∧ j_1.toInt ≤ n_ho.toInt := by
  have := rg_rng n_tr; have := rg_rng n_ho; have := rg_rng i_1; have := rg_rng j_1; omega
theorem lg_X2_tapsOf_6 (n_tr : Int32) (n_ho : Int32) (i_1 : Int32) (j_1 : Int32) (n1 : Nat) (yg : 0 ≤ n_tr.toInt ∧ n_tr.toInt ≤ 60 ∧ 0 ≤ n_ho.toInt ∧ n_ho.toInt ≤ 300) (hi1_0 : 0 ≤ i_1.toInt ∧ i_1.toInt ≤ n_ho.toInt) (hi1_1 : 0 ≤ j_1.toInt ∧ j_1.toInt ≤ i_1.toInt) (hmu1 : (n_ho.toInt - i_1.toInt) < ((n1 + 1 : Nat) : Int)) (t_3 : i_1.toInt < n_ho.toInt) : 0 ≤ i_1.toInt ∧ i_1.toInt < ((300 : Nat) : Int) := by
  have := rg_rng n_tr; have := rg_rng n_ho; have := rg_rng i_1; have := rg_rng j_1; omega
theorem lg_X2_tapsOf_7 (n_tr : Int32) (n_ho : Int32) (v1 : Int32) (i_1 : Int32) (j_1 : Int32) (n1 : Nat) (x_4 : Int32) (yg : 0 ≤ n_tr.toInt ∧ n_tr.toInt ≤ 60 ∧ 0 ≤ n_ho.toInt ∧ n_ho.toInt ≤ 300) (hi1_0 : 0 ≤ i_1.toInt ∧ i_1.toInt ≤ n_ho.toInt) (hi1_1 : 0 ≤ j_1.toInt ∧ j_1.toInt ≤ i_1.toInt) (hmu1 : (n_ho.toInt - i_1.toInt) < ((n1 + 1 : Nat) : Int)) (t_3 : i_1.toInt < n_ho.toInt) (t_7 : ¬ x_4.toInt = v1.toInt) : -2147483648 ≤ i_1.toInt + 1 ∧ i_1.toInt + 1 < 2147483648 := by
  have := rg_rng n_tr; have := rg_rng n_ho; have := rg_rng v1; have := rg_rng i_1; have := rg_rng j_1; have := rg_rng x_4; omega
theorem lg_X2_tapsOf_8 (n_tr : Int32) (n_ho : Int32) (v1 : Int32) (i_1 : Int32) (j_1 : Int32) (n1 : Nat) (x_4 : Int32) (x_8 : Int32) (yg : 0 ≤ n_tr.toInt ∧ n_tr.toInt ≤ 60 ∧ 0 ≤ n_ho.toInt ∧ n_ho.toInt ≤ 300) (hi1_0 : 0 ≤ i_1.toInt ∧ i_1.toInt ≤ n_ho.toInt) (hi1_1 : 0 ≤ j_1.toInt ∧ j_1.toInt ≤ i_1.toInt) (hmu1 : (n_ho.toInt - i_1.toInt) < ((n1 + 1 : Nat) : Int)) (t_3 : i_1.toInt < n_ho.toInt) (t_7 : ¬ x_4.toInt = v1.toInt) (t_10 : x_8.toInt = i_1.toInt + 1) : (n_ho.toInt - x_8.toInt) < (n1 : Int) := by
  have := rg_rng n_tr; have := rg_rng n_ho; have := rg_rng v1; have := rg_rng i_1; have := rg_rng j_1; have := rg_rng x_4; have := rg_rng x_8; omega
theorem lg_X2_tapsOf_9 (n_tr : Int32) (n_ho : Int32) (v1 : Int32) (i_1 : Int32) (j_1 : Int32) (n1 : Nat) (x_4 : Int32) (x_8 : Int32) (yg : 0 ≤ n_tr.toInt ∧ n_tr.toInt ≤ 60 ∧ 0 ≤ n_ho.toInt ∧ n_ho.toInt ≤ 300) (hi1_0 : 0 ≤ i_1.toInt ∧ i_1.toInt ≤ n_ho.toInt) (hi1_1 : 0 ≤ j_1.toInt ∧ j_1.toInt ≤ i_1.toInt) (hmu1 : (n_ho.toInt - i_1.toInt) < ((n1 + 1 : Nat) : Int)) (t_3 : i_1.toInt < n_ho.toInt) (t_7 : ¬ x_4.toInt = v1.toInt) (t_10 : x_8.toInt = i_1.toInt + 1) : 0 ≤ x_8.toInt ∧ x_8.toInt ≤ n_ho.toInt := by
  have := rg_rng n_tr; have := rg_rng n_ho; have := rg_rng v1; have := rg_rng i_1; have := rg_rng j_1; have := rg_rng x_4; have := rg_rng x_8; omega
theorem lg_X2_tapsOf_10 (n_tr : Int32) (n_ho : Int32) (v1 : Int32) (i_1 : Int32) (j_1 : Int32) (n1 : Nat) (x_4 : Int32) (x_8 : Int32) (yg : 0 ≤ n_tr.toInt ∧ n_tr.toInt ≤ 60 ∧ 0 ≤ n_ho.toInt ∧ n_ho.toInt ≤ 300) (hi1_0 : 0 ≤ i_1.toInt ∧ i_1.toInt ≤ n_ho.toInt) (hi1_1 : 0 ≤ j_1.toInt ∧ j_1.toInt ≤ i_1.toInt) (hmu1 : (n_ho.toInt - i_1.toInt) < ((n1 + 1 : Nat) : Int)) (t_3 : i_1.toInt < n_ho.toInt) (t_7 : ¬ x_4.toInt = v1.toInt) (t_10 : x_8.toInt = i_1.toInt + 1) : 0 ≤ j_1.toInt ∧ j_1.toInt ≤ x_8.toInt := by
  have := rg_rng n_tr; have := rg_rng n_ho; have := rg_rng v1; have := rg_rng i_1; have := rg_rng j_1; have := rg_rng x_4; have := rg_rng x_8; omega
theorem lg_X2_tapsOf_11 (n_tr : Int32) (n_ho : Int32) (f_holeTree : Nat → Int32) (f_holeYear : Nat → Int32) (v1 : Int32) (v2 : Int32) (i_1 : Int32) (j_1 : Int32) (n1 : Nat) (x_4 : Int32) (x_8 : Int32) (yg : 0 ≤ n_tr.toInt ∧ n_tr.toInt ≤ 60 ∧ 0 ≤ n_ho.toInt ∧ n_ho.toInt ≤ 300) (hi1_0 : 0 ≤ i_1.toInt ∧ i_1.toInt ≤ n_ho.toInt) (hi1_1 : 0 ≤ j_1.toInt ∧ j_1.toInt ≤ i_1.toInt) (hmu1 : (n_ho.toInt - i_1.toInt) < ((n1 + 1 : Nat) : Int)) (t_3 : i_1.toInt < n_ho.toInt) (t_7 : ¬ x_4.toInt = v1.toInt) (t_10 : x_8.toInt = i_1.toInt + 1) (ex_5 : x_4 = f_holeTree (Int32.toNatClampNeg i_1)) : (fun k => decide (f_holeTree k = v1 ∧ f_holeYear k = v2)) (Int32.toNatClampNeg i_1) = false := by
  have := rg_rng n_tr; have := rg_rng n_ho; have := rg_rng v1; have := rg_rng i_1; have := rg_rng j_1; have := rg_rng x_4; have := rg_rng x_8; refine decide_eq_false ?_
  simp only [← ex_5, ← Int32.toInt_inj]
  omega
theorem lg_X2_tapsOf_12 (n_tr : Int32) (n_ho : Int32) (v1 : Int32) (i_1 : Int32) (j_1 : Int32) (n1 : Nat) (x_4 : Int32) (x_8 : Int32) (yg : 0 ≤ n_tr.toInt ∧ n_tr.toInt ≤ 60 ∧ 0 ≤ n_ho.toInt ∧ n_ho.toInt ≤ 300) (hi1_0 : 0 ≤ i_1.toInt ∧ i_1.toInt ≤ n_ho.toInt) (hi1_1 : 0 ≤ j_1.toInt ∧ j_1.toInt ≤ i_1.toInt) (hmu1 : (n_ho.toInt - i_1.toInt) < ((n1 + 1 : Nat) : Int)) (t_3 : i_1.toInt < n_ho.toInt) (t_7 : ¬ x_4.toInt = v1.toInt) (t_10 : x_8.toInt = i_1.toInt + 1) : x_8.toInt = i_1.toInt + 1 := by
  have := rg_rng n_tr; have := rg_rng n_ho; have := rg_rng v1; have := rg_rng i_1; have := rg_rng j_1; have := rg_rng x_4; have := rg_rng x_8; omega
theorem lg_X2_tapsOf_13 (n_tr : Int32) (n_ho : Int32) (v1 : Int32) (i_1 : Int32) (j_1 : Int32) (n1 : Nat) (x_4 : Int32) (x_8 : Int32) (yg : 0 ≤ n_tr.toInt ∧ n_tr.toInt ≤ 60 ∧ 0 ≤ n_ho.toInt ∧ n_ho.toInt ≤ 300) (hi1_0 : 0 ≤ i_1.toInt ∧ i_1.toInt ≤ n_ho.toInt) (hi1_1 : 0 ≤ j_1.toInt ∧ j_1.toInt ≤ i_1.toInt) (hmu1 : (n_ho.toInt - i_1.toInt) < ((n1 + 1 : Nat) : Int)) (t_3 : i_1.toInt < n_ho.toInt) (t_7 : ¬ x_4.toInt = v1.toInt) (t_10 : x_8.toInt = i_1.toInt + 1) : j_1.toInt = j_1.toInt := by
  have := rg_rng n_tr; have := rg_rng n_ho; have := rg_rng v1; have := rg_rng i_1; have := rg_rng j_1; have := rg_rng x_4; have := rg_rng x_8; omega
theorem lg_X2_tapsOf_14 (n_tr : Int32) (n_ho : Int32) (v1 : Int32) (i_1 : Int32) (j_1 : Int32) (n1 : Nat) (x_4 : Int32) (yg : 0 ≤ n_tr.toInt ∧ n_tr.toInt ≤ 60 ∧ 0 ≤ n_ho.toInt ∧ n_ho.toInt ≤ 300) (hi1_0 : 0 ≤ i_1.toInt ∧ i_1.toInt ≤ n_ho.toInt) (hi1_1 : 0 ≤ j_1.toInt ∧ j_1.toInt ≤ i_1.toInt) (hmu1 : (n_ho.toInt - i_1.toInt) < ((n1 + 1 : Nat) : Int)) (t_3 : i_1.toInt < n_ho.toInt) (t_7 : x_4.toInt = v1.toInt) : 0 ≤ i_1.toInt ∧ i_1.toInt < ((300 : Nat) : Int) := by
  have := rg_rng n_tr; have := rg_rng n_ho; have := rg_rng v1; have := rg_rng i_1; have := rg_rng j_1; have := rg_rng x_4; omega
theorem lg_X2_tapsOf_15 (n_tr : Int32) (n_ho : Int32) (v1 : Int32) (v2 : Int32) (i_1 : Int32) (j_1 : Int32) (n1 : Nat) (x_4 : Int32) (x_11 : Int32) (yg : 0 ≤ n_tr.toInt ∧ n_tr.toInt ≤ 60 ∧ 0 ≤ n_ho.toInt ∧ n_ho.toInt ≤ 300) (hi1_0 : 0 ≤ i_1.toInt ∧ i_1.toInt ≤ n_ho.toInt) (hi1_1 : 0 ≤ j_1.toInt ∧ j_1.toInt ≤ i_1.toInt) (hmu1 : (n_ho.toInt - i_1.toInt) < ((n1 + 1 : Nat) : Int)) (t_3 : i_1.toInt < n_ho.toInt) (t_7 : x_4.toInt = v1.toInt) (t_14 : ¬ x_11.toInt = v2.toInt) : -2147483648 ≤ i_1.toInt + 1 ∧ i_1.toInt + 1 < 2147483648 := by
  have := rg_rng n_tr; have := rg_rng n_ho; have := rg_rng v1; have := rg_rng v2; have := rg_rng i_1; have := rg_rng j_1; have := rg_rng x_4; have := rg_rng x_11; omega
theorem lg_X2_tapsOf_16 (n_tr : Int32) (n_ho : Int32) (v1 : Int32) (v2 : Int32) (i_1 : Int32) (j_1 : Int32) (n1 : Nat) (x_4 : Int32) (x_11 : Int32) (x_15 : Int32) (yg : 0 ≤ n_tr.toInt ∧ n_tr.toInt ≤ 60 ∧ 0 ≤ n_ho.toInt ∧ n_ho.toInt ≤ 300) (hi1_0 : 0 ≤ i_1.toInt ∧ i_1.toInt ≤ n_ho.toInt) (hi1_1 : 0 ≤ j_1.toInt ∧ j_1.toInt ≤ i_1.toInt) (hmu1 : (n_ho.toInt - i_1.toInt) < ((n1 + 1 : Nat) : Int)) (t_3 : i_1.toInt < n_ho.toInt) (t_7 : x_4.toInt = v1.toInt) (t_14 : ¬ x_11.toInt = v2.toInt) (t_17 : x_15.toInt = i_1.toInt + 1) : (n_ho.toInt - x_15.toInt) < (n1 : Int) := by
  have := rg_rng n_tr; have := rg_rng n_ho; have := rg_rng v1; have := rg_rng v2; have := rg_rng i_1; have := rg_rng j_1; have := rg_rng x_4; have := rg_rng x_11; have := rg_rng x_15; omega
theorem lg_X2_tapsOf_17 (n_tr : Int32) (n_ho : Int32) (v1 : Int32) (v2 : Int32) (i_1 : Int32) (j_1 : Int32) (n1 : Nat) (x_4 : Int32) (x_11 : Int32) (x_15 : Int32) (yg : 0 ≤ n_tr.toInt ∧ n_tr.toInt ≤ 60 ∧ 0 ≤ n_ho.toInt ∧ n_ho.toInt ≤ 300) (hi1_0 : 0 ≤ i_1.toInt ∧ i_1.toInt ≤ n_ho.toInt) (hi1_1 : 0 ≤ j_1.toInt ∧ j_1.toInt ≤ i_1.toInt) (hmu1 : (n_ho.toInt - i_1.toInt) < ((n1 + 1 : Nat) : Int)) (t_3 : i_1.toInt < n_ho.toInt) (t_7 : x_4.toInt = v1.toInt) (t_14 : ¬ x_11.toInt = v2.toInt) (t_17 : x_15.toInt = i_1.toInt + 1) : 0 ≤ x_15.toInt ∧ x_15.toInt ≤ n_ho.toInt := by
  have := rg_rng n_tr; have := rg_rng n_ho; have := rg_rng v1; have := rg_rng v2; have := rg_rng i_1; have := rg_rng j_1; have := rg_rng x_4; have := rg_rng x_11; have := rg_rng x_15; omega
theorem lg_X2_tapsOf_18 (n_tr : Int32) (n_ho : Int32) (v1 : Int32) (v2 : Int32) (i_1 : Int32) (j_1 : Int32) (n1 : Nat) (x_4 : Int32) (x_11 : Int32) (x_15 : Int32) (yg : 0 ≤ n_tr.toInt ∧ n_tr.toInt ≤ 60 ∧ 0 ≤ n_ho.toInt ∧ n_ho.toInt ≤ 300) (hi1_0 : 0 ≤ i_1.toInt ∧ i_1.toInt ≤ n_ho.toInt) (hi1_1 : 0 ≤ j_1.toInt ∧ j_1.toInt ≤ i_1.toInt) (hmu1 : (n_ho.toInt - i_1.toInt) < ((n1 + 1 : Nat) : Int)) (t_3 : i_1.toInt < n_ho.toInt) (t_7 : x_4.toInt = v1.toInt) (t_14 : ¬ x_11.toInt = v2.toInt) (t_17 : x_15.toInt = i_1.toInt + 1) : 0 ≤ j_1.toInt ∧ j_1.toInt ≤ x_15.toInt := by
  have := rg_rng n_tr; have := rg_rng n_ho; have := rg_rng v1; have := rg_rng v2; have := rg_rng i_1; have := rg_rng j_1; have := rg_rng x_4; have := rg_rng x_11; have := rg_rng x_15; omega
theorem lg_X2_tapsOf_19 (n_tr : Int32) (n_ho : Int32) (f_holeTree : Nat → Int32) (f_holeYear : Nat → Int32) (v1 : Int32) (v2 : Int32) (i_1 : Int32) (j_1 : Int32) (n1 : Nat) (x_4 : Int32) (x_11 : Int32) (x_15 : Int32) (yg : 0 ≤ n_tr.toInt ∧ n_tr.toInt ≤ 60 ∧ 0 ≤ n_ho.toInt ∧ n_ho.toInt ≤ 300) (hi1_0 : 0 ≤ i_1.toInt ∧ i_1.toInt ≤ n_ho.toInt) (hi1_1 : 0 ≤ j_1.toInt ∧ j_1.toInt ≤ i_1.toInt) (hmu1 : (n_ho.toInt - i_1.toInt) < ((n1 + 1 : Nat) : Int)) (t_3 : i_1.toInt < n_ho.toInt) (t_7 : x_4.toInt = v1.toInt) (t_14 : ¬ x_11.toInt = v2.toInt) (t_17 : x_15.toInt = i_1.toInt + 1) (ex_5 : x_4 = f_holeTree (Int32.toNatClampNeg i_1)) (ex_12 : x_11 = f_holeYear (Int32.toNatClampNeg i_1)) : (fun k => decide (f_holeTree k = v1 ∧ f_holeYear k = v2)) (Int32.toNatClampNeg i_1) = false := by
  have := rg_rng n_tr; have := rg_rng n_ho; have := rg_rng v1; have := rg_rng v2; have := rg_rng i_1; have := rg_rng j_1; have := rg_rng x_4; have := rg_rng x_11; have := rg_rng x_15; refine decide_eq_false ?_
  simp only [← ex_5, ← ex_12, ← Int32.toInt_inj]
  omega
theorem lg_X2_tapsOf_20 (n_tr : Int32) (n_ho : Int32) (v1 : Int32) (v2 : Int32) (i_1 : Int32) (j_1 : Int32) (n1 : Nat) (x_4 : Int32) (x_11 : Int32) (x_15 : Int32) (yg : 0 ≤ n_tr.toInt ∧ n_tr.toInt ≤ 60 ∧ 0 ≤ n_ho.toInt ∧ n_ho.toInt ≤ 300) (hi1_0 : 0 ≤ i_1.toInt ∧ i_1.toInt ≤ n_ho.toInt) (hi1_1 : 0 ≤ j_1.toInt ∧ j_1.toInt ≤ i_1.toInt) (hmu1 : (n_ho.toInt - i_1.toInt) < ((n1 + 1 : Nat) : Int)) (t_3 : i_1.toInt < n_ho.toInt) (t_7 : x_4.toInt = v1.toInt) (t_14 : ¬ x_11.toInt = v2.toInt) (t_17 : x_15.toInt = i_1.toInt + 1) : x_15.toInt = i_1.toInt + 1 := by
  have := rg_rng n_tr; have := rg_rng n_ho; have := rg_rng v1; have := rg_rng v2; have := rg_rng i_1; have := rg_rng j_1; have := rg_rng x_4; have := rg_rng x_11; have := rg_rng x_15; omega
theorem lg_X2_tapsOf_21 (n_tr : Int32) (n_ho : Int32) (v1 : Int32) (v2 : Int32) (i_1 : Int32) (j_1 : Int32) (n1 : Nat) (x_4 : Int32) (x_11 : Int32) (x_15 : Int32) (yg : 0 ≤ n_tr.toInt ∧ n_tr.toInt ≤ 60 ∧ 0 ≤ n_ho.toInt ∧ n_ho.toInt ≤ 300) (hi1_0 : 0 ≤ i_1.toInt ∧ i_1.toInt ≤ n_ho.toInt) (hi1_1 : 0 ≤ j_1.toInt ∧ j_1.toInt ≤ i_1.toInt) (hmu1 : (n_ho.toInt - i_1.toInt) < ((n1 + 1 : Nat) : Int)) (t_3 : i_1.toInt < n_ho.toInt) (t_7 : x_4.toInt = v1.toInt) (t_14 : ¬ x_11.toInt = v2.toInt) (t_17 : x_15.toInt = i_1.toInt + 1) : j_1.toInt = j_1.toInt := by
  have := rg_rng n_tr; have := rg_rng n_ho; have := rg_rng v1; have := rg_rng v2; have := rg_rng i_1; have := rg_rng j_1; have := rg_rng x_4; have := rg_rng x_11; have := rg_rng x_15; omega
theorem lg_X2_tapsOf_22 (n_tr : Int32) (n_ho : Int32) (v1 : Int32) (v2 : Int32) (i_1 : Int32) (j_1 : Int32) (n1 : Nat) (x_4 : Int32) (x_11 : Int32) (yg : 0 ≤ n_tr.toInt ∧ n_tr.toInt ≤ 60 ∧ 0 ≤ n_ho.toInt ∧ n_ho.toInt ≤ 300) (hi1_0 : 0 ≤ i_1.toInt ∧ i_1.toInt ≤ n_ho.toInt) (hi1_1 : 0 ≤ j_1.toInt ∧ j_1.toInt ≤ i_1.toInt) (hmu1 : (n_ho.toInt - i_1.toInt) < ((n1 + 1 : Nat) : Int)) (t_3 : i_1.toInt < n_ho.toInt) (t_7 : x_4.toInt = v1.toInt) (t_14 : x_11.toInt = v2.toInt) : -2147483648 ≤ j_1.toInt + 1 ∧ j_1.toInt + 1 < 2147483648 := by
  have := rg_rng n_tr; have := rg_rng n_ho; have := rg_rng v1; have := rg_rng v2; have := rg_rng i_1; have := rg_rng j_1; have := rg_rng x_4; have := rg_rng x_11; omega
theorem lg_X2_tapsOf_23 (n_tr : Int32) (n_ho : Int32) (v1 : Int32) (v2 : Int32) (i_1 : Int32) (j_1 : Int32) (n1 : Nat) (x_4 : Int32) (x_11 : Int32) (x_18 : Int32) (yg : 0 ≤ n_tr.toInt ∧ n_tr.toInt ≤ 60 ∧ 0 ≤ n_ho.toInt ∧ n_ho.toInt ≤ 300) (hi1_0 : 0 ≤ i_1.toInt ∧ i_1.toInt ≤ n_ho.toInt) (hi1_1 : 0 ≤ j_1.toInt ∧ j_1.toInt ≤ i_1.toInt) (hmu1 : (n_ho.toInt - i_1.toInt) < ((n1 + 1 : Nat) : Int)) (t_3 : i_1.toInt < n_ho.toInt) (t_7 : x_4.toInt = v1.toInt) (t_14 : x_11.toInt = v2.toInt) (t_20 : x_18.toInt = j_1.toInt + 1) : -2147483648 ≤ i_1.toInt + 1 ∧ i_1.toInt + 1 < 2147483648 := by
  have := rg_rng n_tr; have := rg_rng n_ho; have := rg_rng v1; have := rg_rng v2; have := rg_rng i_1; have := rg_rng j_1; have := rg_rng x_4; have := rg_rng x_11; have := rg_rng x_18; omega
theorem lg_X2_tapsOf_24 (n_tr : Int32) (n_ho : Int32) (v1 : Int32) (v2 : Int32) (i_1 : Int32) (j_1 : Int32) (n1 : Nat) (x_4 : Int32) (x_11 : Int32) (x_18 : Int32) (x_21 : Int32) (yg : 0 ≤ n_tr.toInt ∧ n_tr.toInt ≤ 60 ∧ 0 ≤ n_ho.toInt ∧ n_ho.toInt ≤ 300) (hi1_0 : 0 ≤ i_1.toInt ∧ i_1.toInt ≤ n_ho.toInt) (hi1_1 : 0 ≤ j_1.toInt ∧ j_1.toInt ≤ i_1.toInt) (hmu1 : (n_ho.toInt - i_1.toInt) < ((n1 + 1 : Nat) : Int)) (t_3 : i_1.toInt < n_ho.toInt) (t_7 : x_4.toInt = v1.toInt) (t_14 : x_11.toInt = v2.toInt) (t_20 : x_18.toInt = j_1.toInt + 1) (t_23 : x_21.toInt = i_1.toInt + 1) : (n_ho.toInt - x_21.toInt) < (n1 : Int) := by
  have := rg_rng n_tr; have := rg_rng n_ho; have := rg_rng v1; have := rg_rng v2; have := rg_rng i_1; have := rg_rng j_1; have := rg_rng x_4; have := rg_rng x_11; have := rg_rng x_18; have := rg_rng x_21; omega
theorem lg_X2_tapsOf_25 (n_tr : Int32) (n_ho : Int32) (v1 : Int32) (v2 : Int32) (i_1 : Int32) (j_1 : Int32) (n1 : Nat) (x_4 : Int32) (x_11 : Int32) (x_18 : Int32) (x_21 : Int32) (yg : 0 ≤ n_tr.toInt ∧ n_tr.toInt ≤ 60 ∧ 0 ≤ n_ho.toInt ∧ n_ho.toInt ≤ 300) (hi1_0 : 0 ≤ i_1.toInt ∧ i_1.toInt ≤ n_ho.toInt) (hi1_1 : 0 ≤ j_1.toInt ∧ j_1.toInt ≤ i_1.toInt) (hmu1 : (n_ho.toInt - i_1.toInt) < ((n1 + 1 : Nat) : Int)) (t_3 : i_1.toInt < n_ho.toInt) (t_7 : x_4.toInt = v1.toInt) (t_14 : x_11.toInt = v2.toInt) (t_20 : x_18.toInt = j_1.toInt + 1) (t_23 : x_21.toInt = i_1.toInt + 1) : 0 ≤ x_21.toInt ∧ x_21.toInt ≤ n_ho.toInt := by
  have := rg_rng n_tr; have := rg_rng n_ho; have := rg_rng v1; have := rg_rng v2; have := rg_rng i_1; have := rg_rng j_1; have := rg_rng x_4; have := rg_rng x_11; have := rg_rng x_18; have := rg_rng x_21; omega
theorem lg_X2_tapsOf_26 (n_tr : Int32) (n_ho : Int32) (v1 : Int32) (v2 : Int32) (i_1 : Int32) (j_1 : Int32) (n1 : Nat) (x_4 : Int32) (x_11 : Int32) (x_18 : Int32) (x_21 : Int32) (yg : 0 ≤ n_tr.toInt ∧ n_tr.toInt ≤ 60 ∧ 0 ≤ n_ho.toInt ∧ n_ho.toInt ≤ 300) (hi1_0 : 0 ≤ i_1.toInt ∧ i_1.toInt ≤ n_ho.toInt) (hi1_1 : 0 ≤ j_1.toInt ∧ j_1.toInt ≤ i_1.toInt) (hmu1 : (n_ho.toInt - i_1.toInt) < ((n1 + 1 : Nat) : Int)) (t_3 : i_1.toInt < n_ho.toInt) (t_7 : x_4.toInt = v1.toInt) (t_14 : x_11.toInt = v2.toInt) (t_20 : x_18.toInt = j_1.toInt + 1) (t_23 : x_21.toInt = i_1.toInt + 1) : 0 ≤ x_18.toInt ∧ x_18.toInt ≤ x_21.toInt := by
  have := rg_rng n_tr; have := rg_rng n_ho; have := rg_rng v1; have := rg_rng v2; have := rg_rng i_1; have := rg_rng j_1; have := rg_rng x_4; have := rg_rng x_11; have := rg_rng x_18; have := rg_rng x_21; omega
theorem lg_X2_tapsOf_27 (n_tr : Int32) (n_ho : Int32) (f_holeTree : Nat → Int32) (f_holeYear : Nat → Int32) (v1 : Int32) (v2 : Int32) (i_1 : Int32) (j_1 : Int32) (n1 : Nat) (x_4 : Int32) (x_11 : Int32) (x_18 : Int32) (x_21 : Int32) (yg : 0 ≤ n_tr.toInt ∧ n_tr.toInt ≤ 60 ∧ 0 ≤ n_ho.toInt ∧ n_ho.toInt ≤ 300) (hi1_0 : 0 ≤ i_1.toInt ∧ i_1.toInt ≤ n_ho.toInt) (hi1_1 : 0 ≤ j_1.toInt ∧ j_1.toInt ≤ i_1.toInt) (hmu1 : (n_ho.toInt - i_1.toInt) < ((n1 + 1 : Nat) : Int)) (t_3 : i_1.toInt < n_ho.toInt) (t_7 : x_4.toInt = v1.toInt) (t_14 : x_11.toInt = v2.toInt) (t_20 : x_18.toInt = j_1.toInt + 1) (t_23 : x_21.toInt = i_1.toInt + 1) (ex_5 : x_4 = f_holeTree (Int32.toNatClampNeg i_1)) (ex_12 : x_11 = f_holeYear (Int32.toNatClampNeg i_1)) : (fun k => decide (f_holeTree k = v1 ∧ f_holeYear k = v2)) (Int32.toNatClampNeg i_1) = true := by
  have := rg_rng n_tr; have := rg_rng n_ho; have := rg_rng v1; have := rg_rng v2; have := rg_rng i_1; have := rg_rng j_1; have := rg_rng x_4; have := rg_rng x_11; have := rg_rng x_18; have := rg_rng x_21; refine decide_eq_true ?_
  simp only [← ex_5, ← ex_12, ← Int32.toInt_inj]
  omega
theorem lg_X2_tapsOf_28 (n_tr : Int32) (n_ho : Int32) (v1 : Int32) (v2 : Int32) (i_1 : Int32) (j_1 : Int32) (n1 : Nat) (x_4 : Int32) (x_11 : Int32) (x_18 : Int32) (x_21 : Int32) (yg : 0 ≤ n_tr.toInt ∧ n_tr.toInt ≤ 60 ∧ 0 ≤ n_ho.toInt ∧ n_ho.toInt ≤ 300) (hi1_0 : 0 ≤ i_1.toInt ∧ i_1.toInt ≤ n_ho.toInt) (hi1_1 : 0 ≤ j_1.toInt ∧ j_1.toInt ≤ i_1.toInt) (hmu1 : (n_ho.toInt - i_1.toInt) < ((n1 + 1 : Nat) : Int)) (t_3 : i_1.toInt < n_ho.toInt) (t_7 : x_4.toInt = v1.toInt) (t_14 : x_11.toInt = v2.toInt) (t_20 : x_18.toInt = j_1.toInt + 1) (t_23 : x_21.toInt = i_1.toInt + 1) : x_21.toInt = i_1.toInt + 1 := by
  have := rg_rng n_tr; have := rg_rng n_ho; have := rg_rng v1; have := rg_rng v2; have := rg_rng i_1; have := rg_rng j_1; have := rg_rng x_4; have := rg_rng x_11; have := rg_rng x_18; have := rg_rng x_21; omega
theorem lg_X2_tapsOf_29 (n_tr : Int32) (n_ho : Int32) (v1 : Int32) (v2 : Int32) (i_1 : Int32) (j_1 : Int32) (n1 : Nat) (x_4 : Int32) (x_11 : Int32) (x_18 : Int32) (x_21 : Int32) (yg : 0 ≤ n_tr.toInt ∧ n_tr.toInt ≤ 60 ∧ 0 ≤ n_ho.toInt ∧ n_ho.toInt ≤ 300) (hi1_0 : 0 ≤ i_1.toInt ∧ i_1.toInt ≤ n_ho.toInt) (hi1_1 : 0 ≤ j_1.toInt ∧ j_1.toInt ≤ i_1.toInt) (hmu1 : (n_ho.toInt - i_1.toInt) < ((n1 + 1 : Nat) : Int)) (t_3 : i_1.toInt < n_ho.toInt) (t_7 : x_4.toInt = v1.toInt) (t_14 : x_11.toInt = v2.toInt) (t_20 : x_18.toInt = j_1.toInt + 1) (t_23 : x_21.toInt = i_1.toInt + 1) : x_18.toInt = j_1.toInt + 1 := by
  have := rg_rng n_tr; have := rg_rng n_ho; have := rg_rng v1; have := rg_rng v2; have := rg_rng i_1; have := rg_rng j_1; have := rg_rng x_4; have := rg_rng x_11; have := rg_rng x_18; have := rg_rng x_21; omega
set_option maxHeartbeats 4000000 in
set_option maxRecDepth 100000 in
theorem kX2_tapsOf (l : Launch) (dC : Nat → ClassId) (dI : Nat → Nat → Nat) (sz : Nat) (h0 : Nat) (g_node : Nat) (g_girth : Nat) (g_gave : Nat) (g_holeTree : Nat) (g_holeAngle : Nat) (g_holeYear : Nat) (n_tr : Int32) (n_ho : Int32) (k_holeTree : ClassId) (k_holeYear : ClassId) (f_holeTree : Nat → Int32) (f_holeYear : Nat → Int32) (v1 : Int32) (v2 : Int32) (yg : 0 ≤ n_tr.toInt ∧ n_tr.toInt ≤ 60 ∧ 0 ≤ n_ho.toInt ∧ n_ho.toInt ≤ 300) : Met l yX2_tapsOf (Cond.code yX2_tapsOf cX2_tapsOf 5 (some .int) :: bg) ({ frames := 0, cells := 0, slots := 0, locals := 0 }) (pcW dC dI [.ref h0, .int v1, .int v2] sz [(h0, .inr (2, [.ref g_node, .ref g_girth, .ref g_gave, .ref g_holeTree, .ref g_holeAngle, .ref g_holeYear, .int n_tr, .int n_ho])), (g_holeTree, .inl (k_holeTree, 300, .inl f_holeTree)), (g_holeYear, .inl (k_holeYear, 300, .inl f_holeYear))] [(k_holeTree, .int), (k_holeYear, .int)]) (va_Qi (fun (r : Int32) (u : Unit) => r.toInt = cntB (fun k => decide (f_holeTree k = v1 ∧ f_holeYear k = v2)) (Int32.toNatClampNeg n_ho) ∧ 0 ≤ r.toInt ∧ r.toInt ≤ n_ho.toInt) (fun (u : Unit) (t : State) => va_P (dC, dI) vwCl [(h0, .inr (2, [.ref g_node, .ref g_girth, .ref g_gave, .ref g_holeTree, .ref g_holeAngle, .ref g_holeYear, .int n_tr, .int n_ho])), (g_holeTree, .inl (k_holeTree, 300, .inl f_holeTree)), (g_holeYear, .inl (k_holeYear, 300, .inl f_holeYear))] t.heap ∧ va_K (dC, dI) vwCl [(k_holeTree, .int), (k_holeYear, .int)] t ∧ va_D (va_A [(h0, .inr (2, [.ref g_node, .ref g_girth, .ref g_gave, .ref g_holeTree, .ref g_holeAngle, .ref g_holeYear, .int n_tr, .int n_ho])), (g_holeTree, .inl (k_holeTree, 300, .inl f_holeTree)), (g_holeYear, .inl (k_holeYear, 300, .inl f_holeYear))] sz) [(h0, .inr (2, [.ref g_node, .ref g_girth, .ref g_gave, .ref g_holeTree, .ref g_holeAngle, .ref g_holeYear, .int n_tr, .int n_ho])), (g_holeTree, .inl (k_holeTree, 300, .inl f_holeTree)), (g_holeYear, .inl (k_holeYear, 300, .inl f_holeYear))]) (va_A [(h0, .inr (2, [.ref g_node, .ref g_girth, .ref g_gave, .ref g_holeTree, .ref g_holeAngle, .ref g_holeYear, .int n_tr, .int n_ho])), (g_holeTree, .inl (k_holeTree, 300, .inl f_holeTree)), (g_holeYear, .inl (k_holeYear, 300, .inl f_holeYear))] sz)) 0 0 (va_A [(h0, .inr (2, [.ref g_node, .ref g_girth, .ref g_gave, .ref g_holeTree, .ref g_holeAngle, .ref g_holeYear, .int n_tr, .int n_ho])), (g_holeTree, .inl (k_holeTree, 300, .inl f_holeTree)), (g_holeYear, .inl (k_holeYear, 300, .inl f_holeYear))] sz) := by
  refine Met.ofW (cc := cX2_tapsOf) (maxL := 5) (ret := (some .int)) pnX2 rfl ?_
  intro p e s m args below meth c s₁ B hml hv
  obtain ⟨rfl, hsz, hP, hK, hD0, hN⟩ := hv
  have hx := B.exec
  have hb := B.bytes
  have hr := B.returns
  have htb : ∀ w ∈ bg, w.before [.ref h0, .int v1, .int v2].toArray s = true := fun w h => atoms_spec (ws := Cond.code yX2_tapsOf cX2_tapsOf 5 (some .int) :: bg) B.pre w (List.mem_cons_of_mem _ h)
  have hown : s.vm.findClass RX2 = some m.cls := findClass_of_methodNamed B.named
  have hlocks := B.notSynchronized
  subst hsz
  have hD := hD0.self (sz := s.heap.size)
  generalize hAe : va_A [(h0, .inr (2, [.ref g_node, .ref g_girth, .ref g_gave, .ref g_holeTree, .ref g_holeAngle, .ref g_holeYear, .int n_tr, .int n_ho])), (g_holeTree, .inl (k_holeTree, 300, .inl f_holeTree)), (g_holeYear, .inl (k_holeYear, 300, .inl f_holeYear))] s.heap.size = A at hD ⊢
  have hA : ∀ q : Nat, s.heap.size ≤ q → A q := fun q h => by rw [← hAe]; exact Or.inr h
  have hS : va_S A s.heap s.heap [] := va_S.rf
  have hl := lv_entry ([.ref h0, .int v1, .int v2]) (n := 5) (Nat.le_of_ble_eq_true rfl)
  rw [lg_entry_eq]
  generalize (lg_sl ([.ref h0, .int v1, .int v2]) ++ List.replicate (5 - (lg_sl ([.ref h0, .int v1, .int v2])).length) Slot.unset).toArray = ls at hl ⊢
  change lv_has ls 5 [(0, .ref h0), (1, .int v1), (2, .int v2)] at hl
  clear hD0 hAe
  refine go0 (wsP := fun H => va_P (dC, dI) vwCl [(h0, .inr (2, [.ref g_node, .ref g_girth, .ref g_gave, .ref g_holeTree, .ref g_holeAngle, .ref g_holeYear, .int n_tr, .int n_ho])), (g_holeTree, .inl (k_holeTree, 300, .inl f_holeTree)), (g_holeYear, .inl (k_holeYear, 300, .inl f_holeYear))] H) hP hS ?_
  clear hP hS; intro H locs hP hS
  change va_P (dC, dI) vwCl [(h0, .inr (2, [.ref g_node, .ref g_girth, .ref g_gave, .ref g_holeTree, .ref g_holeAngle, .ref g_holeYear, .int n_tr, .int n_ho])), (g_holeTree, .inl (k_holeTree, 300, .inl f_holeTree)), (g_holeYear, .inl (k_holeYear, 300, .inl f_holeYear))] H at hP
  refine lv_iconst (v := 0) hx hb dX2_tapsOf_0 (by decide) ?_
  refine lv_istore_n (lv' := [(3, .int 0), (0, .ref h0), (1, .int v1), (2, .int v2)]) hx hb dX2_tapsOf_1 rfl hl (by decide) rfl ?_
  clear hl; intro ls hl
  refine lv_iconst (v := 0) hx hb dX2_tapsOf_2 (by decide) ?_
  refine lv_istore (lv' := [(4, .int 0), (3, .int 0), (0, .ref h0), (1, .int v1), (2, .int v2)]) hx hb dX2_tapsOf_3 hl (by decide) rfl ?_
  clear hl; intro ls hl
  refine (fun (lp : ∀ (n1 : Nat) (i_1 : Int32) (j_1 : Int32) (H : Heap) (locs : List Loc) (ls : Array Slot), (n_ho.toInt - i_1.toInt) < (n1 : Int) → (0 ≤ i_1.toInt ∧ i_1.toInt ≤ n_ho.toInt) → (0 ≤ j_1.toInt ∧ j_1.toInt ≤ i_1.toInt) → (Cn (fun k => decide (f_holeTree k = v1 ∧ f_holeYear k = v2)) i_1 j_1) → lv_has ls 5 [(4, .int i_1), (3, .int j_1), (0, .ref h0), (1, .int v1), (2, .int v2)] → va_P (dC, dI) vwCl [(h0, .inr (2, [.ref g_node, .ref g_girth, .ref g_gave, .ref g_holeTree, .ref g_holeAngle, .ref g_holeYear, .int n_tr, .int n_ho])), (g_holeTree, .inl (k_holeTree, 300, .inl f_holeTree)), (g_holeYear, .inl (k_holeYear, 300, .inl f_holeYear))] H → va_D A [(h0, .inr (2, [.ref g_node, .ref g_girth, .ref g_gave, .ref g_holeTree, .ref g_holeAngle, .ref g_holeYear, .int n_tr, .int n_ho])), (g_holeTree, .inl (k_holeTree, 300, .inl f_holeTree)), (g_holeYear, .inl (k_holeYear, 300, .inl f_holeYear))] → va_S A s.heap H locs → W p l e _ s m _ below meth c H locs _ _ _ (F0 m 5 ls [])) => lp (Int.toNat (n_ho.toInt - (0 : Int)) + 1) 0 0   H locs ls ((lg_X2_tapsOf_0 n_tr n_ho yg)) (lg_X2_tapsOf_1 n_tr n_ho yg) (lg_X2_tapsOf_2 n_tr n_ho yg)  Cn_0 hl hP hD hS) ?_
  clear hP hD hS hl
  intro n1
  induction n1 with
  | zero =>
    intro i_1 j_1 H locs ls hmu1 hi1_0 hi1_1  hp1_0 hl hP hD hS
    exact False.elim (lg_X2_tapsOf_3 n_tr n_ho i_1 j_1 yg hi1_0 hi1_1 hmu1)
  | succ n1 ih1 =>
    intro i_1 j_1 H locs ls hmu1 hi1_0 hi1_1  hp1_0 hl hP hD hS
    refine lv_iload hx hb dX2_tapsOf_5 (lv_at hl 0 rfl) ?_
    refine lv_aload_n hx hb dX2_tapsOf_7 rfl (lv_at hl 2 rfl) ?_
    refine va_get (D := (dC, dI)) (ci := 2) (v := .int n_ho) (C := RX2) (T := TX2) (N := 8) hx hb htb iX2 hown hK hP 0 rfl rfl 7 (Nat.le_of_ble_eq_true rfl) (htb _ m_79) (fun _ h9 => h9) rfl dX2_tapsOf_8 ?_
    refine lv_icmp_ge (tgt := 45) hx hb dX2_tapsOf_11 (by decide) (fun c_2 => ?_) (fun c_2 => ?_)
    · have t_3 : n_ho.toInt ≤ i_1.toInt := i_le rfl rfl c_2
      refine lv_iload_n hx hb dX2_tapsOf_45 rfl (lv_at hl 1 rfl) ?_
      refine W.widen (k := 0) (n := 0) (Nat.le_of_ble_eq_true rfl) (Nat.le_of_ble_eq_true rfl) ?_
      have hP9 := hP.sub (ws' := [(h0, .inr (2, [.ref g_node, .ref g_girth, .ref g_gave, .ref g_holeTree, .ref g_holeAngle, .ref g_holeYear, .int n_tr, .int n_ho])), (g_holeTree, .inl (k_holeTree, 300, .inl f_holeTree)), (g_holeYear, .inl (k_holeYear, 300, .inl f_holeYear))]) [0, 1, 2] rfl
      have hD9 := hD.sub (ws' := [(h0, .inr (2, [.ref g_node, .ref g_girth, .ref g_gave, .ref g_holeTree, .ref g_holeAngle, .ref g_holeYear, .int n_tr, .int n_ho])), (g_holeTree, .inl (k_holeTree, 300, .inl f_holeTree)), (g_holeYear, .inl (k_holeYear, 300, .inl f_holeYear))]) [0, 1, 2] (by decide) rfl
      have hK9 := hK.sub (tys' := [(k_holeTree, .int), (k_holeYear, .int)]) [0, 1] rfl
      exact W.iret (v := j_1) hx hb hr (fun t ht hW => ⟨⟨j_1, (), rfl, ⟨Cn_e hp1_0 (lg_X2_tapsOf_4 n_tr n_ho i_1 j_1 n1 yg hi1_0 hi1_1 hmu1 t_3), (lg_X2_tapsOf_5 n_tr n_ho i_1 j_1 n1 yg hi1_0 hi1_1 hmu1 t_3)⟩, ⟨by rw [ht]; exact hP9, va_K.moved hW.alike hK9, hD9⟩⟩, hS.F ht⟩) hS.2.2 dX2_tapsOf_46
    · have t_3 : i_1.toInt < n_ho.toInt := i_nle rfl rfl c_2
      refine lv_aload_n hx hb dX2_tapsOf_14 rfl (lv_at hl 2 rfl) ?_
      refine va_get (D := (dC, dI)) (ci := 2) (v := .ref g_holeTree) (C := RX2) (T := TX2) (N := 8) hx hb htb iX2 hown hK hP 0 rfl rfl 3 (Nat.le_of_ble_eq_true rfl) (htb _ m_74) (fun _ h9 => h9) rfl dX2_tapsOf_15 ?_
      refine lv_iload hx hb dX2_tapsOf_18 (lv_at hl 0 rfl) ?_
      refine va_iald hx hb hK hP 1 0 rfl rfl (i_in rfl (lg_X2_tapsOf_6 n_tr n_ho i_1 j_1 n1 yg hi1_0 hi1_1 hmu1 t_3)) dX2_tapsOf_20 ?_
      refine lv_topi (fun x_4 ex_5 => ?_)
      refine lv_iload_n hx hb dX2_tapsOf_21 rfl (lv_at hl 3 rfl) ?_
      refine lv_icmp_ne (tgt := 39) hx hb dX2_tapsOf_22 (by decide) (fun c_6 => ?_) (fun c_6 => ?_)
      · have t_7 : ¬ x_4.toInt = v1.toInt := i_ne rfl rfl c_6
        obtain ⟨x_8, ex_9⟩ : ∃ y : Int32, y = i_1 + Int32.ofInt 1 := ⟨_, rfl⟩
        have t_10 : x_8.toInt = i_1.toInt + 1 := i_add rfl (by decide) (lg_X2_tapsOf_7 n_tr n_ho v1 i_1 j_1 n1 x_4 yg hi1_0 hi1_1 hmu1 t_3 t_7) ex_9
        refine lv_iinc (v := x_8) (lv' := [(4, .int x_8), (3, .int j_1), (0, .ref h0), (1, .int v1), (2, .int v2)]) hx hb dX2_tapsOf_39 hl (k := 0) rfl ex_9.symm (by decide) rfl ?_
        clear hl; intro ls hl
        refine lv_goto (tgt := 5) hx hb dX2_tapsOf_42 (by decide) ?_
        exact ih1 x_8 j_1  H locs ls (lg_X2_tapsOf_8 n_tr n_ho v1 i_1 j_1 n1 x_4 x_8 yg hi1_0 hi1_1 hmu1 t_3 t_7 t_10) (lg_X2_tapsOf_9 n_tr n_ho v1 i_1 j_1 n1 x_4 x_8 yg hi1_0 hi1_1 hmu1 t_3 t_7 t_10) (lg_X2_tapsOf_10 n_tr n_ho v1 i_1 j_1 n1 x_4 x_8 yg hi1_0 hi1_1 hmu1 t_3 t_7 t_10)  (Cn_f hp1_0 (lg_X2_tapsOf_11 n_tr n_ho f_holeTree f_holeYear v1 v2 i_1 j_1 n1 x_4 x_8 yg hi1_0 hi1_1 hmu1 t_3 t_7 t_10 ex_5) (lg_X2_tapsOf_12 n_tr n_ho v1 i_1 j_1 n1 x_4 x_8 yg hi1_0 hi1_1 hmu1 t_3 t_7 t_10) (lg_X2_tapsOf_13 n_tr n_ho v1 i_1 j_1 n1 x_4 x_8 yg hi1_0 hi1_1 hmu1 t_3 t_7 t_10)) (lv_sub hl [0, 1, 2, 3, 4] rfl) (hP.sub [0, 1, 2] rfl) (hD.sub [0, 1, 2] (by decide) rfl) hS
      · have t_7 : x_4.toInt = v1.toInt := i_eq rfl rfl c_6
        refine lv_aload_n hx hb dX2_tapsOf_25 rfl (lv_at hl 2 rfl) ?_
        refine va_get (D := (dC, dI)) (ci := 2) (v := .ref g_holeYear) (C := RX2) (T := TX2) (N := 8) hx hb htb iX2 hown hK hP 0 rfl rfl 5 (Nat.le_of_ble_eq_true rfl) (htb _ m_76) (fun _ h9 => h9) rfl dX2_tapsOf_26 ?_
        refine lv_iload hx hb dX2_tapsOf_29 (lv_at hl 0 rfl) ?_
        refine va_iald hx hb hK hP 2 1 rfl rfl (i_in rfl (lg_X2_tapsOf_14 n_tr n_ho v1 i_1 j_1 n1 x_4 yg hi1_0 hi1_1 hmu1 t_3 t_7)) dX2_tapsOf_31 ?_
        refine lv_topi (fun x_11 ex_12 => ?_)
        refine lv_iload_n hx hb dX2_tapsOf_32 rfl (lv_at hl 4 rfl) ?_
        refine lv_icmp_ne (tgt := 39) hx hb dX2_tapsOf_33 (by decide) (fun c_13 => ?_) (fun c_13 => ?_)
        · have t_14 : ¬ x_11.toInt = v2.toInt := i_ne rfl rfl c_13
          obtain ⟨x_15, ex_16⟩ : ∃ y : Int32, y = i_1 + Int32.ofInt 1 := ⟨_, rfl⟩
          have t_17 : x_15.toInt = i_1.toInt + 1 := i_add rfl (by decide) (lg_X2_tapsOf_15 n_tr n_ho v1 v2 i_1 j_1 n1 x_4 x_11 yg hi1_0 hi1_1 hmu1 t_3 t_7 t_14) ex_16
          refine lv_iinc (v := x_15) (lv' := [(4, .int x_15), (3, .int j_1), (0, .ref h0), (1, .int v1), (2, .int v2)]) hx hb dX2_tapsOf_39 hl (k := 0) rfl ex_16.symm (by decide) rfl ?_
          clear hl; intro ls hl
          refine lv_goto (tgt := 5) hx hb dX2_tapsOf_42 (by decide) ?_
          exact ih1 x_15 j_1  H locs ls (lg_X2_tapsOf_16 n_tr n_ho v1 v2 i_1 j_1 n1 x_4 x_11 x_15 yg hi1_0 hi1_1 hmu1 t_3 t_7 t_14 t_17) (lg_X2_tapsOf_17 n_tr n_ho v1 v2 i_1 j_1 n1 x_4 x_11 x_15 yg hi1_0 hi1_1 hmu1 t_3 t_7 t_14 t_17) (lg_X2_tapsOf_18 n_tr n_ho v1 v2 i_1 j_1 n1 x_4 x_11 x_15 yg hi1_0 hi1_1 hmu1 t_3 t_7 t_14 t_17)  (Cn_f hp1_0 (lg_X2_tapsOf_19 n_tr n_ho f_holeTree f_holeYear v1 v2 i_1 j_1 n1 x_4 x_11 x_15 yg hi1_0 hi1_1 hmu1 t_3 t_7 t_14 t_17 ex_5 ex_12) (lg_X2_tapsOf_20 n_tr n_ho v1 v2 i_1 j_1 n1 x_4 x_11 x_15 yg hi1_0 hi1_1 hmu1 t_3 t_7 t_14 t_17) (lg_X2_tapsOf_21 n_tr n_ho v1 v2 i_1 j_1 n1 x_4 x_11 x_15 yg hi1_0 hi1_1 hmu1 t_3 t_7 t_14 t_17)) (lv_sub hl [0, 1, 2, 3, 4] rfl) (hP.sub [0, 1, 2] rfl) (hD.sub [0, 1, 2] (by decide) rfl) hS
        · have t_14 : x_11.toInt = v2.toInt := i_eq rfl rfl c_13
          obtain ⟨x_18, ex_19⟩ : ∃ y : Int32, y = j_1 + Int32.ofInt 1 := ⟨_, rfl⟩
          have t_20 : x_18.toInt = j_1.toInt + 1 := i_add rfl (by decide) (lg_X2_tapsOf_22 n_tr n_ho v1 v2 i_1 j_1 n1 x_4 x_11 yg hi1_0 hi1_1 hmu1 t_3 t_7 t_14) ex_19
          refine lv_iinc (v := x_18) (lv' := [(3, .int x_18), (4, .int i_1), (0, .ref h0), (1, .int v1), (2, .int v2)]) hx hb dX2_tapsOf_36 hl (k := 1) rfl ex_19.symm (by decide) rfl ?_
          clear hl; intro ls hl
          obtain ⟨x_21, ex_22⟩ : ∃ y : Int32, y = i_1 + Int32.ofInt 1 := ⟨_, rfl⟩
          have t_23 : x_21.toInt = i_1.toInt + 1 := i_add rfl (by decide) (lg_X2_tapsOf_23 n_tr n_ho v1 v2 i_1 j_1 n1 x_4 x_11 x_18 yg hi1_0 hi1_1 hmu1 t_3 t_7 t_14 t_20) ex_22
          refine lv_iinc (v := x_21) (lv' := [(4, .int x_21), (3, .int x_18), (0, .ref h0), (1, .int v1), (2, .int v2)]) hx hb dX2_tapsOf_39 hl (k := 1) rfl ex_22.symm (by decide) rfl ?_
          clear hl; intro ls hl
          refine lv_goto (tgt := 5) hx hb dX2_tapsOf_42 (by decide) ?_
          exact ih1 x_21 x_18  H locs ls (lg_X2_tapsOf_24 n_tr n_ho v1 v2 i_1 j_1 n1 x_4 x_11 x_18 x_21 yg hi1_0 hi1_1 hmu1 t_3 t_7 t_14 t_20 t_23) (lg_X2_tapsOf_25 n_tr n_ho v1 v2 i_1 j_1 n1 x_4 x_11 x_18 x_21 yg hi1_0 hi1_1 hmu1 t_3 t_7 t_14 t_20 t_23) (lg_X2_tapsOf_26 n_tr n_ho v1 v2 i_1 j_1 n1 x_4 x_11 x_18 x_21 yg hi1_0 hi1_1 hmu1 t_3 t_7 t_14 t_20 t_23)  (Cn_t hp1_0 (lg_X2_tapsOf_27 n_tr n_ho f_holeTree f_holeYear v1 v2 i_1 j_1 n1 x_4 x_11 x_18 x_21 yg hi1_0 hi1_1 hmu1 t_3 t_7 t_14 t_20 t_23 ex_5 ex_12) (lg_X2_tapsOf_28 n_tr n_ho v1 v2 i_1 j_1 n1 x_4 x_11 x_18 x_21 yg hi1_0 hi1_1 hmu1 t_3 t_7 t_14 t_20 t_23) (lg_X2_tapsOf_29 n_tr n_ho v1 v2 i_1 j_1 n1 x_4 x_11 x_18 x_21 yg hi1_0 hi1_1 hmu1 t_3 t_7 t_14 t_20 t_23)) (lv_sub hl [0, 1, 2, 3, 4] rfl) (hP.sub [0, 1, 2] rfl) (hD.sub [0, 1, 2] (by decide) rfl) hS

theorem lg_X8_takeOut_0 (n_p : Int32) (v1 : Int32) (yt : 0 ≤ n_p.toInt ∧ n_p.toInt ≤ 20000) (yv : 0 ≤ v1.toInt) (t_2 : v1.toInt ≤ n_p.toInt) : -2147483648 ≤ n_p.toInt - v1.toInt ∧ n_p.toInt - v1.toInt < 2147483648 := by
  have := rg_rng n_p; have := rg_rng v1; omega
theorem lg_X8_takeOut_1 (n_p : Int32) (v1 : Int32) (x_3 : Int32) (yt : 0 ≤ n_p.toInt ∧ n_p.toInt ≤ 20000) (yv : 0 ≤ v1.toInt) (t_2 : v1.toInt ≤ n_p.toInt) (t_5 : x_3.toInt = n_p.toInt - v1.toInt) : 0 ≤ x_3.toInt ∧ x_3.toInt ≤ 20000 := by
  have := rg_rng n_p; have := rg_rng v1; have := rg_rng x_3; omega
theorem lg_X8_takeOut_2 (n_p : Int32) (v1 : Int32) (x_3 : Int32) (yt : 0 ≤ n_p.toInt ∧ n_p.toInt ≤ 20000) (yv : 0 ≤ v1.toInt) (t_2 : v1.toInt ≤ n_p.toInt) (t_5 : x_3.toInt = n_p.toInt - v1.toInt) : v1.toInt ≤ n_p.toInt := by
  have := rg_rng n_p; have := rg_rng v1; have := rg_rng x_3; omega
theorem lg_X8_takeOut_3 (n_p : Int32) (v1 : Int32) (yt : 0 ≤ n_p.toInt ∧ n_p.toInt ≤ 20000) (yv : 0 ≤ v1.toInt) (t_2 : n_p.toInt < v1.toInt) : 0 ≤ n_p.toInt ∧ n_p.toInt ≤ 20000 := by
  have := rg_rng n_p; have := rg_rng v1; omega
theorem lg_X8_takeOut_4 (n_p : Int32) (v1 : Int32) (yt : 0 ≤ n_p.toInt ∧ n_p.toInt ≤ 20000) (yv : 0 ≤ v1.toInt) (t_2 : n_p.toInt < v1.toInt) : n_p.toInt < v1.toInt := by
  have := rg_rng n_p; have := rg_rng v1; omega
set_option maxHeartbeats 4000000 in
set_option maxRecDepth 100000 in
theorem kX8_takeOut (l : Launch) (dC : Nat → ClassId) (dI : Nat → Nat → Nat) (sz : Nat) (h0 : Nat) (n_p : Int32) (n_s : Int32) (n_l : Int32) (n_c : Int32) (v1 : Int32) (yt : 0 ≤ n_p.toInt ∧ n_p.toInt ≤ 20000) (yv : 0 ≤ v1.toInt) : Met l yX8_takeOut (Cond.code yX8_takeOut cX8_takeOut 2 (some .boolean) :: bg) ({ frames := 0, cells := 0, slots := 0, locals := 0 }) (pcW dC dI [.ref h0, .int v1] sz [(h0, .inr (8, [.int n_p, .int n_s, .int n_l, .int n_c]))] []) (va_Qi (fun (r : Int32) (u : Unit) => (r = 1 ∧ v1.toInt ≤ n_p.toInt) ∨ (r = 0 ∧ n_p.toInt < v1.toInt)) (fun (u : Unit) (t : State) => ∃ (w_p : Int32), (0 ≤ w_p.toInt ∧ w_p.toInt ≤ 20000) ∧ va_P (dC, dI) vwCl [(h0, .inr (8, [.int w_p, .int n_s, .int n_l, .int n_c]))] t.heap ∧ va_K (dC, dI) vwCl [] t ∧ va_D (va_A [(h0, .inr (8, [.int n_p, .int n_s, .int n_l, .int n_c]))] sz) [(h0, .inr (8, [.int w_p, .int n_s, .int n_l, .int n_c]))]) (va_A [(h0, .inr (8, [.int n_p, .int n_s, .int n_l, .int n_c]))] sz)) 0 0 (va_A [(h0, .inr (8, [.int n_p, .int n_s, .int n_l, .int n_c]))] sz) := by
  refine Met.ofW (cc := cX8_takeOut) (maxL := 2) (ret := (some .boolean)) pnX8 rfl ?_
  intro p e s m args below meth c s₁ B hml hv
  obtain ⟨rfl, hsz, hP, hK, hD0, hN⟩ := hv
  have hx := B.exec
  have hb := B.bytes
  have hr := B.returns
  have htb : ∀ w ∈ bg, w.before [.ref h0, .int v1].toArray s = true := fun w h => atoms_spec (ws := Cond.code yX8_takeOut cX8_takeOut 2 (some .boolean) :: bg) B.pre w (List.mem_cons_of_mem _ h)
  have hown : s.vm.findClass RX8 = some m.cls := findClass_of_methodNamed B.named
  have hlocks := B.notSynchronized
  subst hsz
  have hD := hD0.self (sz := s.heap.size)
  generalize hAe : va_A [(h0, .inr (8, [.int n_p, .int n_s, .int n_l, .int n_c]))] s.heap.size = A at hD ⊢
  have hA : ∀ q : Nat, s.heap.size ≤ q → A q := fun q h => by rw [← hAe]; exact Or.inr h
  have hS : va_S A s.heap s.heap [] := va_S.rf
  have hl := lv_entry ([.ref h0, .int v1]) (n := 2) (Nat.le_of_ble_eq_true rfl)
  rw [lg_entry_eq]
  generalize (lg_sl ([.ref h0, .int v1]) ++ List.replicate (2 - (lg_sl ([.ref h0, .int v1])).length) Slot.unset).toArray = ls at hl ⊢
  change lv_has ls 2 [(0, .ref h0), (1, .int v1)] at hl
  clear hD0 hAe
  refine go0 (wsP := fun H => va_P (dC, dI) vwCl [(h0, .inr (8, [.int n_p, .int n_s, .int n_l, .int n_c]))] H) hP hS ?_
  clear hP hS; intro H locs hP hS
  change va_P (dC, dI) vwCl [(h0, .inr (8, [.int n_p, .int n_s, .int n_l, .int n_c]))] H at hP
  refine lv_iload_n hx hb dX8_takeOut_0 rfl (lv_at hl 1 rfl) ?_
  refine lv_aload_n hx hb dX8_takeOut_1 rfl (lv_at hl 0 rfl) ?_
  refine va_get (D := (dC, dI)) (ci := 8) (v := .int n_p) (C := RX8) (T := TX8) (N := 4) hx hb htb iX8 hown hK hP 0 rfl rfl 0 (Nat.le_of_ble_eq_true rfl) (htb _ m_139) (fun _ h9 => h9) rfl dX8_takeOut_2 ?_
  refine lv_icmp_le (tgt := 10) hx hb dX8_takeOut_5 (by decide) (fun c_1 => ?_) (fun c_1 => ?_)
  · have t_2 : v1.toInt ≤ n_p.toInt := i_le rfl rfl c_1
    refine lv_aload_n hx hb dX8_takeOut_10 rfl (lv_at hl 0 rfl) ?_
    refine lv_dup hx hb dX8_takeOut_11 rfl ?_
    refine va_get (D := (dC, dI)) (ci := 8) (v := .int n_p) (C := RX8) (T := TX8) (N := 4) hx hb htb iX8 hown hK hP 0 rfl rfl 0 (Nat.le_of_ble_eq_true rfl) (htb _ m_139) (fun _ h9 => h9) rfl dX8_takeOut_12 ?_
    refine lv_iload_n hx hb dX8_takeOut_15 rfl (lv_at hl 1 rfl) ?_
    refine lv_isub hx hb dX8_takeOut_16 ?_
    refine lv_topi (fun x_3 ex_4 => ?_)
    have t_5 : x_3.toInt = n_p.toInt - v1.toInt := i_sub rfl rfl (lg_X8_takeOut_0 n_p v1 yt yv t_2) ex_4
    refine va_put (D := (dC, dI)) (ci := 8) (v := .int x_3) (C := RX8) (T := TX8) (N := 4) hx hb htb iX8 tyX8 tyX8_ok nmX8 hown hK hP hD hS 0 rfl rfl 0 (Nat.le_of_ble_eq_true rfl) (htb _ m_139) (fun _ h9 => h9) rfl (tyX8_ok 0 (Nat.le_of_ble_eq_true rfl)) rfl rfl (Nat.le_of_ble_eq_true rfl) dX8_takeOut_17 ?_
    clear hP hD hS; intro H locs hP hD hS
    change va_P (dC, dI) vwCl [(h0, .inr (8, [.int x_3, .int n_s, .int n_l, .int n_c]))] H at hP
    change va_D A [(h0, .inr (8, [.int x_3, .int n_s, .int n_l, .int n_c]))] at hD
    refine lv_iconst (v := 1) hx hb dX8_takeOut_20 (by decide) ?_
    refine W.widen (k := 0) (n := 0) (Nat.le_of_ble_eq_true rfl) (Nat.le_of_ble_eq_true rfl) ?_
    have hP9 := hP.sub (ws' := [(h0, .inr (8, [.int x_3, .int n_s, .int n_l, .int n_c]))]) [0] rfl
    have hD9 := hD.sub (ws' := [(h0, .inr (8, [.int x_3, .int n_s, .int n_l, .int n_c]))]) [0] (by decide) rfl
    have hK9 := hK.sub (tys' := []) [] rfl
    exact W.zret (ty := .boolean) (v := 1) hx hb hr rfl (fun t ht hW => ⟨⟨1, (), rfl, (Or.inl ⟨rfl, (lg_X8_takeOut_2 n_p v1 x_3 yt yv t_2 t_5)⟩), ⟨x_3, (lg_X8_takeOut_1 n_p v1 x_3 yt yv t_2 t_5), by rw [ht]; exact hP9, va_K.moved hW.alike hK9, hD9⟩⟩, hS.F ht⟩) hS.2.2 dX8_takeOut_21
  · have t_2 : n_p.toInt < v1.toInt := i_nle rfl rfl c_1
    refine lv_iconst (v := 0) hx hb dX8_takeOut_8 (by decide) ?_
    refine W.widen (k := 0) (n := 0) (Nat.le_of_ble_eq_true rfl) (Nat.le_of_ble_eq_true rfl) ?_
    have hP9 := hP.sub (ws' := [(h0, .inr (8, [.int n_p, .int n_s, .int n_l, .int n_c]))]) [0] rfl
    have hD9 := hD.sub (ws' := [(h0, .inr (8, [.int n_p, .int n_s, .int n_l, .int n_c]))]) [0] (by decide) rfl
    have hK9 := hK.sub (tys' := []) [] rfl
    exact W.zret (ty := .boolean) (v := 0) hx hb hr rfl (fun t ht hW => ⟨⟨0, (), rfl, (Or.inr (⟨rfl, (lg_X8_takeOut_4 n_p v1 yt yv t_2)⟩)), ⟨n_p, (lg_X8_takeOut_3 n_p v1 yt yv t_2), by rw [ht]; exact hP9, va_K.moved hW.alike hK9, hD9⟩⟩, hS.F ht⟩) hS.2.2 dX8_takeOut_9

set_option maxHeartbeats 4000000 in
set_option maxRecDepth 100000 in
theorem kX8_drain (l : Launch) (dC : Nat → ClassId) (dI : Nat → Nat → Nat) (sz : Nat) (h0 : Nat) (n_p : Int32) (n_s : Int32) (n_l : Int32) (n_c : Int32) : Met l yX8_drain (Cond.code yX8_drain cX8_drain 1 none :: bg) ({ frames := 0, cells := 0, slots := 0, locals := 0 }) (pcW dC dI [.ref h0] sz [(h0, .inr (8, [.int n_p, .int n_s, .int n_l, .int n_c]))] []) (va_Qv (fun (u : Unit) => True) (fun (u : Unit) (t : State) => va_P (dC, dI) vwCl [(h0, .inr (8, [.int 0, .int n_s, .int n_l, .int n_c]))] t.heap ∧ va_K (dC, dI) vwCl [] t ∧ va_D (va_A [(h0, .inr (8, [.int n_p, .int n_s, .int n_l, .int n_c]))] sz) [(h0, .inr (8, [.int 0, .int n_s, .int n_l, .int n_c]))]) (va_A [(h0, .inr (8, [.int n_p, .int n_s, .int n_l, .int n_c]))] sz)) 0 0 (va_A [(h0, .inr (8, [.int n_p, .int n_s, .int n_l, .int n_c]))] sz) := by
  refine Met.ofW (cc := cX8_drain) (maxL := 1) (ret := none) pnX8 rfl ?_
  intro p e s m args below meth c s₁ B hml hv
  obtain ⟨rfl, hsz, hP, hK, hD0, hN⟩ := hv
  have hx := B.exec
  have hb := B.bytes
  have hr := B.returns
  have htb : ∀ w ∈ bg, w.before [.ref h0].toArray s = true := fun w h => atoms_spec (ws := Cond.code yX8_drain cX8_drain 1 none :: bg) B.pre w (List.mem_cons_of_mem _ h)
  have hown : s.vm.findClass RX8 = some m.cls := findClass_of_methodNamed B.named
  have hlocks := B.notSynchronized
  subst hsz
  have hD := hD0.self (sz := s.heap.size)
  generalize hAe : va_A [(h0, .inr (8, [.int n_p, .int n_s, .int n_l, .int n_c]))] s.heap.size = A at hD ⊢
  have hA : ∀ q : Nat, s.heap.size ≤ q → A q := fun q h => by rw [← hAe]; exact Or.inr h
  have hS : va_S A s.heap s.heap [] := va_S.rf
  have hl := lv_entry ([.ref h0]) (n := 1) (Nat.le_of_ble_eq_true rfl)
  rw [lg_entry_eq]
  generalize (lg_sl ([.ref h0]) ++ List.replicate (1 - (lg_sl ([.ref h0])).length) Slot.unset).toArray = ls at hl ⊢
  change lv_has ls 1 [(0, .ref h0)] at hl
  clear hD0 hAe
  refine go0 (wsP := fun H => va_P (dC, dI) vwCl [(h0, .inr (8, [.int n_p, .int n_s, .int n_l, .int n_c]))] H) hP hS ?_
  clear hP hS; intro H locs hP hS
  change va_P (dC, dI) vwCl [(h0, .inr (8, [.int n_p, .int n_s, .int n_l, .int n_c]))] H at hP
  refine lv_aload_n hx hb dX8_drain_0 rfl (lv_at hl 0 rfl) ?_
  refine lv_iconst (v := 0) hx hb dX8_drain_1 (by decide) ?_
  refine va_put (D := (dC, dI)) (ci := 8) (v := .int 0) (C := RX8) (T := TX8) (N := 4) hx hb htb iX8 tyX8 tyX8_ok nmX8 hown hK hP hD hS 0 rfl rfl 0 (Nat.le_of_ble_eq_true rfl) (htb _ m_139) (fun _ h9 => h9) rfl (tyX8_ok 0 (Nat.le_of_ble_eq_true rfl)) rfl rfl (Nat.le_of_ble_eq_true rfl) dX8_drain_2 ?_
  clear hP hD hS; intro H locs hP hD hS
  change va_P (dC, dI) vwCl [(h0, .inr (8, [.int 0, .int n_s, .int n_l, .int n_c]))] H at hP
  change va_D A [(h0, .inr (8, [.int 0, .int n_s, .int n_l, .int n_c]))] at hD
  refine W.widen (k := 0) (n := 0) (Nat.le_of_ble_eq_true rfl) (Nat.le_of_ble_eq_true rfl) ?_
  have hP9 := hP.sub (ws' := [(h0, .inr (8, [.int 0, .int n_s, .int n_l, .int n_c]))]) [0] rfl
  have hD9 := hD.sub (ws' := [(h0, .inr (8, [.int 0, .int n_s, .int n_l, .int n_c]))]) [0] (by decide) rfl
  have hK9 := hK.sub (tys' := []) [] rfl
  exact W.vret hx hb hr (fun t ht hW => ⟨⟨(), rfl, trivial, ⟨by rw [ht]; exact hP9, va_K.moved hW.alike hK9, hD9⟩⟩, hS.F ht⟩) hS.2.2 dX8_drain_5

theorem lg_X10_has_0 (n_tb : Int32) (v1 : Int32) (t_2 : v1.toInt < (0 : Int)) : ¬ (0 ≤ v1.toInt ∧ v1.toInt < n_tb.toInt) := by
  have := rg_rng n_tb; have := rg_rng v1; omega
theorem lg_X10_has_1 (n_tb : Int32) (v1 : Int32) (t_2 : (0 : Int) ≤ v1.toInt) (t_4 : n_tb.toInt ≤ v1.toInt) : ¬ (0 ≤ v1.toInt ∧ v1.toInt < n_tb.toInt) := by
  have := rg_rng n_tb; have := rg_rng v1; omega
theorem lg_X10_has_2 (n_tb : Int32) (v1 : Int32) (t_2 : (0 : Int) ≤ v1.toInt) (t_4 : v1.toInt < n_tb.toInt) : 0 ≤ v1.toInt ∧ v1.toInt < n_tb.toInt := by
  have := rg_rng n_tb; have := rg_rng v1; omega
set_option maxHeartbeats 4000000 in
set_option maxRecDepth 100000 in
theorem kX10_has (l : Launch) (dC : Nat → ClassId) (dI : Nat → Nat → Nat) (sz : Nat) (h0 : Nat) (t_to : Nat) (t_height : Nat) (t_member : Nat) (t_lengthHome : Nat) (t_runs : Nat) (t_leak : Nat) (t_vacuum : Nat) (t_reading : Nat) (n_tb : Int32) (v1 : Int32) : Met l yX10_has (Cond.code yX10_has cX10_has 2 (some .boolean) :: bg) ({ frames := 0, cells := 0, slots := 0, locals := 0 }) (pcW dC dI [.ref h0, .int v1] sz [(h0, .inr (10, [.ref t_to, .ref t_height, .ref t_member, .ref t_lengthHome, .ref t_runs, .ref t_leak, .ref t_vacuum, .ref t_reading, .int n_tb]))] []) (va_Qi (fun (r : Int32) (u : Unit) => (r = 1 ∧ 0 ≤ v1.toInt ∧ v1.toInt < n_tb.toInt) ∨ (r = 0 ∧ ¬ (0 ≤ v1.toInt ∧ v1.toInt < n_tb.toInt))) (fun (u : Unit) (t : State) => va_P (dC, dI) vwCl [(h0, .inr (10, [.ref t_to, .ref t_height, .ref t_member, .ref t_lengthHome, .ref t_runs, .ref t_leak, .ref t_vacuum, .ref t_reading, .int n_tb]))] t.heap ∧ va_K (dC, dI) vwCl [] t ∧ va_D (va_A [(h0, .inr (10, [.ref t_to, .ref t_height, .ref t_member, .ref t_lengthHome, .ref t_runs, .ref t_leak, .ref t_vacuum, .ref t_reading, .int n_tb]))] sz) [(h0, .inr (10, [.ref t_to, .ref t_height, .ref t_member, .ref t_lengthHome, .ref t_runs, .ref t_leak, .ref t_vacuum, .ref t_reading, .int n_tb]))]) (va_A [(h0, .inr (10, [.ref t_to, .ref t_height, .ref t_member, .ref t_lengthHome, .ref t_runs, .ref t_leak, .ref t_vacuum, .ref t_reading, .int n_tb]))] sz)) 0 0 (va_A [(h0, .inr (10, [.ref t_to, .ref t_height, .ref t_member, .ref t_lengthHome, .ref t_runs, .ref t_leak, .ref t_vacuum, .ref t_reading, .int n_tb]))] sz) := by
  refine Met.ofW (cc := cX10_has) (maxL := 2) (ret := (some .boolean)) pnX10 rfl ?_
  intro p e s m args below meth c s₁ B hml hv
  obtain ⟨rfl, hsz, hP, hK, hD0, hN⟩ := hv
  have hx := B.exec
  have hb := B.bytes
  have hr := B.returns
  have htb : ∀ w ∈ bg, w.before [.ref h0, .int v1].toArray s = true := fun w h => atoms_spec (ws := Cond.code yX10_has cX10_has 2 (some .boolean) :: bg) B.pre w (List.mem_cons_of_mem _ h)
  have hown : s.vm.findClass RX10 = some m.cls := findClass_of_methodNamed B.named
  have hlocks := B.notSynchronized
  subst hsz
  have hD := hD0.self (sz := s.heap.size)
  generalize hAe : va_A [(h0, .inr (10, [.ref t_to, .ref t_height, .ref t_member, .ref t_lengthHome, .ref t_runs, .ref t_leak, .ref t_vacuum, .ref t_reading, .int n_tb]))] s.heap.size = A at hD ⊢
  have hA : ∀ q : Nat, s.heap.size ≤ q → A q := fun q h => by rw [← hAe]; exact Or.inr h
  have hS : va_S A s.heap s.heap [] := va_S.rf
  have hl := lv_entry ([.ref h0, .int v1]) (n := 2) (Nat.le_of_ble_eq_true rfl)
  rw [lg_entry_eq]
  generalize (lg_sl ([.ref h0, .int v1]) ++ List.replicate (2 - (lg_sl ([.ref h0, .int v1])).length) Slot.unset).toArray = ls at hl ⊢
  change lv_has ls 2 [(0, .ref h0), (1, .int v1)] at hl
  clear hD0 hAe
  refine go0 (wsP := fun H => va_P (dC, dI) vwCl [(h0, .inr (10, [.ref t_to, .ref t_height, .ref t_member, .ref t_lengthHome, .ref t_runs, .ref t_leak, .ref t_vacuum, .ref t_reading, .int n_tb]))] H) hP hS ?_
  clear hP hS; intro H locs hP hS
  change va_P (dC, dI) vwCl [(h0, .inr (10, [.ref t_to, .ref t_height, .ref t_member, .ref t_lengthHome, .ref t_runs, .ref t_leak, .ref t_vacuum, .ref t_reading, .int n_tb]))] H at hP
  refine lv_iload_n hx hb dX10_has_0 rfl (lv_at hl 1 rfl) ?_
  refine lv_if_lt (tgt := 16) hx hb dX10_has_1 (by decide) (fun c_1 => ?_) (fun c_1 => ?_)
  · have t_2 : v1.toInt < (0 : Int) := i_lt rfl (by decide) c_1
    refine lv_iconst (v := 0) hx hb dX10_has_16 (by decide) ?_
    refine W.widen (k := 0) (n := 0) (Nat.le_of_ble_eq_true rfl) (Nat.le_of_ble_eq_true rfl) ?_
    have hP9 := hP.sub (ws' := [(h0, .inr (10, [.ref t_to, .ref t_height, .ref t_member, .ref t_lengthHome, .ref t_runs, .ref t_leak, .ref t_vacuum, .ref t_reading, .int n_tb]))]) [0] rfl
    have hD9 := hD.sub (ws' := [(h0, .inr (10, [.ref t_to, .ref t_height, .ref t_member, .ref t_lengthHome, .ref t_runs, .ref t_leak, .ref t_vacuum, .ref t_reading, .int n_tb]))]) [0] (by decide) rfl
    have hK9 := hK.sub (tys' := []) [] rfl
    exact W.zret (ty := .boolean) (v := 0) hx hb hr rfl (fun t ht hW => ⟨⟨0, (), rfl, (Or.inr (⟨rfl, (lg_X10_has_0 n_tb v1 t_2)⟩)), ⟨by rw [ht]; exact hP9, va_K.moved hW.alike hK9, hD9⟩⟩, hS.F ht⟩) hS.2.2 dX10_has_17
  · have t_2 : (0 : Int) ≤ v1.toInt := i_nlt rfl (by decide) c_1
    refine lv_iload_n hx hb dX10_has_4 rfl (lv_at hl 1 rfl) ?_
    refine lv_aload_n hx hb dX10_has_5 rfl (lv_at hl 0 rfl) ?_
    refine va_get (D := (dC, dI)) (ci := 10) (v := .int n_tb) (C := RX10) (T := TX10) (N := 9) hx hb htb iX10 hown hK hP 0 rfl rfl 8 (Nat.le_of_ble_eq_true rfl) (htb _ m_42) (fun _ h9 => h9) rfl dX10_has_6 ?_
    refine lv_icmp_ge (tgt := 16) hx hb dX10_has_9 (by decide) (fun c_3 => ?_) (fun c_3 => ?_)
    · have t_4 : n_tb.toInt ≤ v1.toInt := i_le rfl rfl c_3
      refine lv_iconst (v := 0) hx hb dX10_has_16 (by decide) ?_
      refine W.widen (k := 0) (n := 0) (Nat.le_of_ble_eq_true rfl) (Nat.le_of_ble_eq_true rfl) ?_
      have hP9 := hP.sub (ws' := [(h0, .inr (10, [.ref t_to, .ref t_height, .ref t_member, .ref t_lengthHome, .ref t_runs, .ref t_leak, .ref t_vacuum, .ref t_reading, .int n_tb]))]) [0] rfl
      have hD9 := hD.sub (ws' := [(h0, .inr (10, [.ref t_to, .ref t_height, .ref t_member, .ref t_lengthHome, .ref t_runs, .ref t_leak, .ref t_vacuum, .ref t_reading, .int n_tb]))]) [0] (by decide) rfl
      have hK9 := hK.sub (tys' := []) [] rfl
      exact W.zret (ty := .boolean) (v := 0) hx hb hr rfl (fun t ht hW => ⟨⟨0, (), rfl, (Or.inr (⟨rfl, (lg_X10_has_1 n_tb v1 t_2 t_4)⟩)), ⟨by rw [ht]; exact hP9, va_K.moved hW.alike hK9, hD9⟩⟩, hS.F ht⟩) hS.2.2 dX10_has_17
    · have t_4 : v1.toInt < n_tb.toInt := i_nle rfl rfl c_3
      refine lv_iconst (v := 1) hx hb dX10_has_12 (by decide) ?_
      refine lv_goto (tgt := 17) hx hb dX10_has_13 (by decide) ?_
      refine W.widen (k := 0) (n := 0) (Nat.le_of_ble_eq_true rfl) (Nat.le_of_ble_eq_true rfl) ?_
      have hP9 := hP.sub (ws' := [(h0, .inr (10, [.ref t_to, .ref t_height, .ref t_member, .ref t_lengthHome, .ref t_runs, .ref t_leak, .ref t_vacuum, .ref t_reading, .int n_tb]))]) [0] rfl
      have hD9 := hD.sub (ws' := [(h0, .inr (10, [.ref t_to, .ref t_height, .ref t_member, .ref t_lengthHome, .ref t_runs, .ref t_leak, .ref t_vacuum, .ref t_reading, .int n_tb]))]) [0] (by decide) rfl
      have hK9 := hK.sub (tys' := []) [] rfl
      exact W.zret (ty := .boolean) (v := 1) hx hb hr rfl (fun t ht hW => ⟨⟨1, (), rfl, (Or.inl ⟨rfl, (lg_X10_has_2 n_tb v1 t_2 t_4)⟩), ⟨by rw [ht]; exact hP9, va_K.moved hW.alike hK9, hD9⟩⟩, hS.F ht⟩) hS.2.2 dX10_has_17

theorem lg_X10_hasTube_0 (n_tb : Int32) (v1 : Int32) (t_2 : v1.toInt = (0 : Int)) : ¬ (1 ≤ v1.toInt ∧ v1.toInt < n_tb.toInt) := by
  have := rg_rng n_tb; have := rg_rng v1; omega
theorem lg_X10_hasTube_1 (n_tb : Int32) (v1 : Int32) (t_2 : ¬ v1.toInt = (0 : Int)) (h_4 : 0 ≤ v1.toInt ∧ v1.toInt < n_tb.toInt) : 1 ≤ v1.toInt ∧ v1.toInt < n_tb.toInt := by
  have := rg_rng n_tb; have := rg_rng v1; omega
theorem lg_X10_hasTube_2 (n_tb : Int32) (v1 : Int32) (t_2 : ¬ v1.toInt = (0 : Int)) (h_4 : ¬ (0 ≤ v1.toInt ∧ v1.toInt < n_tb.toInt)) : ¬ (1 ≤ v1.toInt ∧ v1.toInt < n_tb.toInt) := by
  have := rg_rng n_tb; have := rg_rng v1; omega
set_option maxHeartbeats 4000000 in
set_option maxRecDepth 100000 in
theorem kX10_hasTube (l : Launch) (dC : Nat → ClassId) (dI : Nat → Nat → Nat) (sz : Nat) (h0 : Nat) (t_to : Nat) (t_height : Nat) (t_member : Nat) (t_lengthHome : Nat) (t_runs : Nat) (t_leak : Nat) (t_vacuum : Nat) (t_reading : Nat) (n_tb : Int32) (v1 : Int32) : Met l yX10_hasTube (Cond.code yX10_hasTube cX10_hasTube 2 (some .boolean) :: bg) ({ frames := 1, cells := 0, slots := 0, locals := 21 }) (pcW dC dI [.ref h0, .int v1] sz [(h0, .inr (10, [.ref t_to, .ref t_height, .ref t_member, .ref t_lengthHome, .ref t_runs, .ref t_leak, .ref t_vacuum, .ref t_reading, .int n_tb]))] []) (va_Qi (fun (r : Int32) (u : Unit) => (r = 1 ∧ 1 ≤ v1.toInt ∧ v1.toInt < n_tb.toInt) ∨ (r = 0 ∧ ¬ (1 ≤ v1.toInt ∧ v1.toInt < n_tb.toInt))) (fun (u : Unit) (t : State) => va_P (dC, dI) vwCl [(h0, .inr (10, [.ref t_to, .ref t_height, .ref t_member, .ref t_lengthHome, .ref t_runs, .ref t_leak, .ref t_vacuum, .ref t_reading, .int n_tb]))] t.heap ∧ va_K (dC, dI) vwCl [] t ∧ va_D (va_A [(h0, .inr (10, [.ref t_to, .ref t_height, .ref t_member, .ref t_lengthHome, .ref t_runs, .ref t_leak, .ref t_vacuum, .ref t_reading, .int n_tb]))] sz) [(h0, .inr (10, [.ref t_to, .ref t_height, .ref t_member, .ref t_lengthHome, .ref t_runs, .ref t_leak, .ref t_vacuum, .ref t_reading, .int n_tb]))]) (va_A [(h0, .inr (10, [.ref t_to, .ref t_height, .ref t_member, .ref t_lengthHome, .ref t_runs, .ref t_leak, .ref t_vacuum, .ref t_reading, .int n_tb]))] sz)) 0 0 (va_A [(h0, .inr (10, [.ref t_to, .ref t_height, .ref t_member, .ref t_lengthHome, .ref t_runs, .ref t_leak, .ref t_vacuum, .ref t_reading, .int n_tb]))] sz) := by
  refine Met.ofW (cc := cX10_hasTube) (maxL := 2) (ret := (some .boolean)) pnX10 rfl ?_
  intro p e s m args below meth c s₁ B hml hv
  obtain ⟨rfl, hsz, hP, hK, hD0, hN⟩ := hv
  have hx := B.exec
  have hb := B.bytes
  have hr := B.returns
  have htb : ∀ w ∈ bg, w.before [.ref h0, .int v1].toArray s = true := fun w h => atoms_spec (ws := Cond.code yX10_hasTube cX10_hasTube 2 (some .boolean) :: bg) B.pre w (List.mem_cons_of_mem _ h)
  have hown : s.vm.findClass RX10 = some m.cls := findClass_of_methodNamed B.named
  have hlocks := B.notSynchronized
  subst hsz
  have hD := hD0.self (sz := s.heap.size)
  generalize hAe : va_A [(h0, .inr (10, [.ref t_to, .ref t_height, .ref t_member, .ref t_lengthHome, .ref t_runs, .ref t_leak, .ref t_vacuum, .ref t_reading, .int n_tb]))] s.heap.size = A at hD ⊢
  have hA : ∀ q : Nat, s.heap.size ≤ q → A q := fun q h => by rw [← hAe]; exact Or.inr h
  have hS : va_S A s.heap s.heap [] := va_S.rf
  have hl := lv_entry ([.ref h0, .int v1]) (n := 2) (Nat.le_of_ble_eq_true rfl)
  rw [lg_entry_eq]
  generalize (lg_sl ([.ref h0, .int v1]) ++ List.replicate (2 - (lg_sl ([.ref h0, .int v1])).length) Slot.unset).toArray = ls at hl ⊢
  change lv_has ls 2 [(0, .ref h0), (1, .int v1)] at hl
  clear hD0 hAe
  refine go0 (wsP := fun H => va_P (dC, dI) vwCl [(h0, .inr (10, [.ref t_to, .ref t_height, .ref t_member, .ref t_lengthHome, .ref t_runs, .ref t_leak, .ref t_vacuum, .ref t_reading, .int n_tb]))] H) hP hS ?_
  clear hP hS; intro H locs hP hS
  change va_P (dC, dI) vwCl [(h0, .inr (10, [.ref t_to, .ref t_height, .ref t_member, .ref t_lengthHome, .ref t_runs, .ref t_leak, .ref t_vacuum, .ref t_reading, .int n_tb]))] H at hP
  refine lv_iload_n hx hb dX10_hasTube_0 rfl (lv_at hl 1 rfl) ?_
  refine lv_if_eq (tgt := 16) hx hb dX10_hasTube_1 (by decide) (fun c_1 => ?_) (fun c_1 => ?_)
  · have t_2 : v1.toInt = (0 : Int) := i_eq rfl (by decide) c_1
    refine lv_iconst (v := 0) hx hb dX10_hasTube_16 (by decide) ?_
    refine W.widen (k := 0) (n := 0) (Nat.le_of_ble_eq_true rfl) (Nat.le_of_ble_eq_true rfl) ?_
    have hP9 := hP.sub (ws' := [(h0, .inr (10, [.ref t_to, .ref t_height, .ref t_member, .ref t_lengthHome, .ref t_runs, .ref t_leak, .ref t_vacuum, .ref t_reading, .int n_tb]))]) [0] rfl
    have hD9 := hD.sub (ws' := [(h0, .inr (10, [.ref t_to, .ref t_height, .ref t_member, .ref t_lengthHome, .ref t_runs, .ref t_leak, .ref t_vacuum, .ref t_reading, .int n_tb]))]) [0] (by decide) rfl
    have hK9 := hK.sub (tys' := []) [] rfl
    exact W.zret (ty := .boolean) (v := 0) hx hb hr rfl (fun t ht hW => ⟨⟨0, (), rfl, (Or.inr (⟨rfl, (lg_X10_hasTube_0 n_tb v1 t_2)⟩)), ⟨by rw [ht]; exact hP9, va_K.moved hW.alike hK9, hD9⟩⟩, hS.F ht⟩) hS.2.2 dX10_hasTube_17
  · have t_2 : ¬ v1.toInt = (0 : Int) := i_ne rfl (by decide) c_1
    refine lv_aload_n hx hb dX10_hasTube_4 rfl (lv_at hl 0 rfl) ?_
    refine lv_iload_n hx hb dX10_hasTube_5 rfl (lv_at hl 1 rfl) ?_
    have hPc := hP.sub (ws' := [(h0, .inr (10, [.ref t_to, .ref t_height, .ref t_member, .ref t_lengthHome, .ref t_runs, .ref t_leak, .ref t_vacuum, .ref t_reading, .int n_tb]))]) [0] rfl
    have hDc := hD.sub (ws' := [(h0, .inr (10, [.ref t_to, .ref t_height, .ref t_member, .ref t_lengthHome, .ref t_runs, .ref t_leak, .ref t_vacuum, .ref t_reading, .int n_tb]))]) [0] (by decide) rfl
    have hKc := hK.sub (tys' := []) [] rfl
    have hFc := va_free (wc := [(h0, .inr (10, [.ref t_to, .ref t_height, .ref t_member, .ref t_lengthHome, .ref t_runs, .ref t_leak, .ref t_vacuum, .ref t_reading, .int n_tb]))]) hD hS hA [0] rfl
    refine va_calli (va_runV (C := RX10) (As := [.int v1]) (rest := []) ⟨hx, hb, hml, hown, htb⟩ (kX10_has l dC dI H.size h0 t_to t_height t_member t_lengthHome t_runs t_leak t_vacuum t_reading n_tb v1 ) ⟨callB_of 1 htb (gd_c m_352) rfl rfl rfl (htb _ m_2) (htb _ m_363) hdX10_has ⟨(Nat.le_of_ble_eq_true rfl), (Nat.le_of_ble_eq_true rfl)⟩, htb _ m_350, htb _ m_351⟩ ⟨pcW_blind, va_recv hKc hPc (ci := 10) (q0 := 0) rfl rfl, pcW_at hPc hKc hDc hN⟩ rfl rfl hl.1 rfl (lv_room (Nat.le_of_ble_eq_true rfl)) dX10_hasTube_6 ⟨(Nat.le_of_ble_eq_true rfl), (Nat.le_of_ble_eq_true rfl)⟩) hS (fun q _ h => hFc q h) hFc (fun r_3 u t H1 locs1 ht hvm h_4 hB hz1 hk1 hS1 => ?_)
    obtain ⟨hP1, hK1, hD1⟩ := hB
    rw [ht] at hP1
    obtain ⟨hPn, hDn⟩ := va_join (wr := []) (w1 := [(h0, .inr (10, [.ref t_to, .ref t_height, .ref t_member, .ref t_lengthHome, .ref t_runs, .ref t_leak, .ref t_vacuum, .ref t_reading, .int n_tb]))]) hP hD [0] [] rfl rfl (by decide) (by decide) hk1 hFc hP1 hD1
    clear hP1 hD1 hK1
    clear hP hD hS hPc hDc hKc hFc hk1 hz1 ht hvm
    clear t
    revert hS1 hPn hDn; generalize H1 = H; generalize locs1 = locs; intro hS hP hD
    change va_P (dC, dI) vwCl [(h0, .inr (10, [.ref t_to, .ref t_height, .ref t_member, .ref t_lengthHome, .ref t_runs, .ref t_leak, .ref t_vacuum, .ref t_reading, .int n_tb]))] H at hP
    change va_D A [(h0, .inr (10, [.ref t_to, .ref t_height, .ref t_member, .ref t_lengthHome, .ref t_runs, .ref t_leak, .ref t_vacuum, .ref t_reading, .int n_tb]))] at hD
    rcases h_4 with ⟨rfl, h_4⟩ | ⟨rfl, h_4⟩
    · refine lv_if_eq (tgt := 16) hx hb dX10_hasTube_9 (by decide) (fun c_5 => absurd c_5 (by decide)) ?_
      intro _
      refine lv_iconst (v := 1) hx hb dX10_hasTube_12 (by decide) ?_
      refine lv_goto (tgt := 17) hx hb dX10_hasTube_13 (by decide) ?_
      refine W.widen (k := 0) (n := 0) (Nat.le_of_ble_eq_true rfl) (Nat.le_of_ble_eq_true rfl) ?_
      have hP9 := hP.sub (ws' := [(h0, .inr (10, [.ref t_to, .ref t_height, .ref t_member, .ref t_lengthHome, .ref t_runs, .ref t_leak, .ref t_vacuum, .ref t_reading, .int n_tb]))]) [0] rfl
      have hD9 := hD.sub (ws' := [(h0, .inr (10, [.ref t_to, .ref t_height, .ref t_member, .ref t_lengthHome, .ref t_runs, .ref t_leak, .ref t_vacuum, .ref t_reading, .int n_tb]))]) [0] (by decide) rfl
      have hK9 := hK.sub (tys' := []) [] rfl
      exact W.zret (ty := .boolean) (v := 1) hx hb hr rfl (fun t ht hW => ⟨⟨1, (), rfl, (Or.inl ⟨rfl, (lg_X10_hasTube_1 n_tb v1 t_2 h_4)⟩), ⟨by rw [ht]; exact hP9, va_K.moved hW.alike hK9, hD9⟩⟩, hS.F ht⟩) hS.2.2 dX10_hasTube_17
    · refine lv_if_eq (tgt := 16) hx hb dX10_hasTube_9 (by decide) ?_ (fun c_6 => absurd (by decide) c_6)
      intro _
      refine lv_iconst (v := 0) hx hb dX10_hasTube_16 (by decide) ?_
      refine W.widen (k := 0) (n := 0) (Nat.le_of_ble_eq_true rfl) (Nat.le_of_ble_eq_true rfl) ?_
      have hP9 := hP.sub (ws' := [(h0, .inr (10, [.ref t_to, .ref t_height, .ref t_member, .ref t_lengthHome, .ref t_runs, .ref t_leak, .ref t_vacuum, .ref t_reading, .int n_tb]))]) [0] rfl
      have hD9 := hD.sub (ws' := [(h0, .inr (10, [.ref t_to, .ref t_height, .ref t_member, .ref t_lengthHome, .ref t_runs, .ref t_leak, .ref t_vacuum, .ref t_reading, .int n_tb]))]) [0] (by decide) rfl
      have hK9 := hK.sub (tys' := []) [] rfl
      exact W.zret (ty := .boolean) (v := 0) hx hb hr rfl (fun t ht hW => ⟨⟨0, (), rfl, (Or.inr (⟨rfl, (lg_X10_hasTube_2 n_tb v1 t_2 h_4)⟩)), ⟨by rw [ht]; exact hP9, va_K.moved hW.alike hK9, hD9⟩⟩, hS.F ht⟩) hS.2.2 dX10_hasTube_17

theorem lg_X10_vacuumAt_0 (n_tb : Int32) (v1 : Int32) (yb : 1 ≤ n_tb.toInt ∧ n_tb.toInt ≤ 40) (h_2 : 0 ≤ v1.toInt ∧ v1.toInt < n_tb.toInt) : 0 ≤ v1.toInt ∧ v1.toInt < ((40 : Nat) : Int) := by
  have := rg_rng n_tb; have := rg_rng v1; omega
theorem lg_X10_vacuumAt_1 (n_tb : Int32) (f_vacuum : Nat → Int32) (v1 : Int32) (x_4 : Int32) (yb : 1 ≤ n_tb.toInt ∧ n_tb.toInt ≤ 40) (h_2 : 0 ≤ v1.toInt ∧ v1.toInt < n_tb.toInt) (t_6 : x_4.toInt = (f_vacuum (Int32.toNatClampNeg v1)).toInt) : 0 ≤ v1.toInt ∧ v1.toInt < ((40 : Nat) : Int) := by
  have := rg_rng n_tb; have := rg_rng v1; have := rg_rng x_4; omega
theorem lg_X10_vacuumAt_2 (n_tb : Int32) (f_vacuum : Nat → Int32) (v1 : Int32) (x_4 : Int32) (yb : 1 ≤ n_tb.toInt ∧ n_tb.toInt ≤ 40) (h_2 : 0 ≤ v1.toInt ∧ v1.toInt < n_tb.toInt) (t_6 : x_4.toInt = (f_vacuum (Int32.toNatClampNeg v1)).toInt) (t_7 : 0 ≤ x_4.toInt ∧ x_4.toInt ≤ 100) : ((0 ≤ v1.toInt ∧ v1.toInt < n_tb.toInt) ∧ x_4.toInt = (f_vacuum (Int32.toNatClampNeg v1)).toInt ∧ 0 ≤ x_4.toInt ∧ x_4.toInt ≤ 100) ∨ (¬ (0 ≤ v1.toInt ∧ v1.toInt < n_tb.toInt) ∧ x_4.toInt = 0) := by
  have := rg_rng n_tb; have := rg_rng v1; have := rg_rng x_4; omega
theorem lg_X10_vacuumAt_3 (n_tb : Int32) (f_vacuum : Nat → Int32) (v1 : Int32) (yb : 1 ≤ n_tb.toInt ∧ n_tb.toInt ≤ 40) (h_2 : ¬ (0 ≤ v1.toInt ∧ v1.toInt < n_tb.toInt)) : ((0 ≤ v1.toInt ∧ v1.toInt < n_tb.toInt) ∧ (0 : Int) = (f_vacuum (Int32.toNatClampNeg v1)).toInt ∧ 0 ≤ (0 : Int) ∧ (0 : Int) ≤ 100) ∨ (¬ (0 ≤ v1.toInt ∧ v1.toInt < n_tb.toInt) ∧ (0 : Int) = 0) := by
  have := rg_rng n_tb; have := rg_rng v1; omega
set_option maxHeartbeats 4000000 in
set_option maxRecDepth 100000 in
theorem kX10_vacuumAt (l : Launch) (dC : Nat → ClassId) (dI : Nat → Nat → Nat) (sz : Nat) (h0 : Nat) (t_to : Nat) (t_height : Nat) (t_member : Nat) (t_lengthHome : Nat) (t_runs : Nat) (t_leak : Nat) (t_vacuum : Nat) (t_reading : Nat) (n_tb : Int32) (k_vacuum : ClassId) (f_vacuum : Nat → Int32) (v1 : Int32) (yb : 1 ≤ n_tb.toInt ∧ n_tb.toInt ≤ 40) (yvac : Rg f_vacuum 40 0 100) : Met l yX10_vacuumAt (Cond.code yX10_vacuumAt cX10_vacuumAt 2 (some .int) :: bg) ({ frames := 1, cells := 0, slots := 0, locals := 21 }) (pcW dC dI [.ref h0, .int v1] sz [(h0, .inr (10, [.ref t_to, .ref t_height, .ref t_member, .ref t_lengthHome, .ref t_runs, .ref t_leak, .ref t_vacuum, .ref t_reading, .int n_tb])), (t_vacuum, .inl (k_vacuum, 40, .inl f_vacuum))] [(k_vacuum, .int)]) (va_Qi (fun (r : Int32) (u : Unit) => ((0 ≤ v1.toInt ∧ v1.toInt < n_tb.toInt) ∧ r.toInt = (f_vacuum (Int32.toNatClampNeg v1)).toInt ∧ 0 ≤ r.toInt ∧ r.toInt ≤ 100) ∨ (¬ (0 ≤ v1.toInt ∧ v1.toInt < n_tb.toInt) ∧ r.toInt = 0)) (fun (u : Unit) (t : State) => va_P (dC, dI) vwCl [(h0, .inr (10, [.ref t_to, .ref t_height, .ref t_member, .ref t_lengthHome, .ref t_runs, .ref t_leak, .ref t_vacuum, .ref t_reading, .int n_tb])), (t_vacuum, .inl (k_vacuum, 40, .inl f_vacuum))] t.heap ∧ va_K (dC, dI) vwCl [(k_vacuum, .int)] t ∧ va_D (va_A [(h0, .inr (10, [.ref t_to, .ref t_height, .ref t_member, .ref t_lengthHome, .ref t_runs, .ref t_leak, .ref t_vacuum, .ref t_reading, .int n_tb])), (t_vacuum, .inl (k_vacuum, 40, .inl f_vacuum))] sz) [(h0, .inr (10, [.ref t_to, .ref t_height, .ref t_member, .ref t_lengthHome, .ref t_runs, .ref t_leak, .ref t_vacuum, .ref t_reading, .int n_tb])), (t_vacuum, .inl (k_vacuum, 40, .inl f_vacuum))]) (va_A [(h0, .inr (10, [.ref t_to, .ref t_height, .ref t_member, .ref t_lengthHome, .ref t_runs, .ref t_leak, .ref t_vacuum, .ref t_reading, .int n_tb])), (t_vacuum, .inl (k_vacuum, 40, .inl f_vacuum))] sz)) 0 0 (va_A [(h0, .inr (10, [.ref t_to, .ref t_height, .ref t_member, .ref t_lengthHome, .ref t_runs, .ref t_leak, .ref t_vacuum, .ref t_reading, .int n_tb])), (t_vacuum, .inl (k_vacuum, 40, .inl f_vacuum))] sz) := by
  refine Met.ofW (cc := cX10_vacuumAt) (maxL := 2) (ret := (some .int)) pnX10 rfl ?_
  intro p e s m args below meth c s₁ B hml hv
  obtain ⟨rfl, hsz, hP, hK, hD0, hN⟩ := hv
  have hx := B.exec
  have hb := B.bytes
  have hr := B.returns
  have htb : ∀ w ∈ bg, w.before [.ref h0, .int v1].toArray s = true := fun w h => atoms_spec (ws := Cond.code yX10_vacuumAt cX10_vacuumAt 2 (some .int) :: bg) B.pre w (List.mem_cons_of_mem _ h)
  have hown : s.vm.findClass RX10 = some m.cls := findClass_of_methodNamed B.named
  have hlocks := B.notSynchronized
  subst hsz
  have hD := hD0.self (sz := s.heap.size)
  generalize hAe : va_A [(h0, .inr (10, [.ref t_to, .ref t_height, .ref t_member, .ref t_lengthHome, .ref t_runs, .ref t_leak, .ref t_vacuum, .ref t_reading, .int n_tb])), (t_vacuum, .inl (k_vacuum, 40, .inl f_vacuum))] s.heap.size = A at hD ⊢
  have hA : ∀ q : Nat, s.heap.size ≤ q → A q := fun q h => by rw [← hAe]; exact Or.inr h
  have hS : va_S A s.heap s.heap [] := va_S.rf
  have hl := lv_entry ([.ref h0, .int v1]) (n := 2) (Nat.le_of_ble_eq_true rfl)
  rw [lg_entry_eq]
  generalize (lg_sl ([.ref h0, .int v1]) ++ List.replicate (2 - (lg_sl ([.ref h0, .int v1])).length) Slot.unset).toArray = ls at hl ⊢
  change lv_has ls 2 [(0, .ref h0), (1, .int v1)] at hl
  clear hD0 hAe
  refine go0 (wsP := fun H => va_P (dC, dI) vwCl [(h0, .inr (10, [.ref t_to, .ref t_height, .ref t_member, .ref t_lengthHome, .ref t_runs, .ref t_leak, .ref t_vacuum, .ref t_reading, .int n_tb])), (t_vacuum, .inl (k_vacuum, 40, .inl f_vacuum))] H) hP hS ?_
  clear hP hS; intro H locs hP hS
  change va_P (dC, dI) vwCl [(h0, .inr (10, [.ref t_to, .ref t_height, .ref t_member, .ref t_lengthHome, .ref t_runs, .ref t_leak, .ref t_vacuum, .ref t_reading, .int n_tb])), (t_vacuum, .inl (k_vacuum, 40, .inl f_vacuum))] H at hP
  refine lv_aload_n hx hb dX10_vacuumAt_0 rfl (lv_at hl 0 rfl) ?_
  refine lv_iload_n hx hb dX10_vacuumAt_1 rfl (lv_at hl 1 rfl) ?_
  have hPc := hP.sub (ws' := [(h0, .inr (10, [.ref t_to, .ref t_height, .ref t_member, .ref t_lengthHome, .ref t_runs, .ref t_leak, .ref t_vacuum, .ref t_reading, .int n_tb]))]) [0] rfl
  have hDc := hD.sub (ws' := [(h0, .inr (10, [.ref t_to, .ref t_height, .ref t_member, .ref t_lengthHome, .ref t_runs, .ref t_leak, .ref t_vacuum, .ref t_reading, .int n_tb]))]) [0] (by decide) rfl
  have hKc := hK.sub (tys' := []) [] rfl
  have hFc := va_free (wc := [(h0, .inr (10, [.ref t_to, .ref t_height, .ref t_member, .ref t_lengthHome, .ref t_runs, .ref t_leak, .ref t_vacuum, .ref t_reading, .int n_tb]))]) hD hS hA [0] rfl
  refine va_calli (va_runV (C := RX10) (As := [.int v1]) (rest := []) ⟨hx, hb, hml, hown, htb⟩ (kX10_has l dC dI H.size h0 t_to t_height t_member t_lengthHome t_runs t_leak t_vacuum t_reading n_tb v1 ) ⟨callB_of 1 htb (gd_c m_352) rfl rfl rfl (htb _ m_2) (htb _ m_363) hdX10_has ⟨(Nat.le_of_ble_eq_true rfl), (Nat.le_of_ble_eq_true rfl)⟩, htb _ m_350, htb _ m_351⟩ ⟨pcW_blind, va_recv hKc hPc (ci := 10) (q0 := 0) rfl rfl, pcW_at hPc hKc hDc hN⟩ rfl rfl hl.1 rfl (lv_room (Nat.le_of_ble_eq_true rfl)) dX10_vacuumAt_2 ⟨(Nat.le_of_ble_eq_true rfl), (Nat.le_of_ble_eq_true rfl)⟩) hS (fun q _ h => hFc q h) hFc (fun r_1 u t H1 locs1 ht hvm h_2 hB hz1 hk1 hS1 => ?_)
  obtain ⟨hP1, hK1, hD1⟩ := hB
  rw [ht] at hP1
  obtain ⟨hPn, hDn⟩ := va_join (wr := [(t_vacuum, .inl (k_vacuum, 40, .inl f_vacuum))]) (w1 := [(h0, .inr (10, [.ref t_to, .ref t_height, .ref t_member, .ref t_lengthHome, .ref t_runs, .ref t_leak, .ref t_vacuum, .ref t_reading, .int n_tb]))]) hP hD [0] [1] rfl rfl (by decide) (by decide) hk1 hFc hP1 hD1
  clear hP1 hD1 hK1
  clear hP hD hS hPc hDc hKc hFc hk1 hz1 ht hvm
  clear t
  revert hS1 hPn hDn; generalize H1 = H; generalize locs1 = locs; intro hS hP hD
  change va_P (dC, dI) vwCl [(t_vacuum, .inl (k_vacuum, 40, .inl f_vacuum)), (h0, .inr (10, [.ref t_to, .ref t_height, .ref t_member, .ref t_lengthHome, .ref t_runs, .ref t_leak, .ref t_vacuum, .ref t_reading, .int n_tb]))] H at hP
  change va_D A [(t_vacuum, .inl (k_vacuum, 40, .inl f_vacuum)), (h0, .inr (10, [.ref t_to, .ref t_height, .ref t_member, .ref t_lengthHome, .ref t_runs, .ref t_leak, .ref t_vacuum, .ref t_reading, .int n_tb]))] at hD
  rcases h_2 with ⟨rfl, h_2⟩ | ⟨rfl, h_2⟩
  · refine lv_if_eq (tgt := 17) hx hb dX10_vacuumAt_5 (by decide) (fun c_3 => absurd c_3 (by decide)) ?_
    intro _
    refine lv_aload_n hx hb dX10_vacuumAt_8 rfl (lv_at hl 0 rfl) ?_
    refine va_get (D := (dC, dI)) (ci := 10) (v := .ref t_vacuum) (C := RX10) (T := TX10) (N := 9) hx hb htb iX10 hown hK hP 1 rfl rfl 6 (Nat.le_of_ble_eq_true rfl) (htb _ m_40) (fun _ h9 => h9) rfl dX10_vacuumAt_9 ?_
    refine lv_iload_n hx hb dX10_vacuumAt_12 rfl (lv_at hl 1 rfl) ?_
    refine va_iald hx hb hK hP 0 0 rfl rfl (i_in rfl (lg_X10_vacuumAt_0 n_tb v1 yb h_2)) dX10_vacuumAt_13 ?_
    refine lv_topi (fun x_4 ex_5 => ?_)
    have t_6 : x_4.toInt = (f_vacuum (Int32.toNatClampNeg v1)).toInt := by rw [ex_5]
    have t_7 : 0 ≤ x_4.toInt ∧ x_4.toInt ≤ 100 := Rg_ld yvac (i_in rfl (lg_X10_vacuumAt_1 n_tb f_vacuum v1 x_4 yb h_2 t_6)) ex_5
    refine lv_goto (tgt := 18) hx hb dX10_vacuumAt_14 (by decide) ?_
    refine W.widen (k := 0) (n := 0) (Nat.le_of_ble_eq_true rfl) (Nat.le_of_ble_eq_true rfl) ?_
    have hP9 := hP.sub (ws' := [(h0, .inr (10, [.ref t_to, .ref t_height, .ref t_member, .ref t_lengthHome, .ref t_runs, .ref t_leak, .ref t_vacuum, .ref t_reading, .int n_tb])), (t_vacuum, .inl (k_vacuum, 40, .inl f_vacuum))]) [1, 0] rfl
    have hD9 := hD.sub (ws' := [(h0, .inr (10, [.ref t_to, .ref t_height, .ref t_member, .ref t_lengthHome, .ref t_runs, .ref t_leak, .ref t_vacuum, .ref t_reading, .int n_tb])), (t_vacuum, .inl (k_vacuum, 40, .inl f_vacuum))]) [1, 0] (by decide) rfl
    have hK9 := hK.sub (tys' := [(k_vacuum, .int)]) [0] rfl
    exact W.iret (v := x_4) hx hb hr (fun t ht hW => ⟨⟨x_4, (), rfl, (lg_X10_vacuumAt_2 n_tb f_vacuum v1 x_4 yb h_2 t_6 t_7), ⟨by rw [ht]; exact hP9, va_K.moved hW.alike hK9, hD9⟩⟩, hS.F ht⟩) hS.2.2 dX10_vacuumAt_18
  · refine lv_if_eq (tgt := 17) hx hb dX10_vacuumAt_5 (by decide) ?_ (fun c_8 => absurd (by decide) c_8)
    intro _
    refine lv_iconst (v := 0) hx hb dX10_vacuumAt_17 (by decide) ?_
    refine W.widen (k := 0) (n := 0) (Nat.le_of_ble_eq_true rfl) (Nat.le_of_ble_eq_true rfl) ?_
    have hP9 := hP.sub (ws' := [(h0, .inr (10, [.ref t_to, .ref t_height, .ref t_member, .ref t_lengthHome, .ref t_runs, .ref t_leak, .ref t_vacuum, .ref t_reading, .int n_tb])), (t_vacuum, .inl (k_vacuum, 40, .inl f_vacuum))]) [1, 0] rfl
    have hD9 := hD.sub (ws' := [(h0, .inr (10, [.ref t_to, .ref t_height, .ref t_member, .ref t_lengthHome, .ref t_runs, .ref t_leak, .ref t_vacuum, .ref t_reading, .int n_tb])), (t_vacuum, .inl (k_vacuum, 40, .inl f_vacuum))]) [1, 0] (by decide) rfl
    have hK9 := hK.sub (tys' := [(k_vacuum, .int)]) [0] rfl
    exact W.iret (v := 0) hx hb hr (fun t ht hW => ⟨⟨0, (), rfl, (lg_X10_vacuumAt_3 n_tb f_vacuum v1 yb h_2), ⟨by rw [ht]; exact hP9, va_K.moved hW.alike hK9, hD9⟩⟩, hS.F ht⟩) hS.2.2 dX10_vacuumAt_18

theorem lg_X10_settleVacuum_0 (n_tb : Int32) (yb : 1 ≤ n_tb.toInt ∧ n_tb.toInt ≤ 40) : (n_tb.toInt - (1 : Int)) < ((Int.toNat (n_tb.toInt - (1 : Int)) + 1 : Nat) : Int) := by
  have := rg_rng n_tb; omega
theorem lg_X10_settleVacuum_1 (n_tb : Int32) (yb : 1 ≤ n_tb.toInt ∧ n_tb.toInt ≤ 40) : 1 ≤ (1 : Int) ∧ (1 : Int) ≤ n_tb.toInt := by
  have := rg_rng n_tb; omega
theorem lg_X10_settleVacuum_2 (n_tb : Int32) (yb : 1 ≤ n_tb.toInt ∧ n_tb.toInt ≤ 40) : (1 : Int) ≤ (1 : Int) := by
  have := rg_rng n_tb; omega
theorem lg_X10_settleVacuum_3 (n_tb : Int32) (i_1 : Int32) (yb : 1 ≤ n_tb.toInt ∧ n_tb.toInt ≤ 40) (hi1_0 : 1 ≤ i_1.toInt ∧ i_1.toInt ≤ n_tb.toInt) (hmu1 : (n_tb.toInt - i_1.toInt) < ((0 : Nat) : Int)) : False := by
  have := rg_rng n_tb; have := rg_rng i_1; omega
theorem lg_X10_settleVacuum_4 (n_tb : Int32) (i_1 : Int32) (n1 : Nat) (yb : 1 ≤ n_tb.toInt ∧ n_tb.toInt ≤ 40) (hi1_0 : 1 ≤ i_1.toInt ∧ i_1.toInt ≤ n_tb.toInt) (hmu1 : (n_tb.toInt - i_1.toInt) < ((n1 + 1 : Nat) : Int)) (t_3 : n_tb.toInt ≤ i_1.toInt) : n_tb.toInt ≤ i_1.toInt := by
  have := rg_rng n_tb; have := rg_rng i_1; omega
theorem lg_X10_settleVacuum_5 (n_tb : Int32) (i_1 : Int32) (n1 : Nat) (yb : 1 ≤ n_tb.toInt ∧ n_tb.toInt ≤ 40) (hi1_0 : 1 ≤ i_1.toInt ∧ i_1.toInt ≤ n_tb.toInt) (hmu1 : (n_tb.toInt - i_1.toInt) < ((n1 + 1 : Nat) : Int)) (t_3 : i_1.toInt < n_tb.toInt) : 0 ≤ i_1.toInt ∧ i_1.toInt < ((40 : Nat) : Int) := by
  have := rg_rng n_tb; have := rg_rng i_1; omega
theorem lg_X10_settleVacuum_6 (n_tb : Int32) (i_1 : Int32) (n1 : Nat) (yb : 1 ≤ n_tb.toInt ∧ n_tb.toInt ≤ 40) (hi1_0 : 1 ≤ i_1.toInt ∧ i_1.toInt ≤ n_tb.toInt) (hmu1 : (n_tb.toInt - i_1.toInt) < ((n1 + 1 : Nat) : Int)) (t_3 : i_1.toInt < n_tb.toInt) : 1 ≤ i_1.toInt ∧ i_1.toInt < n_tb.toInt := by
  have := rg_rng n_tb; have := rg_rng i_1; omega
theorem lg_X10_settleVacuum_7 (n_tb : Int32) (i_1 : Int32) (n1 : Nat) (yb : 1 ≤ n_tb.toInt ∧ n_tb.toInt ≤ 40) (hi1_0 : 1 ≤ i_1.toInt ∧ i_1.toInt ≤ n_tb.toInt) (hmu1 : (n_tb.toInt - i_1.toInt) < ((n1 + 1 : Nat) : Int)) (t_3 : i_1.toInt < n_tb.toInt) : 0 ≤ i_1.toInt ∧ i_1.toInt < 40 := by
  have := rg_rng n_tb; have := rg_rng i_1; omega
theorem lg_X10_settleVacuum_8 (n_tb : Int32) (f_to : Nat → Int32) (i_1 : Int32) (ga_t_vacuum_1 : Nat → Int32) (n1 : Nat) (x_4 : Int32) (r_9 : Int32) (yb : 1 ≤ n_tb.toInt ∧ n_tb.toInt ≤ 40) (hi1_0 : 1 ≤ i_1.toInt ∧ i_1.toInt ≤ n_tb.toInt) (hmu1 : (n_tb.toInt - i_1.toInt) < ((n1 + 1 : Nat) : Int)) (t_3 : i_1.toInt < n_tb.toInt) (t_6 : 0 ≤ x_4.toInt ∧ (x_4.toInt < i_1.toInt ∨ x_4.toInt = 0)) (t_8 : x_4.toInt = (f_to (Int32.toNatClampNeg i_1)).toInt) (h_10 : ((0 ≤ x_4.toInt ∧ x_4.toInt < n_tb.toInt) ∧ r_9.toInt = (ga_t_vacuum_1 (Int32.toNatClampNeg x_4)).toInt ∧ 0 ≤ r_9.toInt ∧ r_9.toInt ≤ 100) ∨ (¬ (0 ≤ x_4.toInt ∧ x_4.toInt < n_tb.toInt) ∧ r_9.toInt = 0)) : 0 ≤ i_1.toInt ∧ i_1.toInt < ((40 : Nat) : Int) := by
  have := rg_rng n_tb; have := rg_rng i_1; have := rg_rng x_4; have := rg_rng r_9; omega
theorem lg_X10_settleVacuum_9 (n_tb : Int32) (f_to : Nat → Int32) (f_leak : Nat → Int32) (i_1 : Int32) (ga_t_vacuum_1 : Nat → Int32) (n1 : Nat) (x_4 : Int32) (r_9 : Int32) (x_11 : Int32) (yb : 1 ≤ n_tb.toInt ∧ n_tb.toInt ≤ 40) (hi1_0 : 1 ≤ i_1.toInt ∧ i_1.toInt ≤ n_tb.toInt) (hmu1 : (n_tb.toInt - i_1.toInt) < ((n1 + 1 : Nat) : Int)) (t_3 : i_1.toInt < n_tb.toInt) (t_6 : 0 ≤ x_4.toInt ∧ (x_4.toInt < i_1.toInt ∨ x_4.toInt = 0)) (t_8 : x_4.toInt = (f_to (Int32.toNatClampNeg i_1)).toInt) (h_10 : ((0 ≤ x_4.toInt ∧ x_4.toInt < n_tb.toInt) ∧ r_9.toInt = (ga_t_vacuum_1 (Int32.toNatClampNeg x_4)).toInt ∧ 0 ≤ r_9.toInt ∧ r_9.toInt ≤ 100) ∨ (¬ (0 ≤ x_4.toInt ∧ x_4.toInt < n_tb.toInt) ∧ r_9.toInt = 0)) (t_13 : x_11.toInt = (f_leak (Int32.toNatClampNeg i_1)).toInt) : 0 ≤ i_1.toInt ∧ i_1.toInt < ((40 : Nat) : Int) := by
  have := rg_rng n_tb; have := rg_rng i_1; have := rg_rng x_4; have := rg_rng r_9; have := rg_rng x_11; omega
theorem lg_X10_settleVacuum_10 (n_tb : Int32) (f_to : Nat → Int32) (f_leak : Nat → Int32) (i_1 : Int32) (ga_t_vacuum_1 : Nat → Int32) (n1 : Nat) (x_4 : Int32) (r_9 : Int32) (x_11 : Int32) (yb : 1 ≤ n_tb.toInt ∧ n_tb.toInt ≤ 40) (hi1_0 : 1 ≤ i_1.toInt ∧ i_1.toInt ≤ n_tb.toInt) (hmu1 : (n_tb.toInt - i_1.toInt) < ((n1 + 1 : Nat) : Int)) (t_3 : i_1.toInt < n_tb.toInt) (t_6 : 0 ≤ x_4.toInt ∧ (x_4.toInt < i_1.toInt ∨ x_4.toInt = 0)) (t_8 : x_4.toInt = (f_to (Int32.toNatClampNeg i_1)).toInt) (h_10 : ((0 ≤ x_4.toInt ∧ x_4.toInt < n_tb.toInt) ∧ r_9.toInt = (ga_t_vacuum_1 (Int32.toNatClampNeg x_4)).toInt ∧ 0 ≤ r_9.toInt ∧ r_9.toInt ≤ 100) ∨ (¬ (0 ≤ x_4.toInt ∧ x_4.toInt < n_tb.toInt) ∧ r_9.toInt = 0)) (t_13 : x_11.toInt = (f_leak (Int32.toNatClampNeg i_1)).toInt) (t_14 : 0 ≤ x_11.toInt ∧ x_11.toInt ≤ 20) : -2147483648 ≤ r_9.toInt - x_11.toInt ∧ r_9.toInt - x_11.toInt < 2147483648 := by
  have := rg_rng n_tb; have := rg_rng i_1; have := rg_rng x_4; have := rg_rng r_9; have := rg_rng x_11; omega
theorem lg_X10_settleVacuum_11 (n_tb : Int32) (f_to : Nat → Int32) (f_leak : Nat → Int32) (i_1 : Int32) (ga_t_vacuum_1 : Nat → Int32) (n1 : Nat) (x_4 : Int32) (r_9 : Int32) (x_11 : Int32) (x_15 : Int32) (x_18 : Int32) (yb : 1 ≤ n_tb.toInt ∧ n_tb.toInt ≤ 40) (hi1_0 : 1 ≤ i_1.toInt ∧ i_1.toInt ≤ n_tb.toInt) (hmu1 : (n_tb.toInt - i_1.toInt) < ((n1 + 1 : Nat) : Int)) (t_3 : i_1.toInt < n_tb.toInt) (t_6 : 0 ≤ x_4.toInt ∧ (x_4.toInt < i_1.toInt ∨ x_4.toInt = 0)) (t_8 : x_4.toInt = (f_to (Int32.toNatClampNeg i_1)).toInt) (h_10 : ((0 ≤ x_4.toInt ∧ x_4.toInt < n_tb.toInt) ∧ r_9.toInt = (ga_t_vacuum_1 (Int32.toNatClampNeg x_4)).toInt ∧ 0 ≤ r_9.toInt ∧ r_9.toInt ≤ 100) ∨ (¬ (0 ≤ x_4.toInt ∧ x_4.toInt < n_tb.toInt) ∧ r_9.toInt = 0)) (t_13 : x_11.toInt = (f_leak (Int32.toNatClampNeg i_1)).toInt) (t_14 : 0 ≤ x_11.toInt ∧ x_11.toInt ≤ 20) (t_17 : x_15.toInt = r_9.toInt - x_11.toInt) (t_20 : ((0 : Int) < x_15.toInt ∧ x_18.toInt = x_15.toInt) ∨ (x_15.toInt ≤ (0 : Int) ∧ x_18.toInt = (0 : Int))) : 0 ≤ i_1.toInt ∧ i_1.toInt < ((40 : Nat) : Int) := by
  have := rg_rng n_tb; have := rg_rng i_1; have := rg_rng x_4; have := rg_rng r_9; have := rg_rng x_11; have := rg_rng x_15; have := rg_rng x_18; omega
theorem lg_X10_settleVacuum_12 (n_tb : Int32) (f_to : Nat → Int32) (f_leak : Nat → Int32) (i_1 : Int32) (ga_t_vacuum_1 : Nat → Int32) (n1 : Nat) (x_4 : Int32) (r_9 : Int32) (x_11 : Int32) (x_15 : Int32) (x_18 : Int32) (yb : 1 ≤ n_tb.toInt ∧ n_tb.toInt ≤ 40) (hi1_0 : 1 ≤ i_1.toInt ∧ i_1.toInt ≤ n_tb.toInt) (hmu1 : (n_tb.toInt - i_1.toInt) < ((n1 + 1 : Nat) : Int)) (t_3 : i_1.toInt < n_tb.toInt) (t_6 : 0 ≤ x_4.toInt ∧ (x_4.toInt < i_1.toInt ∨ x_4.toInt = 0)) (t_8 : x_4.toInt = (f_to (Int32.toNatClampNeg i_1)).toInt) (h_10 : ((0 ≤ x_4.toInt ∧ x_4.toInt < n_tb.toInt) ∧ r_9.toInt = (ga_t_vacuum_1 (Int32.toNatClampNeg x_4)).toInt ∧ 0 ≤ r_9.toInt ∧ r_9.toInt ≤ 100) ∨ (¬ (0 ≤ x_4.toInt ∧ x_4.toInt < n_tb.toInt) ∧ r_9.toInt = 0)) (t_13 : x_11.toInt = (f_leak (Int32.toNatClampNeg i_1)).toInt) (t_14 : 0 ≤ x_11.toInt ∧ x_11.toInt ≤ 20) (t_17 : x_15.toInt = r_9.toInt - x_11.toInt) (t_20 : ((0 : Int) < x_15.toInt ∧ x_18.toInt = x_15.toInt) ∨ (x_15.toInt ≤ (0 : Int) ∧ x_18.toInt = (0 : Int))) : 0 ≤ x_18.toInt ∧ x_18.toInt ≤ 100 := by
  have := rg_rng n_tb; have := rg_rng i_1; have := rg_rng x_4; have := rg_rng r_9; have := rg_rng x_11; have := rg_rng x_15; have := rg_rng x_18; omega
theorem lg_X10_settleVacuum_13 (n_tb : Int32) (f_to : Nat → Int32) (f_leak : Nat → Int32) (i_1 : Int32) (ga_t_vacuum_1 : Nat → Int32) (n1 : Nat) (x_4 : Int32) (r_9 : Int32) (x_11 : Int32) (x_15 : Int32) (x_18 : Int32) (yb : 1 ≤ n_tb.toInt ∧ n_tb.toInt ≤ 40) (hi1_0 : 1 ≤ i_1.toInt ∧ i_1.toInt ≤ n_tb.toInt) (hmu1 : (n_tb.toInt - i_1.toInt) < ((n1 + 1 : Nat) : Int)) (t_3 : i_1.toInt < n_tb.toInt) (t_6 : 0 ≤ x_4.toInt ∧ (x_4.toInt < i_1.toInt ∨ x_4.toInt = 0)) (t_8 : x_4.toInt = (f_to (Int32.toNatClampNeg i_1)).toInt) (h_10 : ((0 ≤ x_4.toInt ∧ x_4.toInt < n_tb.toInt) ∧ r_9.toInt = (ga_t_vacuum_1 (Int32.toNatClampNeg x_4)).toInt ∧ 0 ≤ r_9.toInt ∧ r_9.toInt ≤ 100) ∨ (¬ (0 ≤ x_4.toInt ∧ x_4.toInt < n_tb.toInt) ∧ r_9.toInt = 0)) (t_13 : x_11.toInt = (f_leak (Int32.toNatClampNeg i_1)).toInt) (t_14 : 0 ≤ x_11.toInt ∧ x_11.toInt ≤ 20) (t_17 : x_15.toInt = r_9.toInt - x_11.toInt) (t_20 : ((0 : Int) < x_15.toInt ∧ x_18.toInt = x_15.toInt) ∨ (x_15.toInt ≤ (0 : Int) ∧ x_18.toInt = (0 : Int))) : 1 ≤ i_1.toInt ∧ i_1.toInt < 40 ∧ i_1.toInt + 1 ≤ i_1.toInt + 1 := by
  have := rg_rng n_tb; have := rg_rng i_1; have := rg_rng x_4; have := rg_rng r_9; have := rg_rng x_11; have := rg_rng x_15; have := rg_rng x_18; omega
theorem lg_X10_settleVacuum_14 (n_tb : Int32) (f_to : Nat → Int32) (f_leak : Nat → Int32) (i_1 : Int32) (ga_t_vacuum_1 : Nat → Int32) (n1 : Nat) (x_4 : Int32) (r_9 : Int32) (x_11 : Int32) (x_15 : Int32) (x_18 : Int32) (yb : 1 ≤ n_tb.toInt ∧ n_tb.toInt ≤ 40) (hi1_0 : 1 ≤ i_1.toInt ∧ i_1.toInt ≤ n_tb.toInt) (hmu1 : (n_tb.toInt - i_1.toInt) < ((n1 + 1 : Nat) : Int)) (t_3 : i_1.toInt < n_tb.toInt) (t_6 : 0 ≤ x_4.toInt ∧ (x_4.toInt < i_1.toInt ∨ x_4.toInt = 0)) (t_8 : x_4.toInt = (f_to (Int32.toNatClampNeg i_1)).toInt) (h_10 : ((0 ≤ x_4.toInt ∧ x_4.toInt < n_tb.toInt) ∧ r_9.toInt = (ga_t_vacuum_1 (Int32.toNatClampNeg x_4)).toInt ∧ 0 ≤ r_9.toInt ∧ r_9.toInt ≤ 100) ∨ (¬ (0 ≤ x_4.toInt ∧ x_4.toInt < n_tb.toInt) ∧ r_9.toInt = 0)) (t_13 : x_11.toInt = (f_leak (Int32.toNatClampNeg i_1)).toInt) (t_14 : 0 ≤ x_11.toInt ∧ x_11.toInt ≤ 20) (t_17 : x_15.toInt = r_9.toInt - x_11.toInt) (t_20 : ((0 : Int) < x_15.toInt ∧ x_18.toInt = x_15.toInt) ∨ (x_15.toInt ≤ (0 : Int) ∧ x_18.toInt = (0 : Int))) : r_9.toInt = (ga_t_vacuum_1 (Int32.toNatClampNeg x_4)).toInt := by
  have := rg_rng n_tb; have := rg_rng i_1; have := rg_rng x_4; have := rg_rng r_9; have := rg_rng x_11; have := rg_rng x_15; have := rg_rng x_18; omega
theorem lg_X10_settleVacuum_15 (n_tb : Int32) (f_to : Nat → Int32) (f_leak : Nat → Int32) (i_1 : Int32) (ga_t_vacuum_1 : Nat → Int32) (n1 : Nat) (x_4 : Int32) (r_9 : Int32) (x_11 : Int32) (x_15 : Int32) (x_18 : Int32) (yb : 1 ≤ n_tb.toInt ∧ n_tb.toInt ≤ 40) (hi1_0 : 1 ≤ i_1.toInt ∧ i_1.toInt ≤ n_tb.toInt) (hmu1 : (n_tb.toInt - i_1.toInt) < ((n1 + 1 : Nat) : Int)) (t_3 : i_1.toInt < n_tb.toInt) (t_6 : 0 ≤ x_4.toInt ∧ (x_4.toInt < i_1.toInt ∨ x_4.toInt = 0)) (t_8 : x_4.toInt = (f_to (Int32.toNatClampNeg i_1)).toInt) (h_10 : ((0 ≤ x_4.toInt ∧ x_4.toInt < n_tb.toInt) ∧ r_9.toInt = (ga_t_vacuum_1 (Int32.toNatClampNeg x_4)).toInt ∧ 0 ≤ r_9.toInt ∧ r_9.toInt ≤ 100) ∨ (¬ (0 ≤ x_4.toInt ∧ x_4.toInt < n_tb.toInt) ∧ r_9.toInt = 0)) (t_13 : x_11.toInt = (f_leak (Int32.toNatClampNeg i_1)).toInt) (t_14 : 0 ≤ x_11.toInt ∧ x_11.toInt ≤ 20) (t_17 : x_15.toInt = r_9.toInt - x_11.toInt) (t_20 : ((0 : Int) < x_15.toInt ∧ x_18.toInt = x_15.toInt) ∨ (x_15.toInt ≤ (0 : Int) ∧ x_18.toInt = (0 : Int))) : x_11.toInt = (f_leak (Int32.toNatClampNeg i_1)).toInt := by
  have := rg_rng n_tb; have := rg_rng i_1; have := rg_rng x_4; have := rg_rng r_9; have := rg_rng x_11; have := rg_rng x_15; have := rg_rng x_18; omega
theorem lg_X10_settleVacuum_16 (n_tb : Int32) (f_to : Nat → Int32) (f_leak : Nat → Int32) (i_1 : Int32) (ga_t_vacuum_1 : Nat → Int32) (n1 : Nat) (x_4 : Int32) (r_9 : Int32) (x_11 : Int32) (x_15 : Int32) (x_18 : Int32) (yb : 1 ≤ n_tb.toInt ∧ n_tb.toInt ≤ 40) (hi1_0 : 1 ≤ i_1.toInt ∧ i_1.toInt ≤ n_tb.toInt) (hmu1 : (n_tb.toInt - i_1.toInt) < ((n1 + 1 : Nat) : Int)) (t_3 : i_1.toInt < n_tb.toInt) (t_6 : 0 ≤ x_4.toInt ∧ (x_4.toInt < i_1.toInt ∨ x_4.toInt = 0)) (t_8 : x_4.toInt = (f_to (Int32.toNatClampNeg i_1)).toInt) (h_10 : ((0 ≤ x_4.toInt ∧ x_4.toInt < n_tb.toInt) ∧ r_9.toInt = (ga_t_vacuum_1 (Int32.toNatClampNeg x_4)).toInt ∧ 0 ≤ r_9.toInt ∧ r_9.toInt ≤ 100) ∨ (¬ (0 ≤ x_4.toInt ∧ x_4.toInt < n_tb.toInt) ∧ r_9.toInt = 0)) (t_13 : x_11.toInt = (f_leak (Int32.toNatClampNeg i_1)).toInt) (t_14 : 0 ≤ x_11.toInt ∧ x_11.toInt ≤ 20) (t_17 : x_15.toInt = r_9.toInt - x_11.toInt) (t_20 : ((0 : Int) < x_15.toInt ∧ x_18.toInt = x_15.toInt) ∨ (x_15.toInt ≤ (0 : Int) ∧ x_18.toInt = (0 : Int))) : (0 ≤ r_9.toInt - x_11.toInt ∧ x_18.toInt = r_9.toInt - x_11.toInt) ∨ (r_9.toInt - x_11.toInt < 0 ∧ x_18.toInt = 0) := by
  have := rg_rng n_tb; have := rg_rng i_1; have := rg_rng x_4; have := rg_rng r_9; have := rg_rng x_11; have := rg_rng x_15; have := rg_rng x_18; omega
theorem lg_X10_settleVacuum_17 (n_tb : Int32) (f_to : Nat → Int32) (f_leak : Nat → Int32) (i_1 : Int32) (ga_t_vacuum_1 : Nat → Int32) (n1 : Nat) (x_4 : Int32) (r_9 : Int32) (x_11 : Int32) (x_15 : Int32) (x_18 : Int32) (yb : 1 ≤ n_tb.toInt ∧ n_tb.toInt ≤ 40) (hi1_0 : 1 ≤ i_1.toInt ∧ i_1.toInt ≤ n_tb.toInt) (hmu1 : (n_tb.toInt - i_1.toInt) < ((n1 + 1 : Nat) : Int)) (t_3 : i_1.toInt < n_tb.toInt) (t_6 : 0 ≤ x_4.toInt ∧ (x_4.toInt < i_1.toInt ∨ x_4.toInt = 0)) (t_8 : x_4.toInt = (f_to (Int32.toNatClampNeg i_1)).toInt) (h_10 : ((0 ≤ x_4.toInt ∧ x_4.toInt < n_tb.toInt) ∧ r_9.toInt = (ga_t_vacuum_1 (Int32.toNatClampNeg x_4)).toInt ∧ 0 ≤ r_9.toInt ∧ r_9.toInt ≤ 100) ∨ (¬ (0 ≤ x_4.toInt ∧ x_4.toInt < n_tb.toInt) ∧ r_9.toInt = 0)) (t_13 : x_11.toInt = (f_leak (Int32.toNatClampNeg i_1)).toInt) (t_14 : 0 ≤ x_11.toInt ∧ x_11.toInt ≤ 20) (t_17 : x_15.toInt = r_9.toInt - x_11.toInt) (t_20 : ((0 : Int) < x_15.toInt ∧ x_18.toInt = x_15.toInt) ∨ (x_15.toInt ≤ (0 : Int) ∧ x_18.toInt = (0 : Int))) : 1 ≤ i_1.toInt := by
  have := rg_rng n_tb; have := rg_rng i_1; have := rg_rng x_4; have := rg_rng r_9; have := rg_rng x_11; have := rg_rng x_15; have := rg_rng x_18; omega
theorem lg_X10_settleVacuum_18 (n_tb : Int32) (f_to : Nat → Int32) (f_leak : Nat → Int32) (i_1 : Int32) (ga_t_vacuum_1 : Nat → Int32) (n1 : Nat) (x_4 : Int32) (r_9 : Int32) (x_11 : Int32) (x_15 : Int32) (x_18 : Int32) (yb : 1 ≤ n_tb.toInt ∧ n_tb.toInt ≤ 40) (hi1_0 : 1 ≤ i_1.toInt ∧ i_1.toInt ≤ n_tb.toInt) (hmu1 : (n_tb.toInt - i_1.toInt) < ((n1 + 1 : Nat) : Int)) (t_3 : i_1.toInt < n_tb.toInt) (t_6 : 0 ≤ x_4.toInt ∧ (x_4.toInt < i_1.toInt ∨ x_4.toInt = 0)) (t_8 : x_4.toInt = (f_to (Int32.toNatClampNeg i_1)).toInt) (h_10 : ((0 ≤ x_4.toInt ∧ x_4.toInt < n_tb.toInt) ∧ r_9.toInt = (ga_t_vacuum_1 (Int32.toNatClampNeg x_4)).toInt ∧ 0 ≤ r_9.toInt ∧ r_9.toInt ≤ 100) ∨ (¬ (0 ≤ x_4.toInt ∧ x_4.toInt < n_tb.toInt) ∧ r_9.toInt = 0)) (t_13 : x_11.toInt = (f_leak (Int32.toNatClampNeg i_1)).toInt) (t_14 : 0 ≤ x_11.toInt ∧ x_11.toInt ≤ 20) (t_17 : x_15.toInt = r_9.toInt - x_11.toInt) (t_20 : ((0 : Int) < x_15.toInt ∧ x_18.toInt = x_15.toInt) ∨ (x_15.toInt ≤ (0 : Int) ∧ x_18.toInt = (0 : Int))) : -2147483648 ≤ i_1.toInt + 1 ∧ i_1.toInt + 1 < 2147483648 := by
  have := rg_rng n_tb; have := rg_rng i_1; have := rg_rng x_4; have := rg_rng r_9; have := rg_rng x_11; have := rg_rng x_15; have := rg_rng x_18; omega
theorem lg_X10_settleVacuum_19 (n_tb : Int32) (f_to : Nat → Int32) (f_leak : Nat → Int32) (i_1 : Int32) (ga_t_vacuum_1 : Nat → Int32) (n1 : Nat) (x_4 : Int32) (r_9 : Int32) (x_11 : Int32) (x_15 : Int32) (x_18 : Int32) (x_25 : Int32) (yb : 1 ≤ n_tb.toInt ∧ n_tb.toInt ≤ 40) (hi1_0 : 1 ≤ i_1.toInt ∧ i_1.toInt ≤ n_tb.toInt) (hmu1 : (n_tb.toInt - i_1.toInt) < ((n1 + 1 : Nat) : Int)) (t_3 : i_1.toInt < n_tb.toInt) (t_6 : 0 ≤ x_4.toInt ∧ (x_4.toInt < i_1.toInt ∨ x_4.toInt = 0)) (t_8 : x_4.toInt = (f_to (Int32.toNatClampNeg i_1)).toInt) (h_10 : ((0 ≤ x_4.toInt ∧ x_4.toInt < n_tb.toInt) ∧ r_9.toInt = (ga_t_vacuum_1 (Int32.toNatClampNeg x_4)).toInt ∧ 0 ≤ r_9.toInt ∧ r_9.toInt ≤ 100) ∨ (¬ (0 ≤ x_4.toInt ∧ x_4.toInt < n_tb.toInt) ∧ r_9.toInt = 0)) (t_13 : x_11.toInt = (f_leak (Int32.toNatClampNeg i_1)).toInt) (t_14 : 0 ≤ x_11.toInt ∧ x_11.toInt ≤ 20) (t_17 : x_15.toInt = r_9.toInt - x_11.toInt) (t_20 : ((0 : Int) < x_15.toInt ∧ x_18.toInt = x_15.toInt) ∨ (x_15.toInt ≤ (0 : Int) ∧ x_18.toInt = (0 : Int))) (t_27 : x_25.toInt = i_1.toInt + 1) : (n_tb.toInt - x_25.toInt) < (n1 : Int) := by
  have := rg_rng n_tb; have := rg_rng i_1; have := rg_rng x_4; have := rg_rng r_9; have := rg_rng x_11; have := rg_rng x_15; have := rg_rng x_18; have := rg_rng x_25; omega
theorem lg_X10_settleVacuum_20 (n_tb : Int32) (f_to : Nat → Int32) (f_leak : Nat → Int32) (i_1 : Int32) (ga_t_vacuum_1 : Nat → Int32) (n1 : Nat) (x_4 : Int32) (r_9 : Int32) (x_11 : Int32) (x_15 : Int32) (x_18 : Int32) (x_25 : Int32) (yb : 1 ≤ n_tb.toInt ∧ n_tb.toInt ≤ 40) (hi1_0 : 1 ≤ i_1.toInt ∧ i_1.toInt ≤ n_tb.toInt) (hmu1 : (n_tb.toInt - i_1.toInt) < ((n1 + 1 : Nat) : Int)) (t_3 : i_1.toInt < n_tb.toInt) (t_6 : 0 ≤ x_4.toInt ∧ (x_4.toInt < i_1.toInt ∨ x_4.toInt = 0)) (t_8 : x_4.toInt = (f_to (Int32.toNatClampNeg i_1)).toInt) (h_10 : ((0 ≤ x_4.toInt ∧ x_4.toInt < n_tb.toInt) ∧ r_9.toInt = (ga_t_vacuum_1 (Int32.toNatClampNeg x_4)).toInt ∧ 0 ≤ r_9.toInt ∧ r_9.toInt ≤ 100) ∨ (¬ (0 ≤ x_4.toInt ∧ x_4.toInt < n_tb.toInt) ∧ r_9.toInt = 0)) (t_13 : x_11.toInt = (f_leak (Int32.toNatClampNeg i_1)).toInt) (t_14 : 0 ≤ x_11.toInt ∧ x_11.toInt ≤ 20) (t_17 : x_15.toInt = r_9.toInt - x_11.toInt) (t_20 : ((0 : Int) < x_15.toInt ∧ x_18.toInt = x_15.toInt) ∨ (x_15.toInt ≤ (0 : Int) ∧ x_18.toInt = (0 : Int))) (t_27 : x_25.toInt = i_1.toInt + 1) : 1 ≤ x_25.toInt ∧ x_25.toInt ≤ n_tb.toInt := by
  have := rg_rng n_tb; have := rg_rng i_1; have := rg_rng x_4; have := rg_rng r_9; have := rg_rng x_11; have := rg_rng x_15; have := rg_rng x_18; have := rg_rng x_25; omega
theorem lg_X10_settleVacuum_21 (n_tb : Int32) (f_to : Nat → Int32) (f_leak : Nat → Int32) (i_1 : Int32) (ga_t_vacuum_1 : Nat → Int32) (n1 : Nat) (x_4 : Int32) (r_9 : Int32) (x_11 : Int32) (x_15 : Int32) (x_18 : Int32) (x_25 : Int32) (yb : 1 ≤ n_tb.toInt ∧ n_tb.toInt ≤ 40) (hi1_0 : 1 ≤ i_1.toInt ∧ i_1.toInt ≤ n_tb.toInt) (hmu1 : (n_tb.toInt - i_1.toInt) < ((n1 + 1 : Nat) : Int)) (t_3 : i_1.toInt < n_tb.toInt) (t_6 : 0 ≤ x_4.toInt ∧ (x_4.toInt < i_1.toInt ∨ x_4.toInt = 0)) (t_8 : x_4.toInt = (f_to (Int32.toNatClampNeg i_1)).toInt) (h_10 : ((0 ≤ x_4.toInt ∧ x_4.toInt < n_tb.toInt) ∧ r_9.toInt = (ga_t_vacuum_1 (Int32.toNatClampNeg x_4)).toInt ∧ 0 ≤ r_9.toInt ∧ r_9.toInt ≤ 100) ∨ (¬ (0 ≤ x_4.toInt ∧ x_4.toInt < n_tb.toInt) ∧ r_9.toInt = 0)) (t_13 : x_11.toInt = (f_leak (Int32.toNatClampNeg i_1)).toInt) (t_14 : 0 ≤ x_11.toInt ∧ x_11.toInt ≤ 20) (t_17 : x_15.toInt = r_9.toInt - x_11.toInt) (t_20 : ((0 : Int) < x_15.toInt ∧ x_18.toInt = x_15.toInt) ∨ (x_15.toInt ≤ (0 : Int) ∧ x_18.toInt = (0 : Int))) (t_27 : x_25.toInt = i_1.toInt + 1) : x_25.toInt ≤ (i_1.toInt + 1) := by
  have := rg_rng n_tb; have := rg_rng i_1; have := rg_rng x_4; have := rg_rng r_9; have := rg_rng x_11; have := rg_rng x_15; have := rg_rng x_18; have := rg_rng x_25; omega
set_option maxHeartbeats 4000000 in
set_option maxRecDepth 100000 in
theorem kX10_settleVacuum (l : Launch) (dC : Nat → ClassId) (dI : Nat → Nat → Nat) (sz : Nat) (h0 : Nat) (t_to : Nat) (t_height : Nat) (t_member : Nat) (t_lengthHome : Nat) (t_runs : Nat) (t_leak : Nat) (t_vacuum : Nat) (t_reading : Nat) (n_tb : Int32) (k_to : ClassId) (k_leak : ClassId) (k_vacuum : ClassId) (f_to : Nat → Int32) (f_leak : Nat → Int32) (f_vacuum : Nat → Int32) (e_to : Nat → Int32) (nv : Int32) (yb : 1 ≤ n_tb.toInt ∧ n_tb.toInt ≤ 40) (yvac : Rg f_vacuum 40 0 100) (ylk : Rg f_leak 40 0 20) (yTT : TbT f_to e_to n_tb.toInt) (yDn : Dn e_to) (yV0 : V0 f_vacuum nv) : Met l yX10_settleVacuum (Cond.code yX10_settleVacuum cX10_settleVacuum 2 none :: bg) ({ frames := 2, cells := 0, slots := 0, locals := 42 }) (pcW dC dI [.ref h0] sz [(h0, .inr (10, [.ref t_to, .ref t_height, .ref t_member, .ref t_lengthHome, .ref t_runs, .ref t_leak, .ref t_vacuum, .ref t_reading, .int n_tb])), (t_to, .inl (k_to, 40, .inl f_to)), (t_leak, .inl (k_leak, 40, .inl f_leak)), (t_vacuum, .inl (k_vacuum, 40, .inl f_vacuum))] [(k_to, .int), (k_leak, .int), (k_vacuum, .int)]) (va_Qv (fun (u : Unit) => True) (fun (u : Unit) (t : State) => ∃ (w_vacuum : Nat → Int32), Rg w_vacuum 40 0 100 ∧ TbV w_vacuum e_to f_leak nv n_tb.toInt ∧ V0 w_vacuum nv ∧ va_P (dC, dI) vwCl [(h0, .inr (10, [.ref t_to, .ref t_height, .ref t_member, .ref t_lengthHome, .ref t_runs, .ref t_leak, .ref t_vacuum, .ref t_reading, .int n_tb])), (t_to, .inl (k_to, 40, .inl f_to)), (t_leak, .inl (k_leak, 40, .inl f_leak)), (t_vacuum, .inl (k_vacuum, 40, .inl w_vacuum))] t.heap ∧ va_K (dC, dI) vwCl [] t ∧ va_D (va_A [(h0, .inr (10, [.ref t_to, .ref t_height, .ref t_member, .ref t_lengthHome, .ref t_runs, .ref t_leak, .ref t_vacuum, .ref t_reading, .int n_tb])), (t_to, .inl (k_to, 40, .inl f_to)), (t_leak, .inl (k_leak, 40, .inl f_leak)), (t_vacuum, .inl (k_vacuum, 40, .inl f_vacuum))] sz) [(h0, .inr (10, [.ref t_to, .ref t_height, .ref t_member, .ref t_lengthHome, .ref t_runs, .ref t_leak, .ref t_vacuum, .ref t_reading, .int n_tb])), (t_to, .inl (k_to, 40, .inl f_to)), (t_leak, .inl (k_leak, 40, .inl f_leak)), (t_vacuum, .inl (k_vacuum, 40, .inl w_vacuum))]) (va_A [(h0, .inr (10, [.ref t_to, .ref t_height, .ref t_member, .ref t_lengthHome, .ref t_runs, .ref t_leak, .ref t_vacuum, .ref t_reading, .int n_tb])), (t_to, .inl (k_to, 40, .inl f_to)), (t_leak, .inl (k_leak, 40, .inl f_leak)), (t_vacuum, .inl (k_vacuum, 40, .inl f_vacuum))] sz)) 0 0 (va_A [(h0, .inr (10, [.ref t_to, .ref t_height, .ref t_member, .ref t_lengthHome, .ref t_runs, .ref t_leak, .ref t_vacuum, .ref t_reading, .int n_tb])), (t_to, .inl (k_to, 40, .inl f_to)), (t_leak, .inl (k_leak, 40, .inl f_leak)), (t_vacuum, .inl (k_vacuum, 40, .inl f_vacuum))] sz) := by
  refine Met.ofW (cc := cX10_settleVacuum) (maxL := 2) (ret := none) pnX10 rfl ?_
  intro p e s m args below meth c s₁ B hml hv
  obtain ⟨rfl, hsz, hP, hK, hD0, hN⟩ := hv
  have hx := B.exec
  have hb := B.bytes
  have hr := B.returns
  have htb : ∀ w ∈ bg, w.before [.ref h0].toArray s = true := fun w h => atoms_spec (ws := Cond.code yX10_settleVacuum cX10_settleVacuum 2 none :: bg) B.pre w (List.mem_cons_of_mem _ h)
  have hown : s.vm.findClass RX10 = some m.cls := findClass_of_methodNamed B.named
  have hlocks := B.notSynchronized
  subst hsz
  have hD := hD0.self (sz := s.heap.size)
  generalize hAe : va_A [(h0, .inr (10, [.ref t_to, .ref t_height, .ref t_member, .ref t_lengthHome, .ref t_runs, .ref t_leak, .ref t_vacuum, .ref t_reading, .int n_tb])), (t_to, .inl (k_to, 40, .inl f_to)), (t_leak, .inl (k_leak, 40, .inl f_leak)), (t_vacuum, .inl (k_vacuum, 40, .inl f_vacuum))] s.heap.size = A at hD ⊢
  have hA : ∀ q : Nat, s.heap.size ≤ q → A q := fun q h => by rw [← hAe]; exact Or.inr h
  have hS : va_S A s.heap s.heap [] := va_S.rf
  have hl := lv_entry ([.ref h0]) (n := 2) (Nat.le_of_ble_eq_true rfl)
  rw [lg_entry_eq]
  generalize (lg_sl ([.ref h0]) ++ List.replicate (2 - (lg_sl ([.ref h0])).length) Slot.unset).toArray = ls at hl ⊢
  change lv_has ls 2 [(0, .ref h0)] at hl
  clear hD0 hAe
  refine go0 (wsP := fun H => va_P (dC, dI) vwCl [(h0, .inr (10, [.ref t_to, .ref t_height, .ref t_member, .ref t_lengthHome, .ref t_runs, .ref t_leak, .ref t_vacuum, .ref t_reading, .int n_tb])), (t_to, .inl (k_to, 40, .inl f_to)), (t_leak, .inl (k_leak, 40, .inl f_leak)), (t_vacuum, .inl (k_vacuum, 40, .inl f_vacuum))] H) hP hS ?_
  clear hP hS; intro H locs hP hS
  change va_P (dC, dI) vwCl [(h0, .inr (10, [.ref t_to, .ref t_height, .ref t_member, .ref t_lengthHome, .ref t_runs, .ref t_leak, .ref t_vacuum, .ref t_reading, .int n_tb])), (t_to, .inl (k_to, 40, .inl f_to)), (t_leak, .inl (k_leak, 40, .inl f_leak)), (t_vacuum, .inl (k_vacuum, 40, .inl f_vacuum))] H at hP
  refine lv_iconst (v := 1) hx hb dX10_settleVacuum_0 (by decide) ?_
  refine lv_istore_n (lv' := [(1, .int 1), (0, .ref h0)]) hx hb dX10_settleVacuum_1 rfl hl (by decide) rfl ?_
  clear hl; intro ls hl
  refine (fun (lp : ∀ (n1 : Nat) (i_1 : Int32) (ga_t_vacuum_1 : Nat → Int32) (H : Heap) (locs : List Loc) (ls : Array Slot), (n_tb.toInt - i_1.toInt) < (n1 : Int) → (1 ≤ i_1.toInt ∧ i_1.toInt ≤ n_tb.toInt) → Rg ga_t_vacuum_1 40 0 100 → (TbV ga_t_vacuum_1 e_to f_leak nv i_1.toInt) → (V0 ga_t_vacuum_1 nv) → lv_has ls 2 [(1, .int i_1), (0, .ref h0)] → va_P (dC, dI) vwCl [(h0, .inr (10, [.ref t_to, .ref t_height, .ref t_member, .ref t_lengthHome, .ref t_runs, .ref t_leak, .ref t_vacuum, .ref t_reading, .int n_tb])), (t_to, .inl (k_to, 40, .inl f_to)), (t_leak, .inl (k_leak, 40, .inl f_leak)), (t_vacuum, .inl (k_vacuum, 40, .inl ga_t_vacuum_1))] H → va_D A [(h0, .inr (10, [.ref t_to, .ref t_height, .ref t_member, .ref t_lengthHome, .ref t_runs, .ref t_leak, .ref t_vacuum, .ref t_reading, .int n_tb])), (t_to, .inl (k_to, 40, .inl f_to)), (t_leak, .inl (k_leak, 40, .inl f_leak)), (t_vacuum, .inl (k_vacuum, 40, .inl ga_t_vacuum_1))] → va_S A s.heap H locs → W p l e _ s m _ below meth c H locs _ _ _ (F0 m 2 ls [])) => lp (Int.toNat (n_tb.toInt - (1 : Int)) + 1) 1  f_vacuum H locs ls ((lg_X10_settleVacuum_0 n_tb yb)) (lg_X10_settleVacuum_1 n_tb yb) yvac (TbV_1 yV0 (lg_X10_settleVacuum_2 n_tb yb)) yV0 hl hP hD hS) ?_
  clear hP hD hS hl
  intro n1
  induction n1 with
  | zero =>
    intro i_1 ga_t_vacuum_1 H locs ls hmu1 hi1_0 hg1_ga_t_vacuum_1 hp1_0 hp1_1 hl hP hD hS
    exact False.elim (lg_X10_settleVacuum_3 n_tb i_1 yb hi1_0 hmu1)
  | succ n1 ih1 =>
    intro i_1 ga_t_vacuum_1 H locs ls hmu1 hi1_0 hg1_ga_t_vacuum_1 hp1_0 hp1_1 hl hP hD hS
    refine lv_iload_n hx hb dX10_settleVacuum_2 rfl (lv_at hl 0 rfl) ?_
    refine lv_aload_n hx hb dX10_settleVacuum_3 rfl (lv_at hl 1 rfl) ?_
    refine va_get (D := (dC, dI)) (ci := 10) (v := .int n_tb) (C := RX10) (T := TX10) (N := 9) hx hb htb iX10 hown hK hP 0 rfl rfl 8 (Nat.le_of_ble_eq_true rfl) (htb _ m_42) (fun _ h9 => h9) rfl dX10_settleVacuum_4 ?_
    refine lv_icmp_ge (tgt := 43) hx hb dX10_settleVacuum_7 (by decide) (fun c_2 => ?_) (fun c_2 => ?_)
    · have t_3 : n_tb.toInt ≤ i_1.toInt := i_le rfl rfl c_2
      refine W.widen (k := 0) (n := 0) (Nat.le_of_ble_eq_true rfl) (Nat.le_of_ble_eq_true rfl) ?_
      have hP9 := hP.sub (ws' := [(h0, .inr (10, [.ref t_to, .ref t_height, .ref t_member, .ref t_lengthHome, .ref t_runs, .ref t_leak, .ref t_vacuum, .ref t_reading, .int n_tb])), (t_to, .inl (k_to, 40, .inl f_to)), (t_leak, .inl (k_leak, 40, .inl f_leak)), (t_vacuum, .inl (k_vacuum, 40, .inl ga_t_vacuum_1))]) [0, 1, 2, 3] rfl
      have hD9 := hD.sub (ws' := [(h0, .inr (10, [.ref t_to, .ref t_height, .ref t_member, .ref t_lengthHome, .ref t_runs, .ref t_leak, .ref t_vacuum, .ref t_reading, .int n_tb])), (t_to, .inl (k_to, 40, .inl f_to)), (t_leak, .inl (k_leak, 40, .inl f_leak)), (t_vacuum, .inl (k_vacuum, 40, .inl ga_t_vacuum_1))]) [0, 1, 2, 3] (by decide) rfl
      have hK9 := hK.sub (tys' := []) [] rfl
      exact W.vret hx hb hr (fun t ht hW => ⟨⟨(), rfl, trivial, ⟨ga_t_vacuum_1, hg1_ga_t_vacuum_1, (TbV_le hp1_0 (lg_X10_settleVacuum_4 n_tb i_1 n1 yb hi1_0 hmu1 t_3)), hp1_1, by rw [ht]; exact hP9, va_K.moved hW.alike hK9, hD9⟩⟩, hS.F ht⟩) hS.2.2 dX10_settleVacuum_43
    · have t_3 : i_1.toInt < n_tb.toInt := i_nle rfl rfl c_2
      refine lv_aload_n hx hb dX10_settleVacuum_10 rfl (lv_at hl 1 rfl) ?_
      refine va_get (D := (dC, dI)) (ci := 10) (v := .ref t_vacuum) (C := RX10) (T := TX10) (N := 9) hx hb htb iX10 hown hK hP 0 rfl rfl 6 (Nat.le_of_ble_eq_true rfl) (htb _ m_40) (fun _ h9 => h9) rfl dX10_settleVacuum_11 ?_
      refine lv_iload_n hx hb dX10_settleVacuum_14 rfl (lv_at hl 0 rfl) ?_
      refine lv_iconst (v := 0) hx hb dX10_settleVacuum_15 (by decide) ?_
      refine lv_aload_n hx hb dX10_settleVacuum_16 rfl (lv_at hl 1 rfl) ?_
      refine lv_aload_n hx hb dX10_settleVacuum_17 rfl (lv_at hl 1 rfl) ?_
      refine va_get (D := (dC, dI)) (ci := 10) (v := .ref t_to) (C := RX10) (T := TX10) (N := 9) hx hb htb iX10 hown hK hP 0 rfl rfl 0 (Nat.le_of_ble_eq_true rfl) (htb _ m_34) (fun _ h9 => h9) rfl dX10_settleVacuum_18 ?_
      refine lv_iload_n hx hb dX10_settleVacuum_21 rfl (lv_at hl 0 rfl) ?_
      refine va_iald hx hb hK hP 1 0 rfl rfl (i_in rfl (lg_X10_settleVacuum_5 n_tb i_1 n1 yb hi1_0 hmu1 t_3)) dX10_settleVacuum_22 ?_
      refine lv_topi (fun x_4 ex_5 => ?_)
      have hq_7 : x_4 = e_to (Int32.toNatClampNeg i_1) := TbT_ld yTT (lg_X10_settleVacuum_6 n_tb i_1 n1 yb hi1_0 hmu1 t_3) ex_5
      have t_6 : 0 ≤ x_4.toInt ∧ (x_4.toInt < i_1.toInt ∨ x_4.toInt = 0) := Dn_ld yDn rfl (lg_X10_settleVacuum_7 n_tb i_1 n1 yb hi1_0 hmu1 t_3) hq_7
      have t_8 : x_4.toInt = (f_to (Int32.toNatClampNeg i_1)).toInt := by rw [ex_5]
      have hPc := hP.sub (ws' := [(h0, .inr (10, [.ref t_to, .ref t_height, .ref t_member, .ref t_lengthHome, .ref t_runs, .ref t_leak, .ref t_vacuum, .ref t_reading, .int n_tb])), (t_vacuum, .inl (k_vacuum, 40, .inl ga_t_vacuum_1))]) [0, 3] rfl
      have hDc := hD.sub (ws' := [(h0, .inr (10, [.ref t_to, .ref t_height, .ref t_member, .ref t_lengthHome, .ref t_runs, .ref t_leak, .ref t_vacuum, .ref t_reading, .int n_tb])), (t_vacuum, .inl (k_vacuum, 40, .inl ga_t_vacuum_1))]) [0, 3] (by decide) rfl
      have hKc := hK.sub (tys' := [(k_vacuum, .int)]) [2] rfl
      have hFc := va_free (wc := [(h0, .inr (10, [.ref t_to, .ref t_height, .ref t_member, .ref t_lengthHome, .ref t_runs, .ref t_leak, .ref t_vacuum, .ref t_reading, .int n_tb])), (t_vacuum, .inl (k_vacuum, 40, .inl ga_t_vacuum_1))]) hD hS hA [0, 3] rfl
      refine va_calli (va_runV (C := RX10) (As := [.int x_4]) (rest := [.int 0, .int i_1, .ref t_vacuum]) ⟨hx, hb, hml, hown, htb⟩ (kX10_vacuumAt l dC dI H.size h0 t_to t_height t_member t_lengthHome t_runs t_leak t_vacuum t_reading n_tb k_vacuum ga_t_vacuum_1 x_4 yb hg1_ga_t_vacuum_1) ⟨callB_of 1 htb (gd_c m_434) rfl rfl rfl (htb _ m_2) (htb _ m_431) hdX10_vacuumAt ⟨(Nat.le_of_ble_eq_true rfl), (Nat.le_of_ble_eq_true rfl)⟩, htb _ m_432, htb _ m_433⟩ ⟨pcW_blind, va_recv hKc hPc (ci := 10) (q0 := 0) rfl rfl, pcW_at hPc hKc hDc hN⟩ rfl rfl hl.1 rfl (lv_room (Nat.le_of_ble_eq_true rfl)) dX10_settleVacuum_23 ⟨(Nat.le_of_ble_eq_true rfl), (Nat.le_of_ble_eq_true rfl)⟩) hS (fun q _ h => hFc q h) hFc (fun r_9 u t H1 locs1 ht hvm h_10 hB hz1 hk1 hS1 => ?_)
      obtain ⟨hP1, hK1, hD1⟩ := hB
      rw [ht] at hP1
      obtain ⟨hPn, hDn⟩ := va_join (wr := [(t_to, .inl (k_to, 40, .inl f_to)), (t_leak, .inl (k_leak, 40, .inl f_leak))]) (w1 := [(h0, .inr (10, [.ref t_to, .ref t_height, .ref t_member, .ref t_lengthHome, .ref t_runs, .ref t_leak, .ref t_vacuum, .ref t_reading, .int n_tb])), (t_vacuum, .inl (k_vacuum, 40, .inl ga_t_vacuum_1))]) hP hD [0, 3] [1, 2] rfl rfl (by decide) (by decide) hk1 hFc hP1 hD1
      clear hP1 hD1 hK1
      clear hP hD hS hPc hDc hKc hFc hk1 hz1 ht hvm
      clear t
      revert hS1 hPn hDn; generalize H1 = H; generalize locs1 = locs; intro hS hP hD
      change va_P (dC, dI) vwCl [(t_to, .inl (k_to, 40, .inl f_to)), (t_leak, .inl (k_leak, 40, .inl f_leak)), (h0, .inr (10, [.ref t_to, .ref t_height, .ref t_member, .ref t_lengthHome, .ref t_runs, .ref t_leak, .ref t_vacuum, .ref t_reading, .int n_tb])), (t_vacuum, .inl (k_vacuum, 40, .inl ga_t_vacuum_1))] H at hP
      change va_D A [(t_to, .inl (k_to, 40, .inl f_to)), (t_leak, .inl (k_leak, 40, .inl f_leak)), (h0, .inr (10, [.ref t_to, .ref t_height, .ref t_member, .ref t_lengthHome, .ref t_runs, .ref t_leak, .ref t_vacuum, .ref t_reading, .int n_tb])), (t_vacuum, .inl (k_vacuum, 40, .inl ga_t_vacuum_1))] at hD
      refine lv_aload_n hx hb dX10_settleVacuum_26 rfl (lv_at hl 1 rfl) ?_
      refine va_get (D := (dC, dI)) (ci := 10) (v := .ref t_leak) (C := RX10) (T := TX10) (N := 9) hx hb htb iX10 hown hK hP 2 rfl rfl 5 (Nat.le_of_ble_eq_true rfl) (htb _ m_39) (fun _ h9 => h9) rfl dX10_settleVacuum_27 ?_
      refine lv_iload_n hx hb dX10_settleVacuum_30 rfl (lv_at hl 0 rfl) ?_
      refine va_iald hx hb hK hP 1 1 rfl rfl (i_in rfl (lg_X10_settleVacuum_8 n_tb f_to i_1 ga_t_vacuum_1 n1 x_4 r_9 yb hi1_0 hmu1 t_3 t_6 t_8 h_10)) dX10_settleVacuum_31 ?_
      refine lv_topi (fun x_11 ex_12 => ?_)
      have t_13 : x_11.toInt = (f_leak (Int32.toNatClampNeg i_1)).toInt := by rw [ex_12]
      have t_14 : 0 ≤ x_11.toInt ∧ x_11.toInt ≤ 20 := Rg_ld ylk (i_in rfl (lg_X10_settleVacuum_9 n_tb f_to f_leak i_1 ga_t_vacuum_1 n1 x_4 r_9 x_11 yb hi1_0 hmu1 t_3 t_6 t_8 h_10 t_13)) ex_12
      refine lv_isub hx hb dX10_settleVacuum_32 ?_
      refine lv_topi (fun x_15 ex_16 => ?_)
      have t_17 : x_15.toInt = r_9.toInt - x_11.toInt := i_sub rfl rfl (lg_X10_settleVacuum_10 n_tb f_to f_leak i_1 ga_t_vacuum_1 n1 x_4 r_9 x_11 yb hi1_0 hmu1 t_3 t_6 t_8 h_10 t_13 t_14) ex_16
      refine va_mmax hx hb (hml.trans hl.1.symm) hown (htb _ m_435) (htb _ m_436) (htb _ m_14) (htb _ m_437) (Nat.le_of_ble_eq_true rfl) (Nat.le_of_ble_eq_true rfl) (Nat.le_of_ble_eq_true rfl) (Nat.le_of_ble_eq_true rfl) dX10_settleVacuum_33 ?_
      refine lv_topi (fun x_18 ex_19 => ?_)
      have t_20 : ((0 : Int) < x_15.toInt ∧ x_18.toInt = x_15.toInt) ∨ (x_15.toInt ≤ (0 : Int) ∧ x_18.toInt = (0 : Int)) := i_max (by decide) rfl ex_19
      refine va_iast hx hb hK hP hD hS 3 2 rfl rfl (i_in rfl (lg_X10_settleVacuum_11 n_tb f_to f_leak i_1 ga_t_vacuum_1 n1 x_4 r_9 x_11 x_15 x_18 yb hi1_0 hmu1 t_3 t_6 t_8 h_10 t_13 t_14 t_17 t_20)) dX10_settleVacuum_36 ?_
      clear hP hD hS; intro H locs hP hD hS
      change va_P (dC, dI) vwCl [(t_to, .inl (k_to, 40, .inl f_to)), (t_leak, .inl (k_leak, 40, .inl f_leak)), (h0, .inr (10, [.ref t_to, .ref t_height, .ref t_member, .ref t_lengthHome, .ref t_runs, .ref t_leak, .ref t_vacuum, .ref t_reading, .int n_tb])), (t_vacuum, .inl (k_vacuum, 40, .inl (upd ga_t_vacuum_1 (Int32.toNatClampNeg i_1) x_18)))] H at hP
      change va_D A [(t_to, .inl (k_to, 40, .inl f_to)), (t_leak, .inl (k_leak, 40, .inl f_leak)), (h0, .inr (10, [.ref t_to, .ref t_height, .ref t_member, .ref t_lengthHome, .ref t_runs, .ref t_leak, .ref t_vacuum, .ref t_reading, .int n_tb])), (t_vacuum, .inl (k_vacuum, 40, .inl (upd ga_t_vacuum_1 (Int32.toNatClampNeg i_1) x_18)))] at hD
      have hR_22 : Rg (upd ga_t_vacuum_1 (Int32.toNatClampNeg i_1) x_18) 40 0 100 := Rg_st hg1_ga_t_vacuum_1 rfl (lg_X10_settleVacuum_12 n_tb f_to f_leak i_1 ga_t_vacuum_1 n1 x_4 r_9 x_11 x_15 x_18 yb hi1_0 hmu1 t_3 t_6 t_8 h_10 t_13 t_14 t_17 t_20)
      have hQ_23 : TbV (upd ga_t_vacuum_1 (Int32.toNatClampNeg i_1) x_18) e_to f_leak nv (i_1.toInt + 1) := TbV_st (b := i_1.toInt + 1) hp1_0 yDn (lg_X10_settleVacuum_13 n_tb f_to f_leak i_1 ga_t_vacuum_1 n1 x_4 r_9 x_11 x_15 x_18 yb hi1_0 hmu1 t_3 t_6 t_8 h_10 t_13 t_14 t_17 t_20) hq_7 (lg_X10_settleVacuum_14 n_tb f_to f_leak i_1 ga_t_vacuum_1 n1 x_4 r_9 x_11 x_15 x_18 yb hi1_0 hmu1 t_3 t_6 t_8 h_10 t_13 t_14 t_17 t_20) (lg_X10_settleVacuum_15 n_tb f_to f_leak i_1 ga_t_vacuum_1 n1 x_4 r_9 x_11 x_15 x_18 yb hi1_0 hmu1 t_3 t_6 t_8 h_10 t_13 t_14 t_17 t_20) (lg_X10_settleVacuum_16 n_tb f_to f_leak i_1 ga_t_vacuum_1 n1 x_4 r_9 x_11 x_15 x_18 yb hi1_0 hmu1 t_3 t_6 t_8 h_10 t_13 t_14 t_17 t_20)
      have hQ_24 : V0 (upd ga_t_vacuum_1 (Int32.toNatClampNeg i_1) x_18) nv := V0_st hp1_1 (lg_X10_settleVacuum_17 n_tb f_to f_leak i_1 ga_t_vacuum_1 n1 x_4 r_9 x_11 x_15 x_18 yb hi1_0 hmu1 t_3 t_6 t_8 h_10 t_13 t_14 t_17 t_20)
      generalize upd ga_t_vacuum_1 (Int32.toNatClampNeg i_1) x_18 = g_21 at hP hD hR_22 hQ_23 hQ_24
      obtain ⟨x_25, ex_26⟩ : ∃ y : Int32, y = i_1 + Int32.ofInt 1 := ⟨_, rfl⟩
      have t_27 : x_25.toInt = i_1.toInt + 1 := i_add rfl (by decide) (lg_X10_settleVacuum_18 n_tb f_to f_leak i_1 ga_t_vacuum_1 n1 x_4 r_9 x_11 x_15 x_18 yb hi1_0 hmu1 t_3 t_6 t_8 h_10 t_13 t_14 t_17 t_20) ex_26
      refine lv_iinc (v := x_25) (lv' := [(1, .int x_25), (0, .ref h0)]) hx hb dX10_settleVacuum_37 hl (k := 0) rfl ex_26.symm (by decide) rfl ?_
      clear hl; intro ls hl
      refine lv_goto (tgt := 2) hx hb dX10_settleVacuum_40 (by decide) ?_
      exact ih1 x_25 g_21 H locs ls (lg_X10_settleVacuum_19 n_tb f_to f_leak i_1 ga_t_vacuum_1 n1 x_4 r_9 x_11 x_15 x_18 x_25 yb hi1_0 hmu1 t_3 t_6 t_8 h_10 t_13 t_14 t_17 t_20 t_27) (lg_X10_settleVacuum_20 n_tb f_to f_leak i_1 ga_t_vacuum_1 n1 x_4 r_9 x_11 x_15 x_18 x_25 yb hi1_0 hmu1 t_3 t_6 t_8 h_10 t_13 t_14 t_17 t_20 t_27) hR_22 (TbV_le hQ_23 (lg_X10_settleVacuum_21 n_tb f_to f_leak i_1 ga_t_vacuum_1 n1 x_4 r_9 x_11 x_15 x_18 x_25 yb hi1_0 hmu1 t_3 t_6 t_8 h_10 t_13 t_14 t_17 t_20 t_27)) hQ_24 (lv_sub hl [0, 1] rfl) (hP.sub [2, 0, 1, 3] rfl) (hD.sub [2, 0, 1, 3] (by decide) rfl) hS

theorem lg_X10_readingAhead_0 (n_tb : Int32) (v1 : Int32) (yb : 1 ≤ n_tb.toInt ∧ n_tb.toInt ≤ 40) (yv1 : 1 ≤ v1.toInt ∧ v1.toInt < n_tb.toInt) : 0 ≤ v1.toInt ∧ v1.toInt < ((40 : Nat) : Int) := by
  have := rg_rng n_tb; have := rg_rng v1; omega
theorem lg_X10_readingAhead_1 (n_tb : Int32) (v1 : Int32) (yb : 1 ≤ n_tb.toInt ∧ n_tb.toInt ≤ 40) (yv1 : 1 ≤ v1.toInt ∧ v1.toInt < n_tb.toInt) : 1 ≤ v1.toInt ∧ v1.toInt < n_tb.toInt := by
  have := rg_rng n_tb; have := rg_rng v1; omega
theorem lg_X10_readingAhead_2 (n_tb : Int32) (v1 : Int32) (yb : 1 ≤ n_tb.toInt ∧ n_tb.toInt ≤ 40) (yv1 : 1 ≤ v1.toInt ∧ v1.toInt < n_tb.toInt) : 0 ≤ v1.toInt ∧ v1.toInt < 40 := by
  have := rg_rng n_tb; have := rg_rng v1; omega
theorem lg_X10_readingAhead_3 (n_tb : Int32) (f_to : Nat → Int32) (v1 : Int32) (x_1 : Int32) (yb : 1 ≤ n_tb.toInt ∧ n_tb.toInt ≤ 40) (yv1 : 1 ≤ v1.toInt ∧ v1.toInt < n_tb.toInt) (t_3 : 0 ≤ x_1.toInt ∧ (x_1.toInt < v1.toInt ∨ x_1.toInt = 0)) (t_5 : x_1.toInt = (f_to (Int32.toNatClampNeg v1)).toInt) : (40 - (0 : Int)) < ((Int.toNat (40 - (0 : Int)) + 1 : Nat) : Int) := by
  have := rg_rng n_tb; have := rg_rng v1; have := rg_rng x_1; omega
theorem lg_X10_readingAhead_4 (n_tb : Int32) (f_to : Nat → Int32) (v1 : Int32) (x_1 : Int32) (yb : 1 ≤ n_tb.toInt ∧ n_tb.toInt ≤ 40) (yv1 : 1 ≤ v1.toInt ∧ v1.toInt < n_tb.toInt) (t_3 : 0 ≤ x_1.toInt ∧ (x_1.toInt < v1.toInt ∨ x_1.toInt = 0)) (t_5 : x_1.toInt = (f_to (Int32.toNatClampNeg v1)).toInt) : 0 ≤ (0 : Int) ∧ (0 : Int) ≤ 40 := by
  have := rg_rng n_tb; have := rg_rng v1; have := rg_rng x_1; omega
theorem lg_X10_readingAhead_5 (n_tb : Int32) (f_to : Nat → Int32) (v1 : Int32) (x_1 : Int32) (yb : 1 ≤ n_tb.toInt ∧ n_tb.toInt ≤ 40) (yv1 : 1 ≤ v1.toInt ∧ v1.toInt < n_tb.toInt) (t_3 : 0 ≤ x_1.toInt ∧ (x_1.toInt < v1.toInt ∨ x_1.toInt = 0)) (t_5 : x_1.toInt = (f_to (Int32.toNatClampNeg v1)).toInt) : 0 ≤ x_1.toInt ∧ x_1.toInt < n_tb.toInt ∧ x_1.toInt + (0 : Int) ≤ 38 := by
  have := rg_rng n_tb; have := rg_rng v1; have := rg_rng x_1; omega
theorem lg_X10_readingAhead_6 (n_tb : Int32) (f_to : Nat → Int32) (v1 : Int32) (x_1 : Int32) (yb : 1 ≤ n_tb.toInt ∧ n_tb.toInt ≤ 40) (yv1 : 1 ≤ v1.toInt ∧ v1.toInt < n_tb.toInt) (t_3 : 0 ≤ x_1.toInt ∧ (x_1.toInt < v1.toInt ∨ x_1.toInt = 0)) (t_5 : x_1.toInt = (f_to (Int32.toNatClampNeg v1)).toInt) : 0 ≤ x_1.toInt := by
  have := rg_rng n_tb; have := rg_rng v1; have := rg_rng x_1; omega
theorem lg_X10_readingAhead_7 (n_tb : Int32) (f_to : Nat → Int32) (v1 : Int32) (x_1 : Int32) (i_6 : Int32) (a_6 : Int32) (yb : 1 ≤ n_tb.toInt ∧ n_tb.toInt ≤ 40) (yv1 : 1 ≤ v1.toInt ∧ v1.toInt < n_tb.toInt) (t_3 : 0 ≤ x_1.toInt ∧ (x_1.toInt < v1.toInt ∨ x_1.toInt = 0)) (t_5 : x_1.toInt = (f_to (Int32.toNatClampNeg v1)).toInt) (hi6_0 : 0 ≤ i_6.toInt ∧ i_6.toInt ≤ 40) (hi6_1 : 0 ≤ a_6.toInt ∧ a_6.toInt < n_tb.toInt ∧ a_6.toInt + i_6.toInt ≤ 38) (hmu6 : (40 - i_6.toInt) < ((0 : Nat) : Int)) : False := by
  have := rg_rng n_tb; have := rg_rng v1; have := rg_rng x_1; have := rg_rng i_6; have := rg_rng a_6; omega
theorem lg_X10_readingAhead_8 (n_tb : Int32) (f_to : Nat → Int32) (v1 : Int32) (x_1 : Int32) (i_6 : Int32) (a_6 : Int32) (n6 : Nat) (yb : 1 ≤ n_tb.toInt ∧ n_tb.toInt ≤ 40) (yv1 : 1 ≤ v1.toInt ∧ v1.toInt < n_tb.toInt) (t_3 : 0 ≤ x_1.toInt ∧ (x_1.toInt < v1.toInt ∨ x_1.toInt = 0)) (t_5 : x_1.toInt = (f_to (Int32.toNatClampNeg v1)).toInt) (hi6_0 : 0 ≤ i_6.toInt ∧ i_6.toInt ≤ 40) (hi6_1 : 0 ≤ a_6.toInt ∧ a_6.toInt < n_tb.toInt ∧ a_6.toInt + i_6.toInt ≤ 38) (hmu6 : (40 - i_6.toInt) < ((n6 + 1 : Nat) : Int)) (t_8 : (40 : Int) ≤ i_6.toInt) : a_6.toInt = 0 := by
  have := rg_rng n_tb; have := rg_rng v1; have := rg_rng x_1; have := rg_rng i_6; have := rg_rng a_6; omega
theorem lg_X10_readingAhead_9 (n_tb : Int32) (f_to : Nat → Int32) (f_vacuum : Nat → Int32) (v1 : Int32) (e_to : Nat → Int32) (e_reading : Nat → Int32) (nv : Int32) (x_1 : Int32) (i_6 : Int32) (a_6 : Int32) (n6 : Nat) (x_10 : Int32) (yb : 1 ≤ n_tb.toInt ∧ n_tb.toInt ≤ 40) (yv1 : 1 ≤ v1.toInt ∧ v1.toInt < n_tb.toInt) (t_3 : 0 ≤ x_1.toInt ∧ (x_1.toInt < v1.toInt ∨ x_1.toInt = 0)) (t_5 : x_1.toInt = (f_to (Int32.toNatClampNeg v1)).toInt) (hi6_0 : 0 ≤ i_6.toInt ∧ i_6.toInt ≤ 40) (hi6_1 : 0 ≤ a_6.toInt ∧ a_6.toInt < n_tb.toInt ∧ a_6.toInt + i_6.toInt ≤ 38) (hmu6 : (40 - i_6.toInt) < ((n6 + 1 : Nat) : Int)) (t_8 : (40 : Int) ≤ i_6.toInt) (t_9 : raN e_to e_reading nv v1 = nv.toInt) (t_12 : x_10.toInt = nv.toInt) (t_13 : x_10.toInt = (f_vacuum (Int32.toNatClampNeg 0)).toInt) (t_14 : 0 ≤ x_10.toInt ∧ x_10.toInt ≤ 100) : x_10.toInt = raN e_to e_reading nv v1 ∧ (-1) ≤ x_10.toInt ∧ x_10.toInt ≤ 100 := by
  have := rg_rng n_tb; have := rg_rng v1; have := rg_rng nv; have := rg_rng x_1; have := rg_rng i_6; have := rg_rng a_6; have := rg_rng x_10; omega
theorem lg_X10_readingAhead_10 (n_tb : Int32) (f_to : Nat → Int32) (v1 : Int32) (x_1 : Int32) (i_6 : Int32) (a_6 : Int32) (n6 : Nat) (yb : 1 ≤ n_tb.toInt ∧ n_tb.toInt ≤ 40) (yv1 : 1 ≤ v1.toInt ∧ v1.toInt < n_tb.toInt) (t_3 : 0 ≤ x_1.toInt ∧ (x_1.toInt < v1.toInt ∨ x_1.toInt = 0)) (t_5 : x_1.toInt = (f_to (Int32.toNatClampNeg v1)).toInt) (hi6_0 : 0 ≤ i_6.toInt ∧ i_6.toInt ≤ 40) (hi6_1 : 0 ≤ a_6.toInt ∧ a_6.toInt < n_tb.toInt ∧ a_6.toInt + i_6.toInt ≤ 38) (hmu6 : (40 - i_6.toInt) < ((n6 + 1 : Nat) : Int)) (t_8 : i_6.toInt < (40 : Int)) (h_16 : 1 ≤ a_6.toInt ∧ a_6.toInt < n_tb.toInt) : 0 ≤ a_6.toInt ∧ a_6.toInt < ((40 : Nat) : Int) := by
  have := rg_rng n_tb; have := rg_rng v1; have := rg_rng x_1; have := rg_rng i_6; have := rg_rng a_6; omega
theorem lg_X10_readingAhead_11 (n_tb : Int32) (f_to : Nat → Int32) (v1 : Int32) (x_1 : Int32) (i_6 : Int32) (a_6 : Int32) (n6 : Nat) (yb : 1 ≤ n_tb.toInt ∧ n_tb.toInt ≤ 40) (yv1 : 1 ≤ v1.toInt ∧ v1.toInt < n_tb.toInt) (t_3 : 0 ≤ x_1.toInt ∧ (x_1.toInt < v1.toInt ∨ x_1.toInt = 0)) (t_5 : x_1.toInt = (f_to (Int32.toNatClampNeg v1)).toInt) (hi6_0 : 0 ≤ i_6.toInt ∧ i_6.toInt ≤ 40) (hi6_1 : 0 ≤ a_6.toInt ∧ a_6.toInt < n_tb.toInt ∧ a_6.toInt + i_6.toInt ≤ 38) (hmu6 : (40 - i_6.toInt) < ((n6 + 1 : Nat) : Int)) (t_8 : i_6.toInt < (40 : Int)) (h_16 : 1 ≤ a_6.toInt ∧ a_6.toInt < n_tb.toInt) : 0 ≤ a_6.toInt ∧ a_6.toInt < n_tb.toInt := by
  have := rg_rng n_tb; have := rg_rng v1; have := rg_rng x_1; have := rg_rng i_6; have := rg_rng a_6; omega
theorem lg_X10_readingAhead_12 (n_tb : Int32) (f_to : Nat → Int32) (v1 : Int32) (e_reading : Nat → Int32) (x_1 : Int32) (i_6 : Int32) (a_6 : Int32) (n6 : Nat) (x_18 : Int32) (yb : 1 ≤ n_tb.toInt ∧ n_tb.toInt ≤ 40) (yv1 : 1 ≤ v1.toInt ∧ v1.toInt < n_tb.toInt) (t_3 : 0 ≤ x_1.toInt ∧ (x_1.toInt < v1.toInt ∨ x_1.toInt = 0)) (t_5 : x_1.toInt = (f_to (Int32.toNatClampNeg v1)).toInt) (hi6_0 : 0 ≤ i_6.toInt ∧ i_6.toInt ≤ 40) (hi6_1 : 0 ≤ a_6.toInt ∧ a_6.toInt < n_tb.toInt ∧ a_6.toInt + i_6.toInt ≤ 38) (hmu6 : (40 - i_6.toInt) < ((n6 + 1 : Nat) : Int)) (t_8 : i_6.toInt < (40 : Int)) (h_16 : 1 ≤ a_6.toInt ∧ a_6.toInt < n_tb.toInt) (t_21 : x_18.toInt = (e_reading (Int32.toNatClampNeg a_6)).toInt) : 0 ≤ a_6.toInt ∧ a_6.toInt < ((40 : Nat) : Int) := by
  have := rg_rng n_tb; have := rg_rng v1; have := rg_rng x_1; have := rg_rng i_6; have := rg_rng a_6; have := rg_rng x_18; omega
theorem lg_X10_readingAhead_13 (n_tb : Int32) (f_to : Nat → Int32) (f_reading : Nat → Int32) (v1 : Int32) (e_reading : Nat → Int32) (x_1 : Int32) (i_6 : Int32) (a_6 : Int32) (n6 : Nat) (x_18 : Int32) (yb : 1 ≤ n_tb.toInt ∧ n_tb.toInt ≤ 40) (yv1 : 1 ≤ v1.toInt ∧ v1.toInt < n_tb.toInt) (t_3 : 0 ≤ x_1.toInt ∧ (x_1.toInt < v1.toInt ∨ x_1.toInt = 0)) (t_5 : x_1.toInt = (f_to (Int32.toNatClampNeg v1)).toInt) (hi6_0 : 0 ≤ i_6.toInt ∧ i_6.toInt ≤ 40) (hi6_1 : 0 ≤ a_6.toInt ∧ a_6.toInt < n_tb.toInt ∧ a_6.toInt + i_6.toInt ≤ 38) (hmu6 : (40 - i_6.toInt) < ((n6 + 1 : Nat) : Int)) (t_8 : i_6.toInt < (40 : Int)) (h_16 : 1 ≤ a_6.toInt ∧ a_6.toInt < n_tb.toInt) (t_21 : x_18.toInt = (e_reading (Int32.toNatClampNeg a_6)).toInt) (t_22 : (-1) ≤ x_18.toInt ∧ x_18.toInt ≤ 100) (t_23 : x_18.toInt = (f_reading (Int32.toNatClampNeg a_6)).toInt) (t_25 : x_18.toInt = (-1 : Int)) : 0 ≤ a_6.toInt ∧ a_6.toInt < ((40 : Nat) : Int) := by
  have := rg_rng n_tb; have := rg_rng v1; have := rg_rng x_1; have := rg_rng i_6; have := rg_rng a_6; have := rg_rng x_18; omega
theorem lg_X10_readingAhead_14 (n_tb : Int32) (f_to : Nat → Int32) (f_reading : Nat → Int32) (v1 : Int32) (e_reading : Nat → Int32) (x_1 : Int32) (i_6 : Int32) (a_6 : Int32) (n6 : Nat) (x_18 : Int32) (yb : 1 ≤ n_tb.toInt ∧ n_tb.toInt ≤ 40) (yv1 : 1 ≤ v1.toInt ∧ v1.toInt < n_tb.toInt) (t_3 : 0 ≤ x_1.toInt ∧ (x_1.toInt < v1.toInt ∨ x_1.toInt = 0)) (t_5 : x_1.toInt = (f_to (Int32.toNatClampNeg v1)).toInt) (hi6_0 : 0 ≤ i_6.toInt ∧ i_6.toInt ≤ 40) (hi6_1 : 0 ≤ a_6.toInt ∧ a_6.toInt < n_tb.toInt ∧ a_6.toInt + i_6.toInt ≤ 38) (hmu6 : (40 - i_6.toInt) < ((n6 + 1 : Nat) : Int)) (t_8 : i_6.toInt < (40 : Int)) (h_16 : 1 ≤ a_6.toInt ∧ a_6.toInt < n_tb.toInt) (t_21 : x_18.toInt = (e_reading (Int32.toNatClampNeg a_6)).toInt) (t_22 : (-1) ≤ x_18.toInt ∧ x_18.toInt ≤ 100) (t_23 : x_18.toInt = (f_reading (Int32.toNatClampNeg a_6)).toInt) (t_25 : x_18.toInt = (-1 : Int)) : 1 ≤ a_6.toInt ∧ a_6.toInt < n_tb.toInt := by
  have := rg_rng n_tb; have := rg_rng v1; have := rg_rng x_1; have := rg_rng i_6; have := rg_rng a_6; have := rg_rng x_18; omega
theorem lg_X10_readingAhead_15 (n_tb : Int32) (f_to : Nat → Int32) (f_reading : Nat → Int32) (v1 : Int32) (e_reading : Nat → Int32) (x_1 : Int32) (i_6 : Int32) (a_6 : Int32) (n6 : Nat) (x_18 : Int32) (yb : 1 ≤ n_tb.toInt ∧ n_tb.toInt ≤ 40) (yv1 : 1 ≤ v1.toInt ∧ v1.toInt < n_tb.toInt) (t_3 : 0 ≤ x_1.toInt ∧ (x_1.toInt < v1.toInt ∨ x_1.toInt = 0)) (t_5 : x_1.toInt = (f_to (Int32.toNatClampNeg v1)).toInt) (hi6_0 : 0 ≤ i_6.toInt ∧ i_6.toInt ≤ 40) (hi6_1 : 0 ≤ a_6.toInt ∧ a_6.toInt < n_tb.toInt ∧ a_6.toInt + i_6.toInt ≤ 38) (hmu6 : (40 - i_6.toInt) < ((n6 + 1 : Nat) : Int)) (t_8 : i_6.toInt < (40 : Int)) (h_16 : 1 ≤ a_6.toInt ∧ a_6.toInt < n_tb.toInt) (t_21 : x_18.toInt = (e_reading (Int32.toNatClampNeg a_6)).toInt) (t_22 : (-1) ≤ x_18.toInt ∧ x_18.toInt ≤ 100) (t_23 : x_18.toInt = (f_reading (Int32.toNatClampNeg a_6)).toInt) (t_25 : x_18.toInt = (-1 : Int)) : 0 ≤ a_6.toInt ∧ a_6.toInt < 40 := by
  have := rg_rng n_tb; have := rg_rng v1; have := rg_rng x_1; have := rg_rng i_6; have := rg_rng a_6; have := rg_rng x_18; omega
theorem lg_X10_readingAhead_16 (n_tb : Int32) (f_to : Nat → Int32) (f_reading : Nat → Int32) (v1 : Int32) (e_reading : Nat → Int32) (x_1 : Int32) (i_6 : Int32) (a_6 : Int32) (n6 : Nat) (x_18 : Int32) (x_26 : Int32) (yb : 1 ≤ n_tb.toInt ∧ n_tb.toInt ≤ 40) (yv1 : 1 ≤ v1.toInt ∧ v1.toInt < n_tb.toInt) (t_3 : 0 ≤ x_1.toInt ∧ (x_1.toInt < v1.toInt ∨ x_1.toInt = 0)) (t_5 : x_1.toInt = (f_to (Int32.toNatClampNeg v1)).toInt) (hi6_0 : 0 ≤ i_6.toInt ∧ i_6.toInt ≤ 40) (hi6_1 : 0 ≤ a_6.toInt ∧ a_6.toInt < n_tb.toInt ∧ a_6.toInt + i_6.toInt ≤ 38) (hmu6 : (40 - i_6.toInt) < ((n6 + 1 : Nat) : Int)) (t_8 : i_6.toInt < (40 : Int)) (h_16 : 1 ≤ a_6.toInt ∧ a_6.toInt < n_tb.toInt) (t_21 : x_18.toInt = (e_reading (Int32.toNatClampNeg a_6)).toInt) (t_22 : (-1) ≤ x_18.toInt ∧ x_18.toInt ≤ 100) (t_23 : x_18.toInt = (f_reading (Int32.toNatClampNeg a_6)).toInt) (t_25 : x_18.toInt = (-1 : Int)) (t_28 : 0 ≤ x_26.toInt ∧ (x_26.toInt < a_6.toInt ∨ x_26.toInt = 0)) (t_30 : x_26.toInt = (f_to (Int32.toNatClampNeg a_6)).toInt) : -2147483648 ≤ i_6.toInt + 1 ∧ i_6.toInt + 1 < 2147483648 := by
  have := rg_rng n_tb; have := rg_rng v1; have := rg_rng x_1; have := rg_rng i_6; have := rg_rng a_6; have := rg_rng x_18; have := rg_rng x_26; omega
theorem lg_X10_readingAhead_17 (n_tb : Int32) (f_to : Nat → Int32) (f_reading : Nat → Int32) (v1 : Int32) (e_reading : Nat → Int32) (x_1 : Int32) (i_6 : Int32) (a_6 : Int32) (n6 : Nat) (x_18 : Int32) (x_26 : Int32) (x_31 : Int32) (yb : 1 ≤ n_tb.toInt ∧ n_tb.toInt ≤ 40) (yv1 : 1 ≤ v1.toInt ∧ v1.toInt < n_tb.toInt) (t_3 : 0 ≤ x_1.toInt ∧ (x_1.toInt < v1.toInt ∨ x_1.toInt = 0)) (t_5 : x_1.toInt = (f_to (Int32.toNatClampNeg v1)).toInt) (hi6_0 : 0 ≤ i_6.toInt ∧ i_6.toInt ≤ 40) (hi6_1 : 0 ≤ a_6.toInt ∧ a_6.toInt < n_tb.toInt ∧ a_6.toInt + i_6.toInt ≤ 38) (hmu6 : (40 - i_6.toInt) < ((n6 + 1 : Nat) : Int)) (t_8 : i_6.toInt < (40 : Int)) (h_16 : 1 ≤ a_6.toInt ∧ a_6.toInt < n_tb.toInt) (t_21 : x_18.toInt = (e_reading (Int32.toNatClampNeg a_6)).toInt) (t_22 : (-1) ≤ x_18.toInt ∧ x_18.toInt ≤ 100) (t_23 : x_18.toInt = (f_reading (Int32.toNatClampNeg a_6)).toInt) (t_25 : x_18.toInt = (-1 : Int)) (t_28 : 0 ≤ x_26.toInt ∧ (x_26.toInt < a_6.toInt ∨ x_26.toInt = 0)) (t_30 : x_26.toInt = (f_to (Int32.toNatClampNeg a_6)).toInt) (t_33 : x_31.toInt = i_6.toInt + 1) : (40 - x_31.toInt) < (n6 : Int) := by
  have := rg_rng n_tb; have := rg_rng v1; have := rg_rng x_1; have := rg_rng i_6; have := rg_rng a_6; have := rg_rng x_18; have := rg_rng x_26; have := rg_rng x_31; omega
theorem lg_X10_readingAhead_18 (n_tb : Int32) (f_to : Nat → Int32) (f_reading : Nat → Int32) (v1 : Int32) (e_reading : Nat → Int32) (x_1 : Int32) (i_6 : Int32) (a_6 : Int32) (n6 : Nat) (x_18 : Int32) (x_26 : Int32) (x_31 : Int32) (yb : 1 ≤ n_tb.toInt ∧ n_tb.toInt ≤ 40) (yv1 : 1 ≤ v1.toInt ∧ v1.toInt < n_tb.toInt) (t_3 : 0 ≤ x_1.toInt ∧ (x_1.toInt < v1.toInt ∨ x_1.toInt = 0)) (t_5 : x_1.toInt = (f_to (Int32.toNatClampNeg v1)).toInt) (hi6_0 : 0 ≤ i_6.toInt ∧ i_6.toInt ≤ 40) (hi6_1 : 0 ≤ a_6.toInt ∧ a_6.toInt < n_tb.toInt ∧ a_6.toInt + i_6.toInt ≤ 38) (hmu6 : (40 - i_6.toInt) < ((n6 + 1 : Nat) : Int)) (t_8 : i_6.toInt < (40 : Int)) (h_16 : 1 ≤ a_6.toInt ∧ a_6.toInt < n_tb.toInt) (t_21 : x_18.toInt = (e_reading (Int32.toNatClampNeg a_6)).toInt) (t_22 : (-1) ≤ x_18.toInt ∧ x_18.toInt ≤ 100) (t_23 : x_18.toInt = (f_reading (Int32.toNatClampNeg a_6)).toInt) (t_25 : x_18.toInt = (-1 : Int)) (t_28 : 0 ≤ x_26.toInt ∧ (x_26.toInt < a_6.toInt ∨ x_26.toInt = 0)) (t_30 : x_26.toInt = (f_to (Int32.toNatClampNeg a_6)).toInt) (t_33 : x_31.toInt = i_6.toInt + 1) : 0 ≤ x_31.toInt ∧ x_31.toInt ≤ 40 := by
  have := rg_rng n_tb; have := rg_rng v1; have := rg_rng x_1; have := rg_rng i_6; have := rg_rng a_6; have := rg_rng x_18; have := rg_rng x_26; have := rg_rng x_31; omega
theorem lg_X10_readingAhead_19 (n_tb : Int32) (f_to : Nat → Int32) (f_reading : Nat → Int32) (v1 : Int32) (e_reading : Nat → Int32) (x_1 : Int32) (i_6 : Int32) (a_6 : Int32) (n6 : Nat) (x_18 : Int32) (x_26 : Int32) (x_31 : Int32) (yb : 1 ≤ n_tb.toInt ∧ n_tb.toInt ≤ 40) (yv1 : 1 ≤ v1.toInt ∧ v1.toInt < n_tb.toInt) (t_3 : 0 ≤ x_1.toInt ∧ (x_1.toInt < v1.toInt ∨ x_1.toInt = 0)) (t_5 : x_1.toInt = (f_to (Int32.toNatClampNeg v1)).toInt) (hi6_0 : 0 ≤ i_6.toInt ∧ i_6.toInt ≤ 40) (hi6_1 : 0 ≤ a_6.toInt ∧ a_6.toInt < n_tb.toInt ∧ a_6.toInt + i_6.toInt ≤ 38) (hmu6 : (40 - i_6.toInt) < ((n6 + 1 : Nat) : Int)) (t_8 : i_6.toInt < (40 : Int)) (h_16 : 1 ≤ a_6.toInt ∧ a_6.toInt < n_tb.toInt) (t_21 : x_18.toInt = (e_reading (Int32.toNatClampNeg a_6)).toInt) (t_22 : (-1) ≤ x_18.toInt ∧ x_18.toInt ≤ 100) (t_23 : x_18.toInt = (f_reading (Int32.toNatClampNeg a_6)).toInt) (t_25 : x_18.toInt = (-1 : Int)) (t_28 : 0 ≤ x_26.toInt ∧ (x_26.toInt < a_6.toInt ∨ x_26.toInt = 0)) (t_30 : x_26.toInt = (f_to (Int32.toNatClampNeg a_6)).toInt) (t_33 : x_31.toInt = i_6.toInt + 1) : 0 ≤ x_26.toInt ∧ x_26.toInt < n_tb.toInt ∧ x_26.toInt + x_31.toInt ≤ 38 := by
  have := rg_rng n_tb; have := rg_rng v1; have := rg_rng x_1; have := rg_rng i_6; have := rg_rng a_6; have := rg_rng x_18; have := rg_rng x_26; have := rg_rng x_31; omega
theorem lg_X10_readingAhead_20 (n_tb : Int32) (f_to : Nat → Int32) (f_reading : Nat → Int32) (v1 : Int32) (e_reading : Nat → Int32) (x_1 : Int32) (i_6 : Int32) (a_6 : Int32) (n6 : Nat) (x_18 : Int32) (x_26 : Int32) (x_31 : Int32) (yb : 1 ≤ n_tb.toInt ∧ n_tb.toInt ≤ 40) (yv1 : 1 ≤ v1.toInt ∧ v1.toInt < n_tb.toInt) (t_3 : 0 ≤ x_1.toInt ∧ (x_1.toInt < v1.toInt ∨ x_1.toInt = 0)) (t_5 : x_1.toInt = (f_to (Int32.toNatClampNeg v1)).toInt) (hi6_0 : 0 ≤ i_6.toInt ∧ i_6.toInt ≤ 40) (hi6_1 : 0 ≤ a_6.toInt ∧ a_6.toInt < n_tb.toInt ∧ a_6.toInt + i_6.toInt ≤ 38) (hmu6 : (40 - i_6.toInt) < ((n6 + 1 : Nat) : Int)) (t_8 : i_6.toInt < (40 : Int)) (h_16 : 1 ≤ a_6.toInt ∧ a_6.toInt < n_tb.toInt) (t_21 : x_18.toInt = (e_reading (Int32.toNatClampNeg a_6)).toInt) (t_22 : (-1) ≤ x_18.toInt ∧ x_18.toInt ≤ 100) (t_23 : x_18.toInt = (f_reading (Int32.toNatClampNeg a_6)).toInt) (t_25 : x_18.toInt = (-1 : Int)) (t_28 : 0 ≤ x_26.toInt ∧ (x_26.toInt < a_6.toInt ∨ x_26.toInt = 0)) (t_30 : x_26.toInt = (f_to (Int32.toNatClampNeg a_6)).toInt) (t_33 : x_31.toInt = i_6.toInt + 1) : 1 ≤ a_6.toInt ∧ a_6.toInt < 40 := by
  have := rg_rng n_tb; have := rg_rng v1; have := rg_rng x_1; have := rg_rng i_6; have := rg_rng a_6; have := rg_rng x_18; have := rg_rng x_26; have := rg_rng x_31; omega
theorem lg_X10_readingAhead_21 (n_tb : Int32) (f_to : Nat → Int32) (f_reading : Nat → Int32) (v1 : Int32) (e_reading : Nat → Int32) (x_1 : Int32) (i_6 : Int32) (a_6 : Int32) (n6 : Nat) (x_18 : Int32) (x_26 : Int32) (x_31 : Int32) (yb : 1 ≤ n_tb.toInt ∧ n_tb.toInt ≤ 40) (yv1 : 1 ≤ v1.toInt ∧ v1.toInt < n_tb.toInt) (t_3 : 0 ≤ x_1.toInt ∧ (x_1.toInt < v1.toInt ∨ x_1.toInt = 0)) (t_5 : x_1.toInt = (f_to (Int32.toNatClampNeg v1)).toInt) (hi6_0 : 0 ≤ i_6.toInt ∧ i_6.toInt ≤ 40) (hi6_1 : 0 ≤ a_6.toInt ∧ a_6.toInt < n_tb.toInt ∧ a_6.toInt + i_6.toInt ≤ 38) (hmu6 : (40 - i_6.toInt) < ((n6 + 1 : Nat) : Int)) (t_8 : i_6.toInt < (40 : Int)) (h_16 : 1 ≤ a_6.toInt ∧ a_6.toInt < n_tb.toInt) (t_21 : x_18.toInt = (e_reading (Int32.toNatClampNeg a_6)).toInt) (t_22 : (-1) ≤ x_18.toInt ∧ x_18.toInt ≤ 100) (t_23 : x_18.toInt = (f_reading (Int32.toNatClampNeg a_6)).toInt) (t_25 : x_18.toInt = (-1 : Int)) (t_28 : 0 ≤ x_26.toInt ∧ (x_26.toInt < a_6.toInt ∨ x_26.toInt = 0)) (t_30 : x_26.toInt = (f_to (Int32.toNatClampNeg a_6)).toInt) (t_33 : x_31.toInt = i_6.toInt + 1) : (e_reading (Int32.toNatClampNeg a_6)).toInt = (-1) := by
  have := rg_rng n_tb; have := rg_rng v1; have := rg_rng x_1; have := rg_rng i_6; have := rg_rng a_6; have := rg_rng x_18; have := rg_rng x_26; have := rg_rng x_31; omega
theorem lg_X10_readingAhead_22 (n_tb : Int32) (f_to : Nat → Int32) (f_reading : Nat → Int32) (v1 : Int32) (e_reading : Nat → Int32) (x_1 : Int32) (i_6 : Int32) (a_6 : Int32) (n6 : Nat) (x_18 : Int32) (x_26 : Int32) (x_31 : Int32) (yb : 1 ≤ n_tb.toInt ∧ n_tb.toInt ≤ 40) (yv1 : 1 ≤ v1.toInt ∧ v1.toInt < n_tb.toInt) (t_3 : 0 ≤ x_1.toInt ∧ (x_1.toInt < v1.toInt ∨ x_1.toInt = 0)) (t_5 : x_1.toInt = (f_to (Int32.toNatClampNeg v1)).toInt) (hi6_0 : 0 ≤ i_6.toInt ∧ i_6.toInt ≤ 40) (hi6_1 : 0 ≤ a_6.toInt ∧ a_6.toInt < n_tb.toInt ∧ a_6.toInt + i_6.toInt ≤ 38) (hmu6 : (40 - i_6.toInt) < ((n6 + 1 : Nat) : Int)) (t_8 : i_6.toInt < (40 : Int)) (h_16 : 1 ≤ a_6.toInt ∧ a_6.toInt < n_tb.toInt) (t_21 : x_18.toInt = (e_reading (Int32.toNatClampNeg a_6)).toInt) (t_22 : (-1) ≤ x_18.toInt ∧ x_18.toInt ≤ 100) (t_23 : x_18.toInt = (f_reading (Int32.toNatClampNeg a_6)).toInt) (t_25 : x_18.toInt = (-1 : Int)) (t_28 : 0 ≤ x_26.toInt ∧ (x_26.toInt < a_6.toInt ∨ x_26.toInt = 0)) (t_30 : x_26.toInt = (f_to (Int32.toNatClampNeg a_6)).toInt) (t_33 : x_31.toInt = i_6.toInt + 1) : 0 ≤ x_26.toInt := by
  have := rg_rng n_tb; have := rg_rng v1; have := rg_rng x_1; have := rg_rng i_6; have := rg_rng a_6; have := rg_rng x_18; have := rg_rng x_26; have := rg_rng x_31; omega
theorem lg_X10_readingAhead_23 (n_tb : Int32) (f_to : Nat → Int32) (f_reading : Nat → Int32) (v1 : Int32) (e_reading : Nat → Int32) (x_1 : Int32) (i_6 : Int32) (a_6 : Int32) (n6 : Nat) (x_18 : Int32) (yb : 1 ≤ n_tb.toInt ∧ n_tb.toInt ≤ 40) (yv1 : 1 ≤ v1.toInt ∧ v1.toInt < n_tb.toInt) (t_3 : 0 ≤ x_1.toInt ∧ (x_1.toInt < v1.toInt ∨ x_1.toInt = 0)) (t_5 : x_1.toInt = (f_to (Int32.toNatClampNeg v1)).toInt) (hi6_0 : 0 ≤ i_6.toInt ∧ i_6.toInt ≤ 40) (hi6_1 : 0 ≤ a_6.toInt ∧ a_6.toInt < n_tb.toInt ∧ a_6.toInt + i_6.toInt ≤ 38) (hmu6 : (40 - i_6.toInt) < ((n6 + 1 : Nat) : Int)) (t_8 : i_6.toInt < (40 : Int)) (h_16 : 1 ≤ a_6.toInt ∧ a_6.toInt < n_tb.toInt) (t_21 : x_18.toInt = (e_reading (Int32.toNatClampNeg a_6)).toInt) (t_22 : (-1) ≤ x_18.toInt ∧ x_18.toInt ≤ 100) (t_23 : x_18.toInt = (f_reading (Int32.toNatClampNeg a_6)).toInt) (t_25 : ¬ x_18.toInt = (-1 : Int)) : 1 ≤ a_6.toInt ∧ a_6.toInt < 40 := by
  have := rg_rng n_tb; have := rg_rng v1; have := rg_rng x_1; have := rg_rng i_6; have := rg_rng a_6; have := rg_rng x_18; omega
theorem lg_X10_readingAhead_24 (n_tb : Int32) (f_to : Nat → Int32) (f_reading : Nat → Int32) (v1 : Int32) (e_reading : Nat → Int32) (x_1 : Int32) (i_6 : Int32) (a_6 : Int32) (n6 : Nat) (x_18 : Int32) (yb : 1 ≤ n_tb.toInt ∧ n_tb.toInt ≤ 40) (yv1 : 1 ≤ v1.toInt ∧ v1.toInt < n_tb.toInt) (t_3 : 0 ≤ x_1.toInt ∧ (x_1.toInt < v1.toInt ∨ x_1.toInt = 0)) (t_5 : x_1.toInt = (f_to (Int32.toNatClampNeg v1)).toInt) (hi6_0 : 0 ≤ i_6.toInt ∧ i_6.toInt ≤ 40) (hi6_1 : 0 ≤ a_6.toInt ∧ a_6.toInt < n_tb.toInt ∧ a_6.toInt + i_6.toInt ≤ 38) (hmu6 : (40 - i_6.toInt) < ((n6 + 1 : Nat) : Int)) (t_8 : i_6.toInt < (40 : Int)) (h_16 : 1 ≤ a_6.toInt ∧ a_6.toInt < n_tb.toInt) (t_21 : x_18.toInt = (e_reading (Int32.toNatClampNeg a_6)).toInt) (t_22 : (-1) ≤ x_18.toInt ∧ x_18.toInt ≤ 100) (t_23 : x_18.toInt = (f_reading (Int32.toNatClampNeg a_6)).toInt) (t_25 : ¬ x_18.toInt = (-1 : Int)) : ¬ (e_reading (Int32.toNatClampNeg a_6)).toInt = (-1) := by
  have := rg_rng n_tb; have := rg_rng v1; have := rg_rng x_1; have := rg_rng i_6; have := rg_rng a_6; have := rg_rng x_18; omega
theorem lg_X10_readingAhead_25 (n_tb : Int32) (f_to : Nat → Int32) (f_reading : Nat → Int32) (v1 : Int32) (e_to : Nat → Int32) (e_reading : Nat → Int32) (nv : Int32) (x_1 : Int32) (i_6 : Int32) (a_6 : Int32) (n6 : Nat) (x_18 : Int32) (yb : 1 ≤ n_tb.toInt ∧ n_tb.toInt ≤ 40) (yv1 : 1 ≤ v1.toInt ∧ v1.toInt < n_tb.toInt) (t_3 : 0 ≤ x_1.toInt ∧ (x_1.toInt < v1.toInt ∨ x_1.toInt = 0)) (t_5 : x_1.toInt = (f_to (Int32.toNatClampNeg v1)).toInt) (hi6_0 : 0 ≤ i_6.toInt ∧ i_6.toInt ≤ 40) (hi6_1 : 0 ≤ a_6.toInt ∧ a_6.toInt < n_tb.toInt ∧ a_6.toInt + i_6.toInt ≤ 38) (hmu6 : (40 - i_6.toInt) < ((n6 + 1 : Nat) : Int)) (t_8 : i_6.toInt < (40 : Int)) (h_16 : 1 ≤ a_6.toInt ∧ a_6.toInt < n_tb.toInt) (t_21 : x_18.toInt = (e_reading (Int32.toNatClampNeg a_6)).toInt) (t_22 : (-1) ≤ x_18.toInt ∧ x_18.toInt ≤ 100) (t_23 : x_18.toInt = (f_reading (Int32.toNatClampNeg a_6)).toInt) (t_25 : ¬ x_18.toInt = (-1 : Int)) (t_34 : raN e_to e_reading nv v1 = (e_reading (Int32.toNatClampNeg a_6)).toInt) : 0 ≤ a_6.toInt ∧ a_6.toInt < ((40 : Nat) : Int) := by
  have := rg_rng n_tb; have := rg_rng v1; have := rg_rng x_1; have := rg_rng i_6; have := rg_rng a_6; have := rg_rng x_18; omega
theorem lg_X10_readingAhead_26 (n_tb : Int32) (f_to : Nat → Int32) (f_reading : Nat → Int32) (v1 : Int32) (e_to : Nat → Int32) (e_reading : Nat → Int32) (nv : Int32) (x_1 : Int32) (i_6 : Int32) (a_6 : Int32) (n6 : Nat) (x_18 : Int32) (yb : 1 ≤ n_tb.toInt ∧ n_tb.toInt ≤ 40) (yv1 : 1 ≤ v1.toInt ∧ v1.toInt < n_tb.toInt) (t_3 : 0 ≤ x_1.toInt ∧ (x_1.toInt < v1.toInt ∨ x_1.toInt = 0)) (t_5 : x_1.toInt = (f_to (Int32.toNatClampNeg v1)).toInt) (hi6_0 : 0 ≤ i_6.toInt ∧ i_6.toInt ≤ 40) (hi6_1 : 0 ≤ a_6.toInt ∧ a_6.toInt < n_tb.toInt ∧ a_6.toInt + i_6.toInt ≤ 38) (hmu6 : (40 - i_6.toInt) < ((n6 + 1 : Nat) : Int)) (t_8 : i_6.toInt < (40 : Int)) (h_16 : 1 ≤ a_6.toInt ∧ a_6.toInt < n_tb.toInt) (t_21 : x_18.toInt = (e_reading (Int32.toNatClampNeg a_6)).toInt) (t_22 : (-1) ≤ x_18.toInt ∧ x_18.toInt ≤ 100) (t_23 : x_18.toInt = (f_reading (Int32.toNatClampNeg a_6)).toInt) (t_25 : ¬ x_18.toInt = (-1 : Int)) (t_34 : raN e_to e_reading nv v1 = (e_reading (Int32.toNatClampNeg a_6)).toInt) : 0 ≤ a_6.toInt ∧ a_6.toInt < n_tb.toInt := by
  have := rg_rng n_tb; have := rg_rng v1; have := rg_rng x_1; have := rg_rng i_6; have := rg_rng a_6; have := rg_rng x_18; omega
theorem lg_X10_readingAhead_27 (n_tb : Int32) (f_to : Nat → Int32) (f_reading : Nat → Int32) (v1 : Int32) (e_to : Nat → Int32) (e_reading : Nat → Int32) (nv : Int32) (x_1 : Int32) (i_6 : Int32) (a_6 : Int32) (n6 : Nat) (x_18 : Int32) (x_35 : Int32) (yb : 1 ≤ n_tb.toInt ∧ n_tb.toInt ≤ 40) (yv1 : 1 ≤ v1.toInt ∧ v1.toInt < n_tb.toInt) (t_3 : 0 ≤ x_1.toInt ∧ (x_1.toInt < v1.toInt ∨ x_1.toInt = 0)) (t_5 : x_1.toInt = (f_to (Int32.toNatClampNeg v1)).toInt) (hi6_0 : 0 ≤ i_6.toInt ∧ i_6.toInt ≤ 40) (hi6_1 : 0 ≤ a_6.toInt ∧ a_6.toInt < n_tb.toInt ∧ a_6.toInt + i_6.toInt ≤ 38) (hmu6 : (40 - i_6.toInt) < ((n6 + 1 : Nat) : Int)) (t_8 : i_6.toInt < (40 : Int)) (h_16 : 1 ≤ a_6.toInt ∧ a_6.toInt < n_tb.toInt) (t_21 : x_18.toInt = (e_reading (Int32.toNatClampNeg a_6)).toInt) (t_22 : (-1) ≤ x_18.toInt ∧ x_18.toInt ≤ 100) (t_23 : x_18.toInt = (f_reading (Int32.toNatClampNeg a_6)).toInt) (t_25 : ¬ x_18.toInt = (-1 : Int)) (t_34 : raN e_to e_reading nv v1 = (e_reading (Int32.toNatClampNeg a_6)).toInt) (t_38 : x_35.toInt = (e_reading (Int32.toNatClampNeg a_6)).toInt) : 0 ≤ a_6.toInt ∧ a_6.toInt < ((40 : Nat) : Int) := by
  have := rg_rng n_tb; have := rg_rng v1; have := rg_rng x_1; have := rg_rng i_6; have := rg_rng a_6; have := rg_rng x_18; have := rg_rng x_35; omega
theorem lg_X10_readingAhead_28 (n_tb : Int32) (f_to : Nat → Int32) (f_reading : Nat → Int32) (v1 : Int32) (e_to : Nat → Int32) (e_reading : Nat → Int32) (nv : Int32) (x_1 : Int32) (i_6 : Int32) (a_6 : Int32) (n6 : Nat) (x_18 : Int32) (x_35 : Int32) (yb : 1 ≤ n_tb.toInt ∧ n_tb.toInt ≤ 40) (yv1 : 1 ≤ v1.toInt ∧ v1.toInt < n_tb.toInt) (t_3 : 0 ≤ x_1.toInt ∧ (x_1.toInt < v1.toInt ∨ x_1.toInt = 0)) (t_5 : x_1.toInt = (f_to (Int32.toNatClampNeg v1)).toInt) (hi6_0 : 0 ≤ i_6.toInt ∧ i_6.toInt ≤ 40) (hi6_1 : 0 ≤ a_6.toInt ∧ a_6.toInt < n_tb.toInt ∧ a_6.toInt + i_6.toInt ≤ 38) (hmu6 : (40 - i_6.toInt) < ((n6 + 1 : Nat) : Int)) (t_8 : i_6.toInt < (40 : Int)) (h_16 : 1 ≤ a_6.toInt ∧ a_6.toInt < n_tb.toInt) (t_21 : x_18.toInt = (e_reading (Int32.toNatClampNeg a_6)).toInt) (t_22 : (-1) ≤ x_18.toInt ∧ x_18.toInt ≤ 100) (t_23 : x_18.toInt = (f_reading (Int32.toNatClampNeg a_6)).toInt) (t_25 : ¬ x_18.toInt = (-1 : Int)) (t_34 : raN e_to e_reading nv v1 = (e_reading (Int32.toNatClampNeg a_6)).toInt) (t_38 : x_35.toInt = (e_reading (Int32.toNatClampNeg a_6)).toInt) (t_39 : (-1) ≤ x_35.toInt ∧ x_35.toInt ≤ 100) (t_40 : x_35.toInt = (f_reading (Int32.toNatClampNeg a_6)).toInt) (t_41 : x_35.toInt = x_18.toInt) : x_35.toInt = raN e_to e_reading nv v1 ∧ (-1) ≤ x_35.toInt ∧ x_35.toInt ≤ 100 := by
  have := rg_rng n_tb; have := rg_rng v1; have := rg_rng x_1; have := rg_rng i_6; have := rg_rng a_6; have := rg_rng x_18; have := rg_rng x_35; omega
theorem lg_X10_readingAhead_29 (n_tb : Int32) (f_to : Nat → Int32) (v1 : Int32) (x_1 : Int32) (i_6 : Int32) (a_6 : Int32) (n6 : Nat) (yb : 1 ≤ n_tb.toInt ∧ n_tb.toInt ≤ 40) (yv1 : 1 ≤ v1.toInt ∧ v1.toInt < n_tb.toInt) (t_3 : 0 ≤ x_1.toInt ∧ (x_1.toInt < v1.toInt ∨ x_1.toInt = 0)) (t_5 : x_1.toInt = (f_to (Int32.toNatClampNeg v1)).toInt) (hi6_0 : 0 ≤ i_6.toInt ∧ i_6.toInt ≤ 40) (hi6_1 : 0 ≤ a_6.toInt ∧ a_6.toInt < n_tb.toInt ∧ a_6.toInt + i_6.toInt ≤ 38) (hmu6 : (40 - i_6.toInt) < ((n6 + 1 : Nat) : Int)) (t_8 : i_6.toInt < (40 : Int)) (h_16 : ¬ (1 ≤ a_6.toInt ∧ a_6.toInt < n_tb.toInt)) : a_6.toInt = 0 := by
  have := rg_rng n_tb; have := rg_rng v1; have := rg_rng x_1; have := rg_rng i_6; have := rg_rng a_6; omega
theorem lg_X10_readingAhead_30 (n_tb : Int32) (f_to : Nat → Int32) (f_vacuum : Nat → Int32) (v1 : Int32) (e_to : Nat → Int32) (e_reading : Nat → Int32) (nv : Int32) (x_1 : Int32) (i_6 : Int32) (a_6 : Int32) (n6 : Nat) (x_44 : Int32) (yb : 1 ≤ n_tb.toInt ∧ n_tb.toInt ≤ 40) (yv1 : 1 ≤ v1.toInt ∧ v1.toInt < n_tb.toInt) (t_3 : 0 ≤ x_1.toInt ∧ (x_1.toInt < v1.toInt ∨ x_1.toInt = 0)) (t_5 : x_1.toInt = (f_to (Int32.toNatClampNeg v1)).toInt) (hi6_0 : 0 ≤ i_6.toInt ∧ i_6.toInt ≤ 40) (hi6_1 : 0 ≤ a_6.toInt ∧ a_6.toInt < n_tb.toInt ∧ a_6.toInt + i_6.toInt ≤ 38) (hmu6 : (40 - i_6.toInt) < ((n6 + 1 : Nat) : Int)) (t_8 : i_6.toInt < (40 : Int)) (h_16 : ¬ (1 ≤ a_6.toInt ∧ a_6.toInt < n_tb.toInt)) (t_43 : raN e_to e_reading nv v1 = nv.toInt) (t_46 : x_44.toInt = nv.toInt) (t_47 : x_44.toInt = (f_vacuum (Int32.toNatClampNeg 0)).toInt) (t_48 : 0 ≤ x_44.toInt ∧ x_44.toInt ≤ 100) : x_44.toInt = raN e_to e_reading nv v1 ∧ (-1) ≤ x_44.toInt ∧ x_44.toInt ≤ 100 := by
  have := rg_rng n_tb; have := rg_rng v1; have := rg_rng nv; have := rg_rng x_1; have := rg_rng i_6; have := rg_rng a_6; have := rg_rng x_44; omega
set_option maxHeartbeats 4000000 in
set_option maxRecDepth 100000 in
theorem kX10_readingAhead (l : Launch) (dC : Nat → ClassId) (dI : Nat → Nat → Nat) (sz : Nat) (h0 : Nat) (t_to : Nat) (t_height : Nat) (t_member : Nat) (t_lengthHome : Nat) (t_runs : Nat) (t_leak : Nat) (t_vacuum : Nat) (t_reading : Nat) (n_tb : Int32) (k_to : ClassId) (k_reading : ClassId) (k_vacuum : ClassId) (f_to : Nat → Int32) (f_reading : Nat → Int32) (f_vacuum : Nat → Int32) (v1 : Int32) (e_to : Nat → Int32) (e_reading : Nat → Int32) (nv : Int32) (yb : 1 ≤ n_tb.toInt ∧ n_tb.toInt ≤ 40) (yvac : Rg f_vacuum 40 0 100) (yv1 : 1 ≤ v1.toInt ∧ v1.toInt < n_tb.toInt) (yTT : TbT f_to e_to n_tb.toInt) (yDn : Dn e_to) (yTE : TbE f_reading e_reading n_tb.toInt) (yRe : Rg e_reading 40 (-1) 100) (yV0 : V0 f_vacuum nv) : Met l yX10_readingAhead (Cond.code yX10_readingAhead cX10_readingAhead 4 (some .int) :: bg) ({ frames := 2, cells := 0, slots := 0, locals := 42 }) (pcW dC dI [.ref h0, .int v1] sz [(h0, .inr (10, [.ref t_to, .ref t_height, .ref t_member, .ref t_lengthHome, .ref t_runs, .ref t_leak, .ref t_vacuum, .ref t_reading, .int n_tb])), (t_to, .inl (k_to, 40, .inl f_to)), (t_reading, .inl (k_reading, 40, .inl f_reading)), (t_vacuum, .inl (k_vacuum, 40, .inl f_vacuum))] [(k_to, .int), (k_reading, .int), (k_vacuum, .int)]) (va_Qi (fun (r : Int32) (u : Unit) => r.toInt = raN e_to e_reading nv v1 ∧ (-1) ≤ r.toInt ∧ r.toInt ≤ 100) (fun (u : Unit) (t : State) => va_P (dC, dI) vwCl [(h0, .inr (10, [.ref t_to, .ref t_height, .ref t_member, .ref t_lengthHome, .ref t_runs, .ref t_leak, .ref t_vacuum, .ref t_reading, .int n_tb])), (t_to, .inl (k_to, 40, .inl f_to)), (t_reading, .inl (k_reading, 40, .inl f_reading)), (t_vacuum, .inl (k_vacuum, 40, .inl f_vacuum))] t.heap ∧ va_K (dC, dI) vwCl [(k_to, .int), (k_reading, .int), (k_vacuum, .int)] t ∧ va_D (va_A [(h0, .inr (10, [.ref t_to, .ref t_height, .ref t_member, .ref t_lengthHome, .ref t_runs, .ref t_leak, .ref t_vacuum, .ref t_reading, .int n_tb])), (t_to, .inl (k_to, 40, .inl f_to)), (t_reading, .inl (k_reading, 40, .inl f_reading)), (t_vacuum, .inl (k_vacuum, 40, .inl f_vacuum))] sz) [(h0, .inr (10, [.ref t_to, .ref t_height, .ref t_member, .ref t_lengthHome, .ref t_runs, .ref t_leak, .ref t_vacuum, .ref t_reading, .int n_tb])), (t_to, .inl (k_to, 40, .inl f_to)), (t_reading, .inl (k_reading, 40, .inl f_reading)), (t_vacuum, .inl (k_vacuum, 40, .inl f_vacuum))]) (va_A [(h0, .inr (10, [.ref t_to, .ref t_height, .ref t_member, .ref t_lengthHome, .ref t_runs, .ref t_leak, .ref t_vacuum, .ref t_reading, .int n_tb])), (t_to, .inl (k_to, 40, .inl f_to)), (t_reading, .inl (k_reading, 40, .inl f_reading)), (t_vacuum, .inl (k_vacuum, 40, .inl f_vacuum))] sz)) 0 0 (va_A [(h0, .inr (10, [.ref t_to, .ref t_height, .ref t_member, .ref t_lengthHome, .ref t_runs, .ref t_leak, .ref t_vacuum, .ref t_reading, .int n_tb])), (t_to, .inl (k_to, 40, .inl f_to)), (t_reading, .inl (k_reading, 40, .inl f_reading)), (t_vacuum, .inl (k_vacuum, 40, .inl f_vacuum))] sz) := by
  refine Met.ofW (cc := cX10_readingAhead) (maxL := 4) (ret := (some .int)) pnX10 rfl ?_
  intro p e s m args below meth c s₁ B hml hv
  obtain ⟨rfl, hsz, hP, hK, hD0, hN⟩ := hv
  have hx := B.exec
  have hb := B.bytes
  have hr := B.returns
  have htb : ∀ w ∈ bg, w.before [.ref h0, .int v1].toArray s = true := fun w h => atoms_spec (ws := Cond.code yX10_readingAhead cX10_readingAhead 4 (some .int) :: bg) B.pre w (List.mem_cons_of_mem _ h)
  have hown : s.vm.findClass RX10 = some m.cls := findClass_of_methodNamed B.named
  have hlocks := B.notSynchronized
  subst hsz
  have hD := hD0.self (sz := s.heap.size)
  generalize hAe : va_A [(h0, .inr (10, [.ref t_to, .ref t_height, .ref t_member, .ref t_lengthHome, .ref t_runs, .ref t_leak, .ref t_vacuum, .ref t_reading, .int n_tb])), (t_to, .inl (k_to, 40, .inl f_to)), (t_reading, .inl (k_reading, 40, .inl f_reading)), (t_vacuum, .inl (k_vacuum, 40, .inl f_vacuum))] s.heap.size = A at hD ⊢
  have hA : ∀ q : Nat, s.heap.size ≤ q → A q := fun q h => by rw [← hAe]; exact Or.inr h
  have hS : va_S A s.heap s.heap [] := va_S.rf
  have hl := lv_entry ([.ref h0, .int v1]) (n := 4) (Nat.le_of_ble_eq_true rfl)
  rw [lg_entry_eq]
  generalize (lg_sl ([.ref h0, .int v1]) ++ List.replicate (4 - (lg_sl ([.ref h0, .int v1])).length) Slot.unset).toArray = ls at hl ⊢
  change lv_has ls 4 [(0, .ref h0), (1, .int v1)] at hl
  clear hD0 hAe
  refine go0 (wsP := fun H => va_P (dC, dI) vwCl [(h0, .inr (10, [.ref t_to, .ref t_height, .ref t_member, .ref t_lengthHome, .ref t_runs, .ref t_leak, .ref t_vacuum, .ref t_reading, .int n_tb])), (t_to, .inl (k_to, 40, .inl f_to)), (t_reading, .inl (k_reading, 40, .inl f_reading)), (t_vacuum, .inl (k_vacuum, 40, .inl f_vacuum))] H) hP hS ?_
  clear hP hS; intro H locs hP hS
  change va_P (dC, dI) vwCl [(h0, .inr (10, [.ref t_to, .ref t_height, .ref t_member, .ref t_lengthHome, .ref t_runs, .ref t_leak, .ref t_vacuum, .ref t_reading, .int n_tb])), (t_to, .inl (k_to, 40, .inl f_to)), (t_reading, .inl (k_reading, 40, .inl f_reading)), (t_vacuum, .inl (k_vacuum, 40, .inl f_vacuum))] H at hP
  refine lv_aload_n hx hb dX10_readingAhead_0 rfl (lv_at hl 0 rfl) ?_
  refine va_get (D := (dC, dI)) (ci := 10) (v := .ref t_to) (C := RX10) (T := TX10) (N := 9) hx hb htb iX10 hown hK hP 0 rfl rfl 0 (Nat.le_of_ble_eq_true rfl) (htb _ m_34) (fun _ h9 => h9) rfl dX10_readingAhead_1 ?_
  refine lv_iload_n hx hb dX10_readingAhead_4 rfl (lv_at hl 1 rfl) ?_
  refine va_iald hx hb hK hP 1 0 rfl rfl (i_in rfl (lg_X10_readingAhead_0 n_tb v1 yb yv1)) dX10_readingAhead_5 ?_
  refine lv_topi (fun x_1 ex_2 => ?_)
  have hq_4 : x_1 = e_to (Int32.toNatClampNeg v1) := TbT_ld yTT (lg_X10_readingAhead_1 n_tb v1 yb yv1) ex_2
  have t_3 : 0 ≤ x_1.toInt ∧ (x_1.toInt < v1.toInt ∨ x_1.toInt = 0) := Dn_ld yDn rfl (lg_X10_readingAhead_2 n_tb v1 yb yv1) hq_4
  have t_5 : x_1.toInt = (f_to (Int32.toNatClampNeg v1)).toInt := by rw [ex_2]
  refine lv_istore_n (lv' := [(2, .int x_1), (0, .ref h0), (1, .int v1)]) hx hb dX10_readingAhead_6 rfl hl (by decide) rfl ?_
  clear hl; intro ls hl
  refine lv_iconst (v := 0) hx hb dX10_readingAhead_7 (by decide) ?_
  refine lv_istore_n (lv' := [(3, .int 0), (2, .int x_1), (0, .ref h0), (1, .int v1)]) hx hb dX10_readingAhead_8 rfl hl (by decide) rfl ?_
  clear hl; intro ls hl
  refine (fun (lp : ∀ (n6 : Nat) (i_6 : Int32) (a_6 : Int32) (H : Heap) (locs : List Loc) (ls : Array Slot), (40 - i_6.toInt) < (n6 : Int) → (0 ≤ i_6.toInt ∧ i_6.toInt ≤ 40) → (0 ≤ a_6.toInt ∧ a_6.toInt < n_tb.toInt ∧ a_6.toInt + i_6.toInt ≤ 38) → (WyS e_to e_reading nv v1 a_6) → lv_has ls 4 [(3, .int i_6), (2, .int a_6), (0, .ref h0), (1, .int v1)] → va_P (dC, dI) vwCl [(h0, .inr (10, [.ref t_to, .ref t_height, .ref t_member, .ref t_lengthHome, .ref t_runs, .ref t_leak, .ref t_vacuum, .ref t_reading, .int n_tb])), (t_to, .inl (k_to, 40, .inl f_to)), (t_reading, .inl (k_reading, 40, .inl f_reading)), (t_vacuum, .inl (k_vacuum, 40, .inl f_vacuum))] H → va_D A [(h0, .inr (10, [.ref t_to, .ref t_height, .ref t_member, .ref t_lengthHome, .ref t_runs, .ref t_leak, .ref t_vacuum, .ref t_reading, .int n_tb])), (t_to, .inl (k_to, 40, .inl f_to)), (t_reading, .inl (k_reading, 40, .inl f_reading)), (t_vacuum, .inl (k_vacuum, 40, .inl f_vacuum))] → va_S A s.heap H locs → W p l e _ s m _ below meth c H locs _ _ _ (F0 m 9 ls [])) => lp (Int.toNat (40 - (0 : Int)) + 1) 0 x_1   H locs ls ((lg_X10_readingAhead_3 n_tb f_to v1 x_1 yb yv1 t_3 t_5)) (lg_X10_readingAhead_4 n_tb f_to v1 x_1 yb yv1 t_3 t_5) (lg_X10_readingAhead_5 n_tb f_to v1 x_1 yb yv1 t_3 t_5)  (WyS_0 hq_4 (lg_X10_readingAhead_6 n_tb f_to v1 x_1 yb yv1 t_3 t_5)) hl hP hD hS) ?_
  clear hP hD hS hl
  intro n6
  induction n6 with
  | zero =>
    intro i_6 a_6 H locs ls hmu6 hi6_0 hi6_1  hp6_0 hl hP hD hS
    exact False.elim (lg_X10_readingAhead_7 n_tb f_to v1 x_1 i_6 a_6 yb yv1 t_3 t_5 hi6_0 hi6_1 hmu6)
  | succ n6 ih6 =>
    intro i_6 a_6 H locs ls hmu6 hi6_0 hi6_1  hp6_0 hl hP hD hS
    refine lv_iload_n hx hb dX10_readingAhead_9 rfl (lv_at hl 0 rfl) ?_
    refine lv_bipush (v := 40) hx hb dX10_readingAhead_10 (by decide) ?_
    refine lv_icmp_ge (tgt := 53) hx hb dX10_readingAhead_12 (by decide) (fun c_7 => ?_) (fun c_7 => ?_)
    · have t_8 : (40 : Int) ≤ i_6.toInt := i_le (by decide) rfl c_7
      have t_9 : raN e_to e_reading nv v1 = nv.toInt := WyS_e hp6_0 (lg_X10_readingAhead_8 n_tb f_to v1 x_1 i_6 a_6 n6 yb yv1 t_3 t_5 hi6_0 hi6_1 hmu6 t_8)
      refine lv_aload_n hx hb dX10_readingAhead_53 rfl (lv_at hl 2 rfl) ?_
      refine va_get (D := (dC, dI)) (ci := 10) (v := .ref t_vacuum) (C := RX10) (T := TX10) (N := 9) hx hb htb iX10 hown hK hP 0 rfl rfl 6 (Nat.le_of_ble_eq_true rfl) (htb _ m_40) (fun _ h9 => h9) rfl dX10_readingAhead_54 ?_
      refine lv_iconst (v := 0) hx hb dX10_readingAhead_57 (by decide) ?_
      refine va_iald hx hb hK hP 3 2 rfl rfl (by unfold vp_in; decide) dX10_readingAhead_58 ?_
      refine lv_topi (fun x_10 ex_11 => ?_)
      have t_12 : x_10.toInt = nv.toInt := V0_ld yV0 ex_11
      have t_13 : x_10.toInt = (f_vacuum (Int32.toNatClampNeg 0)).toInt := by rw [ex_11]
      have t_14 : 0 ≤ x_10.toInt ∧ x_10.toInt ≤ 100 := Rg_ld yvac (by unfold vp_in; decide) ex_11
      refine W.widen (k := 0) (n := 0) (Nat.le_of_ble_eq_true rfl) (Nat.le_of_ble_eq_true rfl) ?_
      have hP9 := hP.sub (ws' := [(h0, .inr (10, [.ref t_to, .ref t_height, .ref t_member, .ref t_lengthHome, .ref t_runs, .ref t_leak, .ref t_vacuum, .ref t_reading, .int n_tb])), (t_to, .inl (k_to, 40, .inl f_to)), (t_reading, .inl (k_reading, 40, .inl f_reading)), (t_vacuum, .inl (k_vacuum, 40, .inl f_vacuum))]) [0, 1, 2, 3] rfl
      have hD9 := hD.sub (ws' := [(h0, .inr (10, [.ref t_to, .ref t_height, .ref t_member, .ref t_lengthHome, .ref t_runs, .ref t_leak, .ref t_vacuum, .ref t_reading, .int n_tb])), (t_to, .inl (k_to, 40, .inl f_to)), (t_reading, .inl (k_reading, 40, .inl f_reading)), (t_vacuum, .inl (k_vacuum, 40, .inl f_vacuum))]) [0, 1, 2, 3] (by decide) rfl
      have hK9 := hK.sub (tys' := [(k_to, .int), (k_reading, .int), (k_vacuum, .int)]) [0, 1, 2] rfl
      exact W.iret (v := x_10) hx hb hr (fun t ht hW => ⟨⟨x_10, (), rfl, (lg_X10_readingAhead_9 n_tb f_to f_vacuum v1 e_to e_reading nv x_1 i_6 a_6 n6 x_10 yb yv1 t_3 t_5 hi6_0 hi6_1 hmu6 t_8 t_9 t_12 t_13 t_14), ⟨by rw [ht]; exact hP9, va_K.moved hW.alike hK9, hD9⟩⟩, hS.F ht⟩) hS.2.2 dX10_readingAhead_59
    · have t_8 : i_6.toInt < (40 : Int) := i_nle (by decide) rfl c_7
      refine lv_aload_n hx hb dX10_readingAhead_15 rfl (lv_at hl 2 rfl) ?_
      refine lv_iload_n hx hb dX10_readingAhead_16 rfl (lv_at hl 1 rfl) ?_
      have hPc := hP.sub (ws' := [(h0, .inr (10, [.ref t_to, .ref t_height, .ref t_member, .ref t_lengthHome, .ref t_runs, .ref t_leak, .ref t_vacuum, .ref t_reading, .int n_tb]))]) [0] rfl
      have hDc := hD.sub (ws' := [(h0, .inr (10, [.ref t_to, .ref t_height, .ref t_member, .ref t_lengthHome, .ref t_runs, .ref t_leak, .ref t_vacuum, .ref t_reading, .int n_tb]))]) [0] (by decide) rfl
      have hKc := hK.sub (tys' := []) [] rfl
      have hFc := va_free (wc := [(h0, .inr (10, [.ref t_to, .ref t_height, .ref t_member, .ref t_lengthHome, .ref t_runs, .ref t_leak, .ref t_vacuum, .ref t_reading, .int n_tb]))]) hD hS hA [0] rfl
      refine va_calli (va_runV (C := RX10) (As := [.int a_6]) (rest := []) ⟨hx, hb, hml, hown, htb⟩ (kX10_hasTube l dC dI H.size h0 t_to t_height t_member t_lengthHome t_runs t_leak t_vacuum t_reading n_tb a_6 ) ⟨callB_of 1 htb (gd_c m_371) rfl rfl rfl (htb _ m_2) (htb _ m_426) hdX10_hasTube ⟨(Nat.le_of_ble_eq_true rfl), (Nat.le_of_ble_eq_true rfl)⟩, htb _ m_369, htb _ m_370⟩ ⟨pcW_blind, va_recv hKc hPc (ci := 10) (q0 := 0) rfl rfl, pcW_at hPc hKc hDc hN⟩ rfl rfl hl.1 rfl (lv_room (Nat.le_of_ble_eq_true rfl)) dX10_readingAhead_17 ⟨(Nat.le_of_ble_eq_true rfl), (Nat.le_of_ble_eq_true rfl)⟩) hS (fun q _ h => hFc q h) hFc (fun r_15 u t H1 locs1 ht hvm h_16 hB hz1 hk1 hS1 => ?_)
      obtain ⟨hP1, hK1, hD1⟩ := hB
      rw [ht] at hP1
      obtain ⟨hPn, hDn⟩ := va_join (wr := [(t_to, .inl (k_to, 40, .inl f_to)), (t_reading, .inl (k_reading, 40, .inl f_reading)), (t_vacuum, .inl (k_vacuum, 40, .inl f_vacuum))]) (w1 := [(h0, .inr (10, [.ref t_to, .ref t_height, .ref t_member, .ref t_lengthHome, .ref t_runs, .ref t_leak, .ref t_vacuum, .ref t_reading, .int n_tb]))]) hP hD [0] [1, 2, 3] rfl rfl (by decide) (by decide) hk1 hFc hP1 hD1
      clear hP1 hD1 hK1
      clear hP hD hS hPc hDc hKc hFc hk1 hz1 ht hvm
      clear t
      revert hS1 hPn hDn; generalize H1 = H; generalize locs1 = locs; intro hS hP hD
      change va_P (dC, dI) vwCl [(t_to, .inl (k_to, 40, .inl f_to)), (t_reading, .inl (k_reading, 40, .inl f_reading)), (t_vacuum, .inl (k_vacuum, 40, .inl f_vacuum)), (h0, .inr (10, [.ref t_to, .ref t_height, .ref t_member, .ref t_lengthHome, .ref t_runs, .ref t_leak, .ref t_vacuum, .ref t_reading, .int n_tb]))] H at hP
      change va_D A [(t_to, .inl (k_to, 40, .inl f_to)), (t_reading, .inl (k_reading, 40, .inl f_reading)), (t_vacuum, .inl (k_vacuum, 40, .inl f_vacuum)), (h0, .inr (10, [.ref t_to, .ref t_height, .ref t_member, .ref t_lengthHome, .ref t_runs, .ref t_leak, .ref t_vacuum, .ref t_reading, .int n_tb]))] at hD
      rcases h_16 with ⟨rfl, h_16⟩ | ⟨rfl, h_16⟩
      · refine lv_if_eq (tgt := 53) hx hb dX10_readingAhead_20 (by decide) (fun c_17 => absurd c_17 (by decide)) ?_
        intro _
        refine lv_aload_n hx hb dX10_readingAhead_23 rfl (lv_at hl 2 rfl) ?_
        refine va_get (D := (dC, dI)) (ci := 10) (v := .ref t_reading) (C := RX10) (T := TX10) (N := 9) hx hb htb iX10 hown hK hP 3 rfl rfl 7 (Nat.le_of_ble_eq_true rfl) (htb _ m_41) (fun _ h9 => h9) rfl dX10_readingAhead_24 ?_
        refine lv_iload_n hx hb dX10_readingAhead_27 rfl (lv_at hl 1 rfl) ?_
        refine va_iald hx hb hK hP 1 1 rfl rfl (i_in rfl (lg_X10_readingAhead_10 n_tb f_to v1 x_1 i_6 a_6 n6 yb yv1 t_3 t_5 hi6_0 hi6_1 hmu6 t_8 h_16)) dX10_readingAhead_28 ?_
        refine lv_topi (fun x_18 ex_19 => ?_)
        have hq_20 : x_18 = e_reading (Int32.toNatClampNeg a_6) := TbE_ld yTE (lg_X10_readingAhead_11 n_tb f_to v1 x_1 i_6 a_6 n6 yb yv1 t_3 t_5 hi6_0 hi6_1 hmu6 t_8 h_16) ex_19
        have t_21 : x_18.toInt = (e_reading (Int32.toNatClampNeg a_6)).toInt := by rw [hq_20]
        have t_22 : (-1) ≤ x_18.toInt ∧ x_18.toInt ≤ 100 := Rg_ld yRe (i_in rfl (lg_X10_readingAhead_12 n_tb f_to v1 e_reading x_1 i_6 a_6 n6 x_18 yb yv1 t_3 t_5 hi6_0 hi6_1 hmu6 t_8 h_16 t_21)) hq_20
        have t_23 : x_18.toInt = (f_reading (Int32.toNatClampNeg a_6)).toInt := by rw [ex_19]
        refine lv_iconst (v := (-1)) hx hb dX10_readingAhead_29 (by decide) ?_
        refine lv_icmp_eq (tgt := 40) hx hb dX10_readingAhead_30 (by decide) (fun c_24 => ?_) (fun c_24 => ?_)
        · have t_25 : x_18.toInt = (-1 : Int) := i_eq rfl (by decide) c_24
          refine lv_aload_n hx hb dX10_readingAhead_40 rfl (lv_at hl 2 rfl) ?_
          refine va_get (D := (dC, dI)) (ci := 10) (v := .ref t_to) (C := RX10) (T := TX10) (N := 9) hx hb htb iX10 hown hK hP 3 rfl rfl 0 (Nat.le_of_ble_eq_true rfl) (htb _ m_34) (fun _ h9 => h9) rfl dX10_readingAhead_41 ?_
          refine lv_iload_n hx hb dX10_readingAhead_44 rfl (lv_at hl 1 rfl) ?_
          refine va_iald hx hb hK hP 0 0 rfl rfl (i_in rfl (lg_X10_readingAhead_13 n_tb f_to f_reading v1 e_reading x_1 i_6 a_6 n6 x_18 yb yv1 t_3 t_5 hi6_0 hi6_1 hmu6 t_8 h_16 t_21 t_22 t_23 t_25)) dX10_readingAhead_45 ?_
          refine lv_topi (fun x_26 ex_27 => ?_)
          have hq_29 : x_26 = e_to (Int32.toNatClampNeg a_6) := TbT_ld yTT (lg_X10_readingAhead_14 n_tb f_to f_reading v1 e_reading x_1 i_6 a_6 n6 x_18 yb yv1 t_3 t_5 hi6_0 hi6_1 hmu6 t_8 h_16 t_21 t_22 t_23 t_25) ex_27
          have t_28 : 0 ≤ x_26.toInt ∧ (x_26.toInt < a_6.toInt ∨ x_26.toInt = 0) := Dn_ld yDn rfl (lg_X10_readingAhead_15 n_tb f_to f_reading v1 e_reading x_1 i_6 a_6 n6 x_18 yb yv1 t_3 t_5 hi6_0 hi6_1 hmu6 t_8 h_16 t_21 t_22 t_23 t_25) hq_29
          have t_30 : x_26.toInt = (f_to (Int32.toNatClampNeg a_6)).toInt := by rw [ex_27]
          refine lv_istore_n (lv' := [(2, .int x_26), (3, .int i_6), (0, .ref h0), (1, .int v1)]) hx hb dX10_readingAhead_46 rfl hl (by decide) rfl ?_
          clear hl; intro ls hl
          obtain ⟨x_31, ex_32⟩ : ∃ y : Int32, y = i_6 + Int32.ofInt 1 := ⟨_, rfl⟩
          have t_33 : x_31.toInt = i_6.toInt + 1 := i_add rfl (by decide) (lg_X10_readingAhead_16 n_tb f_to f_reading v1 e_reading x_1 i_6 a_6 n6 x_18 x_26 yb yv1 t_3 t_5 hi6_0 hi6_1 hmu6 t_8 h_16 t_21 t_22 t_23 t_25 t_28 t_30) ex_32
          refine lv_iinc (v := x_31) (lv' := [(3, .int x_31), (2, .int x_26), (0, .ref h0), (1, .int v1)]) hx hb dX10_readingAhead_47 hl (k := 1) rfl ex_32.symm (by decide) rfl ?_
          clear hl; intro ls hl
          refine lv_goto (tgt := 9) hx hb dX10_readingAhead_50 (by decide) ?_
          exact ih6 x_31 x_26  H locs ls (lg_X10_readingAhead_17 n_tb f_to f_reading v1 e_reading x_1 i_6 a_6 n6 x_18 x_26 x_31 yb yv1 t_3 t_5 hi6_0 hi6_1 hmu6 t_8 h_16 t_21 t_22 t_23 t_25 t_28 t_30 t_33) (lg_X10_readingAhead_18 n_tb f_to f_reading v1 e_reading x_1 i_6 a_6 n6 x_18 x_26 x_31 yb yv1 t_3 t_5 hi6_0 hi6_1 hmu6 t_8 h_16 t_21 t_22 t_23 t_25 t_28 t_30 t_33) (lg_X10_readingAhead_19 n_tb f_to f_reading v1 e_reading x_1 i_6 a_6 n6 x_18 x_26 x_31 yb yv1 t_3 t_5 hi6_0 hi6_1 hmu6 t_8 h_16 t_21 t_22 t_23 t_25 t_28 t_30 t_33)  (WyS_st hp6_0 yDn (lg_X10_readingAhead_20 n_tb f_to f_reading v1 e_reading x_1 i_6 a_6 n6 x_18 x_26 x_31 yb yv1 t_3 t_5 hi6_0 hi6_1 hmu6 t_8 h_16 t_21 t_22 t_23 t_25 t_28 t_30 t_33) (lg_X10_readingAhead_21 n_tb f_to f_reading v1 e_reading x_1 i_6 a_6 n6 x_18 x_26 x_31 yb yv1 t_3 t_5 hi6_0 hi6_1 hmu6 t_8 h_16 t_21 t_22 t_23 t_25 t_28 t_30 t_33) hq_29 (lg_X10_readingAhead_22 n_tb f_to f_reading v1 e_reading x_1 i_6 a_6 n6 x_18 x_26 x_31 yb yv1 t_3 t_5 hi6_0 hi6_1 hmu6 t_8 h_16 t_21 t_22 t_23 t_25 t_28 t_30 t_33)) (lv_sub hl [0, 1, 2, 3] rfl) (hP.sub [3, 0, 1, 2] rfl) (hD.sub [3, 0, 1, 2] (by decide) rfl) hS
        · have t_25 : ¬ x_18.toInt = (-1 : Int) := i_ne rfl (by decide) c_24
          have t_34 : raN e_to e_reading nv v1 = (e_reading (Int32.toNatClampNeg a_6)).toInt := WyS_r hp6_0 (lg_X10_readingAhead_23 n_tb f_to f_reading v1 e_reading x_1 i_6 a_6 n6 x_18 yb yv1 t_3 t_5 hi6_0 hi6_1 hmu6 t_8 h_16 t_21 t_22 t_23 t_25) (lg_X10_readingAhead_24 n_tb f_to f_reading v1 e_reading x_1 i_6 a_6 n6 x_18 yb yv1 t_3 t_5 hi6_0 hi6_1 hmu6 t_8 h_16 t_21 t_22 t_23 t_25)
          refine lv_aload_n hx hb dX10_readingAhead_33 rfl (lv_at hl 2 rfl) ?_
          refine va_get (D := (dC, dI)) (ci := 10) (v := .ref t_reading) (C := RX10) (T := TX10) (N := 9) hx hb htb iX10 hown hK hP 3 rfl rfl 7 (Nat.le_of_ble_eq_true rfl) (htb _ m_41) (fun _ h9 => h9) rfl dX10_readingAhead_34 ?_
          refine lv_iload_n hx hb dX10_readingAhead_37 rfl (lv_at hl 1 rfl) ?_
          refine va_iald hx hb hK hP 1 1 rfl rfl (i_in rfl (lg_X10_readingAhead_25 n_tb f_to f_reading v1 e_to e_reading nv x_1 i_6 a_6 n6 x_18 yb yv1 t_3 t_5 hi6_0 hi6_1 hmu6 t_8 h_16 t_21 t_22 t_23 t_25 t_34)) dX10_readingAhead_38 ?_
          refine lv_topi (fun x_35 ex_36 => ?_)
          have hq_37 : x_35 = e_reading (Int32.toNatClampNeg a_6) := TbE_ld yTE (lg_X10_readingAhead_26 n_tb f_to f_reading v1 e_to e_reading nv x_1 i_6 a_6 n6 x_18 yb yv1 t_3 t_5 hi6_0 hi6_1 hmu6 t_8 h_16 t_21 t_22 t_23 t_25 t_34) ex_36
          have t_38 : x_35.toInt = (e_reading (Int32.toNatClampNeg a_6)).toInt := by rw [hq_37]
          have t_39 : (-1) ≤ x_35.toInt ∧ x_35.toInt ≤ 100 := Rg_ld yRe (i_in rfl (lg_X10_readingAhead_27 n_tb f_to f_reading v1 e_to e_reading nv x_1 i_6 a_6 n6 x_18 x_35 yb yv1 t_3 t_5 hi6_0 hi6_1 hmu6 t_8 h_16 t_21 t_22 t_23 t_25 t_34 t_38)) hq_37
          have t_40 : x_35.toInt = (f_reading (Int32.toNatClampNeg a_6)).toInt := by rw [ex_36]
          have t_41 : x_35.toInt = x_18.toInt := by rw [ex_36, ex_19]
          refine W.widen (k := 0) (n := 0) (Nat.le_of_ble_eq_true rfl) (Nat.le_of_ble_eq_true rfl) ?_
          have hP9 := hP.sub (ws' := [(h0, .inr (10, [.ref t_to, .ref t_height, .ref t_member, .ref t_lengthHome, .ref t_runs, .ref t_leak, .ref t_vacuum, .ref t_reading, .int n_tb])), (t_to, .inl (k_to, 40, .inl f_to)), (t_reading, .inl (k_reading, 40, .inl f_reading)), (t_vacuum, .inl (k_vacuum, 40, .inl f_vacuum))]) [3, 0, 1, 2] rfl
          have hD9 := hD.sub (ws' := [(h0, .inr (10, [.ref t_to, .ref t_height, .ref t_member, .ref t_lengthHome, .ref t_runs, .ref t_leak, .ref t_vacuum, .ref t_reading, .int n_tb])), (t_to, .inl (k_to, 40, .inl f_to)), (t_reading, .inl (k_reading, 40, .inl f_reading)), (t_vacuum, .inl (k_vacuum, 40, .inl f_vacuum))]) [3, 0, 1, 2] (by decide) rfl
          have hK9 := hK.sub (tys' := [(k_to, .int), (k_reading, .int), (k_vacuum, .int)]) [0, 1, 2] rfl
          exact W.iret (v := x_35) hx hb hr (fun t ht hW => ⟨⟨x_35, (), rfl, (lg_X10_readingAhead_28 n_tb f_to f_reading v1 e_to e_reading nv x_1 i_6 a_6 n6 x_18 x_35 yb yv1 t_3 t_5 hi6_0 hi6_1 hmu6 t_8 h_16 t_21 t_22 t_23 t_25 t_34 t_38 t_39 t_40 t_41), ⟨by rw [ht]; exact hP9, va_K.moved hW.alike hK9, hD9⟩⟩, hS.F ht⟩) hS.2.2 dX10_readingAhead_39
      · refine lv_if_eq (tgt := 53) hx hb dX10_readingAhead_20 (by decide) ?_ (fun c_42 => absurd (by decide) c_42)
        intro _
        have t_43 : raN e_to e_reading nv v1 = nv.toInt := WyS_e hp6_0 (lg_X10_readingAhead_29 n_tb f_to v1 x_1 i_6 a_6 n6 yb yv1 t_3 t_5 hi6_0 hi6_1 hmu6 t_8 h_16)
        refine lv_aload_n hx hb dX10_readingAhead_53 rfl (lv_at hl 2 rfl) ?_
        refine va_get (D := (dC, dI)) (ci := 10) (v := .ref t_vacuum) (C := RX10) (T := TX10) (N := 9) hx hb htb iX10 hown hK hP 3 rfl rfl 6 (Nat.le_of_ble_eq_true rfl) (htb _ m_40) (fun _ h9 => h9) rfl dX10_readingAhead_54 ?_
        refine lv_iconst (v := 0) hx hb dX10_readingAhead_57 (by decide) ?_
        refine va_iald hx hb hK hP 2 2 rfl rfl (by unfold vp_in; decide) dX10_readingAhead_58 ?_
        refine lv_topi (fun x_44 ex_45 => ?_)
        have t_46 : x_44.toInt = nv.toInt := V0_ld yV0 ex_45
        have t_47 : x_44.toInt = (f_vacuum (Int32.toNatClampNeg 0)).toInt := by rw [ex_45]
        have t_48 : 0 ≤ x_44.toInt ∧ x_44.toInt ≤ 100 := Rg_ld yvac (by unfold vp_in; decide) ex_45
        refine W.widen (k := 0) (n := 0) (Nat.le_of_ble_eq_true rfl) (Nat.le_of_ble_eq_true rfl) ?_
        have hP9 := hP.sub (ws' := [(h0, .inr (10, [.ref t_to, .ref t_height, .ref t_member, .ref t_lengthHome, .ref t_runs, .ref t_leak, .ref t_vacuum, .ref t_reading, .int n_tb])), (t_to, .inl (k_to, 40, .inl f_to)), (t_reading, .inl (k_reading, 40, .inl f_reading)), (t_vacuum, .inl (k_vacuum, 40, .inl f_vacuum))]) [3, 0, 1, 2] rfl
        have hD9 := hD.sub (ws' := [(h0, .inr (10, [.ref t_to, .ref t_height, .ref t_member, .ref t_lengthHome, .ref t_runs, .ref t_leak, .ref t_vacuum, .ref t_reading, .int n_tb])), (t_to, .inl (k_to, 40, .inl f_to)), (t_reading, .inl (k_reading, 40, .inl f_reading)), (t_vacuum, .inl (k_vacuum, 40, .inl f_vacuum))]) [3, 0, 1, 2] (by decide) rfl
        have hK9 := hK.sub (tys' := [(k_to, .int), (k_reading, .int), (k_vacuum, .int)]) [0, 1, 2] rfl
        exact W.iret (v := x_44) hx hb hr (fun t ht hW => ⟨⟨x_44, (), rfl, (lg_X10_readingAhead_30 n_tb f_to f_vacuum v1 e_to e_reading nv x_1 i_6 a_6 n6 x_44 yb yv1 t_3 t_5 hi6_0 hi6_1 hmu6 t_8 h_16 t_43 t_46 t_47 t_48), ⟨by rw [ht]; exact hP9, va_K.moved hW.alike hK9, hD9⟩⟩, hS.F ht⟩) hS.2.2 dX10_readingAhead_59

theorem lg_X4_greatestDivisor_0 (v1 : Int32) (v2 : Int32) (yv : 0 ≤ v1.toInt ∧ 0 ≤ v2.toInt) : (64 - (0 : Int)) < ((Int.toNat (64 - (0 : Int)) + 1 : Nat) : Int) := by
  have := rg_rng v1; have := rg_rng v2; omega
theorem lg_X4_greatestDivisor_1 (v1 : Int32) (v2 : Int32) (yv : 0 ≤ v1.toInt ∧ 0 ≤ v2.toInt) : 0 ≤ (0 : Int) ∧ (0 : Int) ≤ 64 := by
  have := rg_rng v1; have := rg_rng v2; omega
theorem lg_X4_greatestDivisor_2 (v1 : Int32) (v2 : Int32) (yv : 0 ≤ v1.toInt ∧ 0 ≤ v2.toInt) : 0 ≤ v1.toInt ∧ 0 ≤ v2.toInt := by
  have := rg_rng v1; have := rg_rng v2; omega
theorem lg_X4_greatestDivisor_3 (v1 : Int32) (v2 : Int32) (i_1 : Int32) (a_1 : Int32) (b_1 : Int32) (yv : 0 ≤ v1.toInt ∧ 0 ≤ v2.toInt) (hi1_0 : 0 ≤ i_1.toInt ∧ i_1.toInt ≤ 64) (hi1_1 : 0 ≤ a_1.toInt ∧ 0 ≤ b_1.toInt) (hmu1 : (64 - i_1.toInt) < ((0 : Nat) : Int)) : False := by
  have := rg_rng v1; have := rg_rng v2; have := rg_rng i_1; have := rg_rng a_1; have := rg_rng b_1; omega
theorem lg_X4_greatestDivisor_4 (v1 : Int32) (v2 : Int32) (i_1 : Int32) (a_1 : Int32) (b_1 : Int32) (n1 : Nat) (yv : 0 ≤ v1.toInt ∧ 0 ≤ v2.toInt) (hi1_0 : 0 ≤ i_1.toInt ∧ i_1.toInt ≤ 64) (hi1_1 : 0 ≤ a_1.toInt ∧ 0 ≤ b_1.toInt) (hmu1 : (64 - i_1.toInt) < ((n1 + 1 : Nat) : Int)) (t_3 : (64 : Int) ≤ i_1.toInt) : 64 ≤ i_1.toInt := by
  have := rg_rng v1; have := rg_rng v2; have := rg_rng i_1; have := rg_rng a_1; have := rg_rng b_1; omega
theorem lg_X4_greatestDivisor_5 (v1 : Int32) (v2 : Int32) (i_1 : Int32) (a_1 : Int32) (b_1 : Int32) (n1 : Nat) (yv : 0 ≤ v1.toInt ∧ 0 ≤ v2.toInt) (hi1_0 : 0 ≤ i_1.toInt ∧ i_1.toInt ≤ 64) (hi1_1 : 0 ≤ a_1.toInt ∧ 0 ≤ b_1.toInt) (hmu1 : (64 - i_1.toInt) < ((n1 + 1 : Nat) : Int)) (t_3 : (64 : Int) ≤ i_1.toInt) (t_4 : b_1.toInt = 0) : b_1.toInt = 0 := by
  have := rg_rng v1; have := rg_rng v2; have := rg_rng i_1; have := rg_rng a_1; have := rg_rng b_1; omega
theorem lg_X4_greatestDivisor_6 (v1 : Int32) (v2 : Int32) (i_1 : Int32) (a_1 : Int32) (b_1 : Int32) (n1 : Nat) (yv : 0 ≤ v1.toInt ∧ 0 ≤ v2.toInt) (hi1_0 : 0 ≤ i_1.toInt ∧ i_1.toInt ≤ 64) (hi1_1 : 0 ≤ a_1.toInt ∧ 0 ≤ b_1.toInt) (hmu1 : (64 - i_1.toInt) < ((n1 + 1 : Nat) : Int)) (t_3 : (64 : Int) ≤ i_1.toInt) (t_4 : b_1.toInt = 0) (t_5 : a_1.toInt = gcI v1.toInt v2.toInt) : a_1.toInt = gcI v1.toInt v2.toInt ∧ 0 ≤ a_1.toInt := by
  have := rg_rng v1; have := rg_rng v2; have := rg_rng i_1; have := rg_rng a_1; have := rg_rng b_1; omega
theorem lg_X4_greatestDivisor_7 (v1 : Int32) (v2 : Int32) (i_1 : Int32) (a_1 : Int32) (b_1 : Int32) (n1 : Nat) (yv : 0 ≤ v1.toInt ∧ 0 ≤ v2.toInt) (hi1_0 : 0 ≤ i_1.toInt ∧ i_1.toInt ≤ 64) (hi1_1 : 0 ≤ a_1.toInt ∧ 0 ≤ b_1.toInt) (hmu1 : (64 - i_1.toInt) < ((n1 + 1 : Nat) : Int)) (t_3 : i_1.toInt < (64 : Int)) (t_7 : b_1.toInt = (0 : Int)) : b_1.toInt = 0 := by
  have := rg_rng v1; have := rg_rng v2; have := rg_rng i_1; have := rg_rng a_1; have := rg_rng b_1; omega
theorem lg_X4_greatestDivisor_8 (v1 : Int32) (v2 : Int32) (i_1 : Int32) (a_1 : Int32) (b_1 : Int32) (n1 : Nat) (yv : 0 ≤ v1.toInt ∧ 0 ≤ v2.toInt) (hi1_0 : 0 ≤ i_1.toInt ∧ i_1.toInt ≤ 64) (hi1_1 : 0 ≤ a_1.toInt ∧ 0 ≤ b_1.toInt) (hmu1 : (64 - i_1.toInt) < ((n1 + 1 : Nat) : Int)) (t_3 : i_1.toInt < (64 : Int)) (t_7 : b_1.toInt = (0 : Int)) (t_8 : a_1.toInt = gcI v1.toInt v2.toInt) : a_1.toInt = gcI v1.toInt v2.toInt ∧ 0 ≤ a_1.toInt := by
  have := rg_rng v1; have := rg_rng v2; have := rg_rng i_1; have := rg_rng a_1; have := rg_rng b_1; omega
theorem lg_X4_greatestDivisor_9 (v1 : Int32) (v2 : Int32) (i_1 : Int32) (a_1 : Int32) (b_1 : Int32) (n1 : Nat) (yv : 0 ≤ v1.toInt ∧ 0 ≤ v2.toInt) (hi1_0 : 0 ≤ i_1.toInt ∧ i_1.toInt ≤ 64) (hi1_1 : 0 ≤ a_1.toInt ∧ 0 ≤ b_1.toInt) (hmu1 : (64 - i_1.toInt) < ((n1 + 1 : Nat) : Int)) (t_3 : i_1.toInt < (64 : Int)) (t_7 : ¬ b_1.toInt = (0 : Int)) : ¬ b_1.toInt = 0 := by
  have := rg_rng v1; have := rg_rng v2; have := rg_rng i_1; have := rg_rng a_1; have := rg_rng b_1; omega
theorem lg_X4_greatestDivisor_10 (v1 : Int32) (v2 : Int32) (i_1 : Int32) (a_1 : Int32) (b_1 : Int32) (n1 : Nat) (yv : 0 ≤ v1.toInt ∧ 0 ≤ v2.toInt) (hi1_0 : 0 ≤ i_1.toInt ∧ i_1.toInt ≤ 64) (hi1_1 : 0 ≤ a_1.toInt ∧ 0 ≤ b_1.toInt) (hmu1 : (64 - i_1.toInt) < ((n1 + 1 : Nat) : Int)) (t_3 : i_1.toInt < (64 : Int)) (t_7 : ¬ b_1.toInt = (0 : Int)) : 0 ≤ a_1.toInt ∧ 0 < b_1.toInt := by
  have := rg_rng v1; have := rg_rng v2; have := rg_rng i_1; have := rg_rng a_1; have := rg_rng b_1; omega
theorem lg_X4_greatestDivisor_11 (v1 : Int32) (v2 : Int32) (i_1 : Int32) (a_1 : Int32) (b_1 : Int32) (n1 : Nat) (x_9 : Int32) (yv : 0 ≤ v1.toInt ∧ 0 ≤ v2.toInt) (hi1_0 : 0 ≤ i_1.toInt ∧ i_1.toInt ≤ 64) (hi1_1 : 0 ≤ a_1.toInt ∧ 0 ≤ b_1.toInt) (hmu1 : (64 - i_1.toInt) < ((n1 + 1 : Nat) : Int)) (t_3 : i_1.toInt < (64 : Int)) (t_7 : ¬ b_1.toInt = (0 : Int)) (t_11 : 0 ≤ x_9.toInt ∧ x_9.toInt < b_1.toInt) : -2147483648 ≤ i_1.toInt + 1 ∧ i_1.toInt + 1 < 2147483648 := by
  have := rg_rng v1; have := rg_rng v2; have := rg_rng i_1; have := rg_rng a_1; have := rg_rng b_1; have := rg_rng x_9; omega
theorem lg_X4_greatestDivisor_12 (v1 : Int32) (v2 : Int32) (i_1 : Int32) (a_1 : Int32) (b_1 : Int32) (n1 : Nat) (x_9 : Int32) (x_12 : Int32) (yv : 0 ≤ v1.toInt ∧ 0 ≤ v2.toInt) (hi1_0 : 0 ≤ i_1.toInt ∧ i_1.toInt ≤ 64) (hi1_1 : 0 ≤ a_1.toInt ∧ 0 ≤ b_1.toInt) (hmu1 : (64 - i_1.toInt) < ((n1 + 1 : Nat) : Int)) (t_3 : i_1.toInt < (64 : Int)) (t_7 : ¬ b_1.toInt = (0 : Int)) (t_11 : 0 ≤ x_9.toInt ∧ x_9.toInt < b_1.toInt) (t_14 : x_12.toInt = i_1.toInt + 1) : (64 - x_12.toInt) < (n1 : Int) := by
  have := rg_rng v1; have := rg_rng v2; have := rg_rng i_1; have := rg_rng a_1; have := rg_rng b_1; have := rg_rng x_9; have := rg_rng x_12; omega
theorem lg_X4_greatestDivisor_13 (v1 : Int32) (v2 : Int32) (i_1 : Int32) (a_1 : Int32) (b_1 : Int32) (n1 : Nat) (x_9 : Int32) (x_12 : Int32) (yv : 0 ≤ v1.toInt ∧ 0 ≤ v2.toInt) (hi1_0 : 0 ≤ i_1.toInt ∧ i_1.toInt ≤ 64) (hi1_1 : 0 ≤ a_1.toInt ∧ 0 ≤ b_1.toInt) (hmu1 : (64 - i_1.toInt) < ((n1 + 1 : Nat) : Int)) (t_3 : i_1.toInt < (64 : Int)) (t_7 : ¬ b_1.toInt = (0 : Int)) (t_11 : 0 ≤ x_9.toInt ∧ x_9.toInt < b_1.toInt) (t_14 : x_12.toInt = i_1.toInt + 1) : 0 ≤ x_12.toInt ∧ x_12.toInt ≤ 64 := by
  have := rg_rng v1; have := rg_rng v2; have := rg_rng i_1; have := rg_rng a_1; have := rg_rng b_1; have := rg_rng x_9; have := rg_rng x_12; omega
theorem lg_X4_greatestDivisor_14 (v1 : Int32) (v2 : Int32) (i_1 : Int32) (a_1 : Int32) (b_1 : Int32) (n1 : Nat) (x_9 : Int32) (x_12 : Int32) (yv : 0 ≤ v1.toInt ∧ 0 ≤ v2.toInt) (hi1_0 : 0 ≤ i_1.toInt ∧ i_1.toInt ≤ 64) (hi1_1 : 0 ≤ a_1.toInt ∧ 0 ≤ b_1.toInt) (hmu1 : (64 - i_1.toInt) < ((n1 + 1 : Nat) : Int)) (t_3 : i_1.toInt < (64 : Int)) (t_7 : ¬ b_1.toInt = (0 : Int)) (t_11 : 0 ≤ x_9.toInt ∧ x_9.toInt < b_1.toInt) (t_14 : x_12.toInt = i_1.toInt + 1) : 0 ≤ b_1.toInt ∧ 0 ≤ x_9.toInt := by
  have := rg_rng v1; have := rg_rng v2; have := rg_rng i_1; have := rg_rng a_1; have := rg_rng b_1; have := rg_rng x_9; have := rg_rng x_12; omega
theorem lg_X4_greatestDivisor_15 (v1 : Int32) (v2 : Int32) (i_1 : Int32) (a_1 : Int32) (b_1 : Int32) (n1 : Nat) (x_9 : Int32) (x_12 : Int32) (yv : 0 ≤ v1.toInt ∧ 0 ≤ v2.toInt) (hi1_0 : 0 ≤ i_1.toInt ∧ i_1.toInt ≤ 64) (hi1_1 : 0 ≤ a_1.toInt ∧ 0 ≤ b_1.toInt) (hmu1 : (64 - i_1.toInt) < ((n1 + 1 : Nat) : Int)) (t_3 : i_1.toInt < (64 : Int)) (t_7 : ¬ b_1.toInt = (0 : Int)) (t_11 : 0 ≤ x_9.toInt ∧ x_9.toInt < b_1.toInt) (t_14 : x_12.toInt = i_1.toInt + 1) : 0 < b_1.toInt := by
  have := rg_rng v1; have := rg_rng v2; have := rg_rng i_1; have := rg_rng a_1; have := rg_rng b_1; have := rg_rng x_9; have := rg_rng x_12; omega
theorem lg_X4_greatestDivisor_16 (v1 : Int32) (v2 : Int32) (i_1 : Int32) (a_1 : Int32) (b_1 : Int32) (n1 : Nat) (x_9 : Int32) (x_12 : Int32) (yv : 0 ≤ v1.toInt ∧ 0 ≤ v2.toInt) (hi1_0 : 0 ≤ i_1.toInt ∧ i_1.toInt ≤ 64) (hi1_1 : 0 ≤ a_1.toInt ∧ 0 ≤ b_1.toInt) (hmu1 : (64 - i_1.toInt) < ((n1 + 1 : Nat) : Int)) (t_3 : i_1.toInt < (64 : Int)) (t_7 : ¬ b_1.toInt = (0 : Int)) (t_11 : 0 ≤ x_9.toInt ∧ x_9.toInt < b_1.toInt) (t_14 : x_12.toInt = i_1.toInt + 1) : x_12.toInt = i_1.toInt + 1 := by
  have := rg_rng v1; have := rg_rng v2; have := rg_rng i_1; have := rg_rng a_1; have := rg_rng b_1; have := rg_rng x_9; have := rg_rng x_12; omega
set_option maxHeartbeats 4000000 in
set_option maxRecDepth 100000 in
theorem kX4_greatestDivisor (l : Launch) (dC : Nat → ClassId) (dI : Nat → Nat → Nat) (sz : Nat) (v1 : Int32) (v2 : Int32) (yv : 0 ≤ v1.toInt ∧ 0 ≤ v2.toInt) : Met l yX4_greatestDivisor (Cond.code yX4_greatestDivisor cX4_greatestDivisor 6 (some .int) :: bg) ({ frames := 0, cells := 0, slots := 0, locals := 0 }) (pcW dC dI [.int v1, .int v2] sz [] []) (va_Qi (fun (r : Int32) (u : Unit) => r.toInt = gcI v1.toInt v2.toInt ∧ 0 ≤ r.toInt) (fun (u : Unit) (t : State) => va_P (dC, dI) vwCl [] t.heap ∧ va_K (dC, dI) vwCl [] t ∧ va_D (va_A [] sz) []) (va_A [] sz)) 0 0 (va_A [] sz) := by
  refine Met.ofW (cc := cX4_greatestDivisor) (maxL := 6) (ret := (some .int)) pnX4 rfl ?_
  intro p e s m args below meth c s₁ B hml hv
  obtain ⟨rfl, hsz, hP, hK, hD0, hN⟩ := hv
  have hx := B.exec
  have hb := B.bytes
  have hr := B.returns
  have htb : ∀ w ∈ bg, w.before [.int v1, .int v2].toArray s = true := fun w h => atoms_spec (ws := Cond.code yX4_greatestDivisor cX4_greatestDivisor 6 (some .int) :: bg) B.pre w (List.mem_cons_of_mem _ h)
  have hown : s.vm.findClass RX4 = some m.cls := findClass_of_methodNamed B.named
  have hlocks := B.notSynchronized
  subst hsz
  have hD := hD0.self (sz := s.heap.size)
  generalize hAe : va_A [] s.heap.size = A at hD ⊢
  have hA : ∀ q : Nat, s.heap.size ≤ q → A q := fun q h => by rw [← hAe]; exact Or.inr h
  have hS : va_S A s.heap s.heap [] := va_S.rf
  have hl := lv_entry ([.int v1, .int v2]) (n := 6) (Nat.le_of_ble_eq_true rfl)
  rw [lg_entry_eq]
  generalize (lg_sl ([.int v1, .int v2]) ++ List.replicate (6 - (lg_sl ([.int v1, .int v2])).length) Slot.unset).toArray = ls at hl ⊢
  change lv_has ls 6 [(0, .int v1), (1, .int v2)] at hl
  clear hD0 hAe
  refine go0 (wsP := fun H => va_P (dC, dI) vwCl [] H) hP hS ?_
  clear hP hS; intro H locs hP hS
  change va_P (dC, dI) vwCl [] H at hP
  refine lv_iload_n hx hb dX4_greatestDivisor_0 rfl (lv_at hl 0 rfl) ?_
  refine lv_istore_n (lv' := [(2, .int v1), (0, .int v1), (1, .int v2)]) hx hb dX4_greatestDivisor_1 rfl hl (by decide) rfl ?_
  clear hl; intro ls hl
  refine lv_iload_n hx hb dX4_greatestDivisor_2 rfl (lv_at hl 2 rfl) ?_
  refine lv_istore_n (lv' := [(3, .int v2), (2, .int v1), (0, .int v1), (1, .int v2)]) hx hb dX4_greatestDivisor_3 rfl hl (by decide) rfl ?_
  clear hl; intro ls hl
  refine lv_iconst (v := 0) hx hb dX4_greatestDivisor_4 (by decide) ?_
  refine lv_istore (lv' := [(4, .int 0), (3, .int v2), (2, .int v1), (0, .int v1), (1, .int v2)]) hx hb dX4_greatestDivisor_5 hl (by decide) rfl ?_
  clear hl; intro ls hl
  refine (fun (lp : ∀ (n1 : Nat) (i_1 : Int32) (a_1 : Int32) (b_1 : Int32) (H : Heap) (locs : List Loc) (ls : Array Slot), (64 - i_1.toInt) < (n1 : Int) → (0 ≤ i_1.toInt ∧ i_1.toInt ≤ 64) → (0 ≤ a_1.toInt ∧ 0 ≤ b_1.toInt) → (Gc v1 v2 a_1 b_1) → (Gh a_1 b_1 i_1) → lv_has ls 6 [(4, .int i_1), (3, .int b_1), (2, .int a_1), (0, .int v1), (1, .int v2)] → va_P (dC, dI) vwCl [] H → va_D A [] → va_S A s.heap H locs → W p l e _ s m _ below meth c H locs _ _ _ (F0 m 7 ls [])) => lp (Int.toNat (64 - (0 : Int)) + 1) 0 v1 v2   H locs ls ((lg_X4_greatestDivisor_0 v1 v2 yv)) (lg_X4_greatestDivisor_1 v1 v2 yv) (lg_X4_greatestDivisor_2 v1 v2 yv)  (Gc_0 (lg_X4_greatestDivisor_2 v1 v2 yv)) (Gh_0 (lg_X4_greatestDivisor_2 v1 v2 yv)) hl hP hD hS) ?_
  clear hP hD hS hl
  intro n1
  induction n1 with
  | zero =>
    intro i_1 a_1 b_1 H locs ls hmu1 hi1_0 hi1_1  hp1_0 hp1_1 hl hP hD hS
    exact False.elim (lg_X4_greatestDivisor_3 v1 v2 i_1 a_1 b_1 yv hi1_0 hi1_1 hmu1)
  | succ n1 ih1 =>
    intro i_1 a_1 b_1 H locs ls hmu1 hi1_0 hi1_1  hp1_0 hp1_1 hl hP hD hS
    refine lv_iload hx hb dX4_greatestDivisor_7 (lv_at hl 0 rfl) ?_
    refine lv_bipush (v := 64) hx hb dX4_greatestDivisor_9 (by decide) ?_
    refine lv_icmp_ge (tgt := 34) hx hb dX4_greatestDivisor_11 (by decide) (fun c_2 => ?_) (fun c_2 => ?_)
    · have t_3 : (64 : Int) ≤ i_1.toInt := i_le (by decide) rfl c_2
      have t_4 : b_1.toInt = 0 := Gh_e hp1_1 (lg_X4_greatestDivisor_4 v1 v2 i_1 a_1 b_1 n1 yv hi1_0 hi1_1 hmu1 t_3)
      have t_5 : a_1.toInt = gcI v1.toInt v2.toInt := Gc_e hp1_0 (lg_X4_greatestDivisor_5 v1 v2 i_1 a_1 b_1 n1 yv hi1_0 hi1_1 hmu1 t_3 t_4)
      refine lv_iload_n hx hb dX4_greatestDivisor_34 rfl (lv_at hl 2 rfl) ?_
      refine W.widen (k := 0) (n := 0) (Nat.le_of_ble_eq_true rfl) (Nat.le_of_ble_eq_true rfl) ?_
      have hP9 := hP.sub (ws' := []) [] rfl
      have hD9 := hD.sub (ws' := []) [] (by decide) rfl
      have hK9 := hK.sub (tys' := []) [] rfl
      exact W.iret (v := a_1) hx hb hr (fun t ht hW => ⟨⟨a_1, (), rfl, (lg_X4_greatestDivisor_6 v1 v2 i_1 a_1 b_1 n1 yv hi1_0 hi1_1 hmu1 t_3 t_4 t_5), ⟨by rw [ht]; exact hP9, va_K.moved hW.alike hK9, hD9⟩⟩, hS.F ht⟩) hS.2.2 dX4_greatestDivisor_35
    · have t_3 : i_1.toInt < (64 : Int) := i_nle (by decide) rfl c_2
      refine lv_iload_n hx hb dX4_greatestDivisor_14 rfl (lv_at hl 1 rfl) ?_
      refine lv_if_eq (tgt := 34) hx hb dX4_greatestDivisor_15 (by decide) (fun c_6 => ?_) (fun c_6 => ?_)
      · have t_7 : b_1.toInt = (0 : Int) := i_eq rfl (by decide) c_6
        have t_8 : a_1.toInt = gcI v1.toInt v2.toInt := Gc_e hp1_0 (lg_X4_greatestDivisor_7 v1 v2 i_1 a_1 b_1 n1 yv hi1_0 hi1_1 hmu1 t_3 t_7)
        refine lv_iload_n hx hb dX4_greatestDivisor_34 rfl (lv_at hl 2 rfl) ?_
        refine W.widen (k := 0) (n := 0) (Nat.le_of_ble_eq_true rfl) (Nat.le_of_ble_eq_true rfl) ?_
        have hP9 := hP.sub (ws' := []) [] rfl
        have hD9 := hD.sub (ws' := []) [] (by decide) rfl
        have hK9 := hK.sub (tys' := []) [] rfl
        exact W.iret (v := a_1) hx hb hr (fun t ht hW => ⟨⟨a_1, (), rfl, (lg_X4_greatestDivisor_8 v1 v2 i_1 a_1 b_1 n1 yv hi1_0 hi1_1 hmu1 t_3 t_7 t_8), ⟨by rw [ht]; exact hP9, va_K.moved hW.alike hK9, hD9⟩⟩, hS.F ht⟩) hS.2.2 dX4_greatestDivisor_35
      · have t_7 : ¬ b_1.toInt = (0 : Int) := i_ne rfl (by decide) c_6
        refine lv_iload_n hx hb dX4_greatestDivisor_18 rfl (lv_at hl 2 rfl) ?_
        refine lv_iload_n hx hb dX4_greatestDivisor_19 rfl (lv_at hl 1 rfl) ?_
        refine lv_irem hx hb dX4_greatestDivisor_20 (fun q9 => (lg_X4_greatestDivisor_9 v1 v2 i_1 a_1 b_1 n1 yv hi1_0 hi1_1 hmu1 t_3 t_7) (i_eq rfl (by decide) q9)) ?_
        refine lv_topi (fun x_9 ex_10 => ?_)
        have t_11 : 0 ≤ x_9.toInt ∧ x_9.toInt < b_1.toInt := i_rem rfl rfl (lg_X4_greatestDivisor_10 v1 v2 i_1 a_1 b_1 n1 yv hi1_0 hi1_1 hmu1 t_3 t_7) ex_10
        refine lv_istore (lv' := [(5, .int x_9), (4, .int i_1), (3, .int b_1), (2, .int a_1), (0, .int v1), (1, .int v2)]) hx hb dX4_greatestDivisor_21 hl (by decide) rfl ?_
        clear hl; intro ls hl
        refine lv_iload_n hx hb dX4_greatestDivisor_23 rfl (lv_at hl 2 rfl) ?_
        refine lv_istore_n (lv' := [(2, .int b_1), (5, .int x_9), (4, .int i_1), (3, .int b_1), (0, .int v1), (1, .int v2)]) hx hb dX4_greatestDivisor_24 rfl hl (by decide) rfl ?_
        clear hl; intro ls hl
        refine lv_iload hx hb dX4_greatestDivisor_25 (lv_at hl 1 rfl) ?_
        refine lv_istore_n (lv' := [(3, .int x_9), (2, .int b_1), (5, .int x_9), (4, .int i_1), (0, .int v1), (1, .int v2)]) hx hb dX4_greatestDivisor_27 rfl hl (by decide) rfl ?_
        clear hl; intro ls hl
        obtain ⟨x_12, ex_13⟩ : ∃ y : Int32, y = i_1 + Int32.ofInt 1 := ⟨_, rfl⟩
        have t_14 : x_12.toInt = i_1.toInt + 1 := i_add rfl (by decide) (lg_X4_greatestDivisor_11 v1 v2 i_1 a_1 b_1 n1 x_9 yv hi1_0 hi1_1 hmu1 t_3 t_7 t_11) ex_13
        refine lv_iinc (v := x_12) (lv' := [(4, .int x_12), (3, .int x_9), (2, .int b_1), (5, .int x_9), (0, .int v1), (1, .int v2)]) hx hb dX4_greatestDivisor_28 hl (k := 3) rfl ex_13.symm (by decide) rfl ?_
        clear hl; intro ls hl
        refine lv_goto (tgt := 7) hx hb dX4_greatestDivisor_31 (by decide) ?_
        exact ih1 x_12 b_1 x_9  H locs ls (lg_X4_greatestDivisor_12 v1 v2 i_1 a_1 b_1 n1 x_9 x_12 yv hi1_0 hi1_1 hmu1 t_3 t_7 t_11 t_14) (lg_X4_greatestDivisor_13 v1 v2 i_1 a_1 b_1 n1 x_9 x_12 yv hi1_0 hi1_1 hmu1 t_3 t_7 t_11 t_14) (lg_X4_greatestDivisor_14 v1 v2 i_1 a_1 b_1 n1 x_9 x_12 yv hi1_0 hi1_1 hmu1 t_3 t_7 t_11 t_14)  (Gc_s hp1_0 (lg_X4_greatestDivisor_15 v1 v2 i_1 a_1 b_1 n1 x_9 x_12 yv hi1_0 hi1_1 hmu1 t_3 t_7 t_11 t_14) ex_10) (Gh_s hp1_1 (lg_X4_greatestDivisor_15 v1 v2 i_1 a_1 b_1 n1 x_9 x_12 yv hi1_0 hi1_1 hmu1 t_3 t_7 t_11 t_14) ex_10 (lg_X4_greatestDivisor_16 v1 v2 i_1 a_1 b_1 n1 x_9 x_12 yv hi1_0 hi1_1 hmu1 t_3 t_7 t_11 t_14)) (lv_sub hl [0, 1, 2, 4, 5] rfl) (hP.sub [] rfl) (hD.sub [] (by decide) rfl) hS

theorem lg_X7_passDay_0 (n_d : Int32) (n_w : Int32) (yd : 0 ≤ n_d.toInt ∧ n_d.toInt ≤ 98 ∧ 0 ≤ n_w.toInt ∧ n_w.toInt ≤ n_d.toInt) : -2147483648 ≤ n_d.toInt + (1 : Int) ∧ n_d.toInt + (1 : Int) < 2147483648 := by
  have := rg_rng n_d; have := rg_rng n_w; omega
theorem lg_X7_passDay_1 (n_d : Int32) (n_w : Int32) (v1 : Int32) (x_1 : Int32) (yd : 0 ≤ n_d.toInt ∧ n_d.toInt ≤ 98 ∧ 0 ≤ n_w.toInt ∧ n_w.toInt ≤ n_d.toInt) (t_3 : x_1.toInt = n_d.toInt + (1 : Int)) (t_5 : v1.toInt = (0 : Int)) : -2147483648 ≤ n_w.toInt + (1 : Int) ∧ n_w.toInt + (1 : Int) < 2147483648 := by
  have := rg_rng n_d; have := rg_rng n_w; have := rg_rng v1; have := rg_rng x_1; omega
theorem lg_X7_passDay_2 (n_d : Int32) (n_w : Int32) (v1 : Int32) (x_1 : Int32) (x_6 : Int32) (yd : 0 ≤ n_d.toInt ∧ n_d.toInt ≤ 98 ∧ 0 ≤ n_w.toInt ∧ n_w.toInt ≤ n_d.toInt) (t_3 : x_1.toInt = n_d.toInt + (1 : Int)) (t_5 : v1.toInt = (0 : Int)) (t_8 : x_6.toInt = n_w.toInt + (1 : Int)) (t_10 : x_6.toInt < (5 : Int)) : x_1.toInt = n_d.toInt + 1 ∧ 0 ≤ x_6.toInt ∧ x_6.toInt ≤ x_1.toInt := by
  have := rg_rng n_d; have := rg_rng n_w; have := rg_rng v1; have := rg_rng x_1; have := rg_rng x_6; omega
theorem lg_X7_passDay_3 (n_d : Int32) (n_w : Int32) (v1 : Int32) (x_1 : Int32) (x_6 : Int32) (yd : 0 ≤ n_d.toInt ∧ n_d.toInt ≤ 98 ∧ 0 ≤ n_w.toInt ∧ n_w.toInt ≤ n_d.toInt) (t_3 : x_1.toInt = n_d.toInt + (1 : Int)) (t_5 : v1.toInt = (0 : Int)) (t_8 : x_6.toInt = n_w.toInt + (1 : Int)) (t_10 : x_6.toInt < (5 : Int)) : x_6.toInt = psW v1.toInt n_w.toInt := by
  have := rg_rng n_d; have := rg_rng n_w; have := rg_rng v1; have := rg_rng x_1; have := rg_rng x_6; unfold psW; (repeat' split) <;> omega
theorem lg_X7_passDay_4 (n_d : Int32) (n_w : Int32) (n_r : Int32) (v1 : Int32) (x_1 : Int32) (x_6 : Int32) (yd : 0 ≤ n_d.toInt ∧ n_d.toInt ≤ 98 ∧ 0 ≤ n_w.toInt ∧ n_w.toInt ≤ n_d.toInt) (t_3 : x_1.toInt = n_d.toInt + (1 : Int)) (t_5 : v1.toInt = (0 : Int)) (t_8 : x_6.toInt = n_w.toInt + (1 : Int)) (t_10 : x_6.toInt < (5 : Int)) : n_r.toInt = psR x_6.toInt n_r.toInt := by
  have := rg_rng n_d; have := rg_rng n_w; have := rg_rng n_r; have := rg_rng v1; have := rg_rng x_1; have := rg_rng x_6; unfold psR; (repeat' split) <;> omega
theorem lg_X7_passDay_5 (n_d : Int32) (n_w : Int32) (v1 : Int32) (x_1 : Int32) (x_6 : Int32) (yd : 0 ≤ n_d.toInt ∧ n_d.toInt ≤ 98 ∧ 0 ≤ n_w.toInt ∧ n_w.toInt ≤ n_d.toInt) (t_3 : x_1.toInt = n_d.toInt + (1 : Int)) (t_5 : v1.toInt = (0 : Int)) (t_8 : x_6.toInt = n_w.toInt + (1 : Int)) (t_10 : (5 : Int) ≤ x_6.toInt) : x_1.toInt = n_d.toInt + 1 ∧ 0 ≤ x_6.toInt ∧ x_6.toInt ≤ x_1.toInt := by
  have := rg_rng n_d; have := rg_rng n_w; have := rg_rng v1; have := rg_rng x_1; have := rg_rng x_6; omega
theorem lg_X7_passDay_6 (n_d : Int32) (n_w : Int32) (v1 : Int32) (x_1 : Int32) (x_6 : Int32) (yd : 0 ≤ n_d.toInt ∧ n_d.toInt ≤ 98 ∧ 0 ≤ n_w.toInt ∧ n_w.toInt ≤ n_d.toInt) (t_3 : x_1.toInt = n_d.toInt + (1 : Int)) (t_5 : v1.toInt = (0 : Int)) (t_8 : x_6.toInt = n_w.toInt + (1 : Int)) (t_10 : (5 : Int) ≤ x_6.toInt) : x_6.toInt = psW v1.toInt n_w.toInt := by
  have := rg_rng n_d; have := rg_rng n_w; have := rg_rng v1; have := rg_rng x_1; have := rg_rng x_6; unfold psW; (repeat' split) <;> omega
theorem lg_X7_passDay_7 (n_d : Int32) (n_w : Int32) (n_r : Int32) (v1 : Int32) (x_1 : Int32) (x_6 : Int32) (yd : 0 ≤ n_d.toInt ∧ n_d.toInt ≤ 98 ∧ 0 ≤ n_w.toInt ∧ n_w.toInt ≤ n_d.toInt) (t_3 : x_1.toInt = n_d.toInt + (1 : Int)) (t_5 : v1.toInt = (0 : Int)) (t_8 : x_6.toInt = n_w.toInt + (1 : Int)) (t_10 : (5 : Int) ≤ x_6.toInt) : (1 : Int) = psR x_6.toInt n_r.toInt := by
  have := rg_rng n_d; have := rg_rng n_w; have := rg_rng n_r; have := rg_rng v1; have := rg_rng x_1; have := rg_rng x_6; unfold psR; (repeat' split) <;> omega
theorem lg_X7_passDay_8 (n_d : Int32) (n_w : Int32) (v1 : Int32) (x_1 : Int32) (yd : 0 ≤ n_d.toInt ∧ n_d.toInt ≤ 98 ∧ 0 ≤ n_w.toInt ∧ n_w.toInt ≤ n_d.toInt) (t_3 : x_1.toInt = n_d.toInt + (1 : Int)) (t_5 : ¬ v1.toInt = (0 : Int)) : x_1.toInt = n_d.toInt + 1 ∧ 0 ≤ (0 : Int) ∧ (0 : Int) ≤ x_1.toInt := by
  have := rg_rng n_d; have := rg_rng n_w; have := rg_rng v1; have := rg_rng x_1; omega
theorem lg_X7_passDay_9 (n_d : Int32) (n_w : Int32) (v1 : Int32) (x_1 : Int32) (yd : 0 ≤ n_d.toInt ∧ n_d.toInt ≤ 98 ∧ 0 ≤ n_w.toInt ∧ n_w.toInt ≤ n_d.toInt) (t_3 : x_1.toInt = n_d.toInt + (1 : Int)) (t_5 : ¬ v1.toInt = (0 : Int)) : (0 : Int) = psW v1.toInt n_w.toInt := by
  have := rg_rng n_d; have := rg_rng n_w; have := rg_rng v1; have := rg_rng x_1; unfold psW; (repeat' split) <;> omega
theorem lg_X7_passDay_10 (n_d : Int32) (n_w : Int32) (n_r : Int32) (v1 : Int32) (x_1 : Int32) (yd : 0 ≤ n_d.toInt ∧ n_d.toInt ≤ 98 ∧ 0 ≤ n_w.toInt ∧ n_w.toInt ≤ n_d.toInt) (t_3 : x_1.toInt = n_d.toInt + (1 : Int)) (t_5 : ¬ v1.toInt = (0 : Int)) : n_r.toInt = psR (0 : Int) n_r.toInt := by
  have := rg_rng n_d; have := rg_rng n_w; have := rg_rng n_r; have := rg_rng v1; have := rg_rng x_1; unfold psR; (repeat' split) <;> omega
set_option maxHeartbeats 4000000 in
set_option maxRecDepth 100000 in
theorem kX7_passDay (l : Launch) (dC : Nat → ClassId) (dI : Nat → Nat → Nat) (sz : Nat) (h0 : Nat) (n_y : Int32) (n_d : Int32) (n_w : Int32) (n_r : Int32) (v1 : Int32) (yd : 0 ≤ n_d.toInt ∧ n_d.toInt ≤ 98 ∧ 0 ≤ n_w.toInt ∧ n_w.toInt ≤ n_d.toInt) : Met l yX7_passDay (Cond.code yX7_passDay cX7_passDay 2 none :: bg) ({ frames := 0, cells := 0, slots := 0, locals := 0 }) (pcW dC dI [.ref h0, .int v1] sz [(h0, .inr (7, [.int n_y, .int n_d, .int n_w, .int n_r]))] []) (va_Qv (fun (u : Unit) => True) (fun (u : Unit) (t : State) => ∃ (w_d : Int32) (w_w : Int32) (w_r : Int32), (w_d.toInt = n_d.toInt + 1 ∧ 0 ≤ w_w.toInt ∧ w_w.toInt ≤ w_d.toInt) ∧ w_w.toInt = psW v1.toInt n_w.toInt ∧ w_r.toInt = psR w_w.toInt n_r.toInt ∧ va_P (dC, dI) vwCl [(h0, .inr (7, [.int n_y, .int w_d, .int w_w, .int w_r]))] t.heap ∧ va_K (dC, dI) vwCl [] t ∧ va_D (va_A [(h0, .inr (7, [.int n_y, .int n_d, .int n_w, .int n_r]))] sz) [(h0, .inr (7, [.int n_y, .int w_d, .int w_w, .int w_r]))]) (va_A [(h0, .inr (7, [.int n_y, .int n_d, .int n_w, .int n_r]))] sz)) 0 0 (va_A [(h0, .inr (7, [.int n_y, .int n_d, .int n_w, .int n_r]))] sz) := by
  refine Met.ofW (cc := cX7_passDay) (maxL := 2) (ret := none) pnX7 rfl ?_
  intro p e s m args below meth c s₁ B hml hv
  obtain ⟨rfl, hsz, hP, hK, hD0, hN⟩ := hv
  have hx := B.exec
  have hb := B.bytes
  have hr := B.returns
  have htb : ∀ w ∈ bg, w.before [.ref h0, .int v1].toArray s = true := fun w h => atoms_spec (ws := Cond.code yX7_passDay cX7_passDay 2 none :: bg) B.pre w (List.mem_cons_of_mem _ h)
  have hown : s.vm.findClass RX7 = some m.cls := findClass_of_methodNamed B.named
  have hlocks := B.notSynchronized
  subst hsz
  have hD := hD0.self (sz := s.heap.size)
  generalize hAe : va_A [(h0, .inr (7, [.int n_y, .int n_d, .int n_w, .int n_r]))] s.heap.size = A at hD ⊢
  have hA : ∀ q : Nat, s.heap.size ≤ q → A q := fun q h => by rw [← hAe]; exact Or.inr h
  have hS : va_S A s.heap s.heap [] := va_S.rf
  have hl := lv_entry ([.ref h0, .int v1]) (n := 2) (Nat.le_of_ble_eq_true rfl)
  rw [lg_entry_eq]
  generalize (lg_sl ([.ref h0, .int v1]) ++ List.replicate (2 - (lg_sl ([.ref h0, .int v1])).length) Slot.unset).toArray = ls at hl ⊢
  change lv_has ls 2 [(0, .ref h0), (1, .int v1)] at hl
  clear hD0 hAe
  refine go0 (wsP := fun H => va_P (dC, dI) vwCl [(h0, .inr (7, [.int n_y, .int n_d, .int n_w, .int n_r]))] H) hP hS ?_
  clear hP hS; intro H locs hP hS
  change va_P (dC, dI) vwCl [(h0, .inr (7, [.int n_y, .int n_d, .int n_w, .int n_r]))] H at hP
  refine lv_aload_n hx hb dX7_passDay_0 rfl (lv_at hl 0 rfl) ?_
  refine lv_dup hx hb dX7_passDay_1 rfl ?_
  refine va_get (D := (dC, dI)) (ci := 7) (v := .int n_d) (C := RX7) (T := TX7) (N := 4) hx hb htb iX7 hown hK hP 0 rfl rfl 1 (Nat.le_of_ble_eq_true rfl) (htb _ m_106) (fun _ h9 => h9) rfl dX7_passDay_2 ?_
  refine lv_iconst (v := 1) hx hb dX7_passDay_5 (by decide) ?_
  refine lv_iadd hx hb dX7_passDay_6 ?_
  refine lv_topi (fun x_1 ex_2 => ?_)
  have t_3 : x_1.toInt = n_d.toInt + (1 : Int) := i_add rfl (by decide) (lg_X7_passDay_0 n_d n_w yd) ex_2
  refine va_put (D := (dC, dI)) (ci := 7) (v := .int x_1) (C := RX7) (T := TX7) (N := 4) hx hb htb iX7 tyX7 tyX7_ok nmX7 hown hK hP hD hS 0 rfl rfl 1 (Nat.le_of_ble_eq_true rfl) (htb _ m_106) (fun _ h9 => h9) rfl (tyX7_ok 1 (Nat.le_of_ble_eq_true rfl)) rfl rfl (Nat.le_of_ble_eq_true rfl) dX7_passDay_7 ?_
  clear hP hD hS; intro H locs hP hD hS
  change va_P (dC, dI) vwCl [(h0, .inr (7, [.int n_y, .int x_1, .int n_w, .int n_r]))] H at hP
  change va_D A [(h0, .inr (7, [.int n_y, .int x_1, .int n_w, .int n_r]))] at hD
  refine lv_aload_n hx hb dX7_passDay_10 rfl (lv_at hl 0 rfl) ?_
  refine lv_iload_n hx hb dX7_passDay_11 rfl (lv_at hl 1 rfl) ?_
  refine lv_if_eq (tgt := 19) hx hb dX7_passDay_12 (by decide) (fun c_4 => ?_) (fun c_4 => ?_)
  · have t_5 : v1.toInt = (0 : Int) := i_eq rfl (by decide) c_4
    refine lv_aload_n hx hb dX7_passDay_19 rfl (lv_at hl 0 rfl) ?_
    refine va_get (D := (dC, dI)) (ci := 7) (v := .int n_w) (C := RX7) (T := TX7) (N := 4) hx hb htb iX7 hown hK hP 0 rfl rfl 2 (Nat.le_of_ble_eq_true rfl) (htb _ m_108) (fun _ h9 => h9) rfl dX7_passDay_20 ?_
    refine lv_iconst (v := 1) hx hb dX7_passDay_23 (by decide) ?_
    refine lv_iadd hx hb dX7_passDay_24 ?_
    refine lv_topi (fun x_6 ex_7 => ?_)
    have t_8 : x_6.toInt = n_w.toInt + (1 : Int) := i_add rfl (by decide) (lg_X7_passDay_1 n_d n_w v1 x_1 yd t_3 t_5) ex_7
    refine va_put (D := (dC, dI)) (ci := 7) (v := .int x_6) (C := RX7) (T := TX7) (N := 4) hx hb htb iX7 tyX7 tyX7_ok nmX7 hown hK hP hD hS 0 rfl rfl 2 (Nat.le_of_ble_eq_true rfl) (htb _ m_108) (fun _ h9 => h9) rfl (tyX7_ok 2 (Nat.le_of_ble_eq_true rfl)) rfl rfl (Nat.le_of_ble_eq_true rfl) dX7_passDay_25 ?_
    clear hP hD hS; intro H locs hP hD hS
    change va_P (dC, dI) vwCl [(h0, .inr (7, [.int n_y, .int x_1, .int x_6, .int n_r]))] H at hP
    change va_D A [(h0, .inr (7, [.int n_y, .int x_1, .int x_6, .int n_r]))] at hD
    refine lv_aload_n hx hb dX7_passDay_28 rfl (lv_at hl 0 rfl) ?_
    refine va_get (D := (dC, dI)) (ci := 7) (v := .int x_6) (C := RX7) (T := TX7) (N := 4) hx hb htb iX7 hown hK hP 0 rfl rfl 2 (Nat.le_of_ble_eq_true rfl) (htb _ m_108) (fun _ h9 => h9) rfl dX7_passDay_29 ?_
    refine lv_iconst (v := 5) hx hb dX7_passDay_32 (by decide) ?_
    refine lv_icmp_lt (tgt := 41) hx hb dX7_passDay_33 (by decide) (fun c_9 => ?_) (fun c_9 => ?_)
    · have t_10 : x_6.toInt < (5 : Int) := i_lt rfl (by decide) c_9
      refine W.widen (k := 0) (n := 0) (Nat.le_of_ble_eq_true rfl) (Nat.le_of_ble_eq_true rfl) ?_
      have hP9 := hP.sub (ws' := [(h0, .inr (7, [.int n_y, .int x_1, .int x_6, .int n_r]))]) [0] rfl
      have hD9 := hD.sub (ws' := [(h0, .inr (7, [.int n_y, .int x_1, .int x_6, .int n_r]))]) [0] (by decide) rfl
      have hK9 := hK.sub (tys' := []) [] rfl
      exact W.vret hx hb hr (fun t ht hW => ⟨⟨(), rfl, trivial, ⟨x_1, x_6, n_r, (lg_X7_passDay_2 n_d n_w v1 x_1 x_6 yd t_3 t_5 t_8 t_10), (lg_X7_passDay_3 n_d n_w v1 x_1 x_6 yd t_3 t_5 t_8 t_10), (lg_X7_passDay_4 n_d n_w n_r v1 x_1 x_6 yd t_3 t_5 t_8 t_10), by rw [ht]; exact hP9, va_K.moved hW.alike hK9, hD9⟩⟩, hS.F ht⟩) hS.2.2 dX7_passDay_41
    · have t_10 : (5 : Int) ≤ x_6.toInt := i_nlt rfl (by decide) c_9
      refine lv_aload_n hx hb dX7_passDay_36 rfl (lv_at hl 0 rfl) ?_
      refine lv_iconst (v := 1) hx hb dX7_passDay_37 (by decide) ?_
      refine va_put (D := (dC, dI)) (ci := 7) (v := .int 1) (C := RX7) (T := TX7) (N := 4) hx hb htb iX7 tyX7 tyX7_ok nmX7 hown hK hP hD hS 0 rfl rfl 3 (Nat.le_of_ble_eq_true rfl) (htb _ m_109) (fun _ h9 => h9) rfl (tyX7_ok 3 (Nat.le_of_ble_eq_true rfl)) rfl rfl (Nat.le_of_ble_eq_true rfl) dX7_passDay_38 ?_
      clear hP hD hS; intro H locs hP hD hS
      change va_P (dC, dI) vwCl [(h0, .inr (7, [.int n_y, .int x_1, .int x_6, .int 1]))] H at hP
      change va_D A [(h0, .inr (7, [.int n_y, .int x_1, .int x_6, .int 1]))] at hD
      refine W.widen (k := 0) (n := 0) (Nat.le_of_ble_eq_true rfl) (Nat.le_of_ble_eq_true rfl) ?_
      have hP9 := hP.sub (ws' := [(h0, .inr (7, [.int n_y, .int x_1, .int x_6, .int 1]))]) [0] rfl
      have hD9 := hD.sub (ws' := [(h0, .inr (7, [.int n_y, .int x_1, .int x_6, .int 1]))]) [0] (by decide) rfl
      have hK9 := hK.sub (tys' := []) [] rfl
      exact W.vret hx hb hr (fun t ht hW => ⟨⟨(), rfl, trivial, ⟨x_1, x_6, 1, (lg_X7_passDay_5 n_d n_w v1 x_1 x_6 yd t_3 t_5 t_8 t_10), (lg_X7_passDay_6 n_d n_w v1 x_1 x_6 yd t_3 t_5 t_8 t_10), (lg_X7_passDay_7 n_d n_w n_r v1 x_1 x_6 yd t_3 t_5 t_8 t_10), by rw [ht]; exact hP9, va_K.moved hW.alike hK9, hD9⟩⟩, hS.F ht⟩) hS.2.2 dX7_passDay_41
  · have t_5 : ¬ v1.toInt = (0 : Int) := i_ne rfl (by decide) c_4
    refine lv_iconst (v := 0) hx hb dX7_passDay_15 (by decide) ?_
    refine lv_goto (tgt := 25) hx hb dX7_passDay_16 (by decide) ?_
    refine va_put (D := (dC, dI)) (ci := 7) (v := .int 0) (C := RX7) (T := TX7) (N := 4) hx hb htb iX7 tyX7 tyX7_ok nmX7 hown hK hP hD hS 0 rfl rfl 2 (Nat.le_of_ble_eq_true rfl) (htb _ m_108) (fun _ h9 => h9) rfl (tyX7_ok 2 (Nat.le_of_ble_eq_true rfl)) rfl rfl (Nat.le_of_ble_eq_true rfl) dX7_passDay_25 ?_
    clear hP hD hS; intro H locs hP hD hS
    change va_P (dC, dI) vwCl [(h0, .inr (7, [.int n_y, .int x_1, .int 0, .int n_r]))] H at hP
    change va_D A [(h0, .inr (7, [.int n_y, .int x_1, .int 0, .int n_r]))] at hD
    refine lv_aload_n hx hb dX7_passDay_28 rfl (lv_at hl 0 rfl) ?_
    refine va_get (D := (dC, dI)) (ci := 7) (v := .int 0) (C := RX7) (T := TX7) (N := 4) hx hb htb iX7 hown hK hP 0 rfl rfl 2 (Nat.le_of_ble_eq_true rfl) (htb _ m_108) (fun _ h9 => h9) rfl dX7_passDay_29 ?_
    refine lv_iconst (v := 5) hx hb dX7_passDay_32 (by decide) ?_
    refine lv_icmp_lt (tgt := 41) hx hb dX7_passDay_33 (by decide) ?_ (fun c_11 => absurd (by decide) c_11)
    intro _
    refine W.widen (k := 0) (n := 0) (Nat.le_of_ble_eq_true rfl) (Nat.le_of_ble_eq_true rfl) ?_
    have hP9 := hP.sub (ws' := [(h0, .inr (7, [.int n_y, .int x_1, .int 0, .int n_r]))]) [0] rfl
    have hD9 := hD.sub (ws' := [(h0, .inr (7, [.int n_y, .int x_1, .int 0, .int n_r]))]) [0] (by decide) rfl
    have hK9 := hK.sub (tys' := []) [] rfl
    exact W.vret hx hb hr (fun t ht hW => ⟨⟨(), rfl, trivial, ⟨x_1, 0, n_r, (lg_X7_passDay_8 n_d n_w v1 x_1 yd t_3 t_5), (lg_X7_passDay_9 n_d n_w v1 x_1 yd t_3 t_5), (lg_X7_passDay_10 n_d n_w n_r v1 x_1 yd t_3 t_5), by rw [ht]; exact hP9, va_K.moved hW.alike hK9, hD9⟩⟩, hS.F ht⟩) hS.2.2 dX7_passDay_41

theorem lg_X7_beginYear_0 (n_y : Int32) (yd : 0 ≤ n_y.toInt ∧ n_y.toInt ≤ 19) : -2147483648 ≤ n_y.toInt + (1 : Int) ∧ n_y.toInt + (1 : Int) < 2147483648 := by
  have := rg_rng n_y; omega
theorem lg_X7_beginYear_1 (n_y : Int32) (x_1 : Int32) (yd : 0 ≤ n_y.toInt ∧ n_y.toInt ≤ 19) (t_3 : x_1.toInt = n_y.toInt + (1 : Int)) : x_1.toInt = n_y.toInt + 1 := by
  have := rg_rng n_y; have := rg_rng x_1; omega
set_option maxHeartbeats 4000000 in
set_option maxRecDepth 100000 in
theorem kX7_beginYear (l : Launch) (dC : Nat → ClassId) (dI : Nat → Nat → Nat) (sz : Nat) (h0 : Nat) (n_y : Int32) (n_d : Int32) (n_w : Int32) (n_r : Int32) (yd : 0 ≤ n_y.toInt ∧ n_y.toInt ≤ 19) : Met l yX7_beginYear (Cond.code yX7_beginYear cX7_beginYear 1 none :: bg) ({ frames := 0, cells := 0, slots := 0, locals := 0 }) (pcW dC dI [.ref h0] sz [(h0, .inr (7, [.int n_y, .int n_d, .int n_w, .int n_r]))] []) (va_Qv (fun (u : Unit) => True) (fun (u : Unit) (t : State) => ∃ (w_y : Int32), w_y.toInt = n_y.toInt + 1 ∧ va_P (dC, dI) vwCl [(h0, .inr (7, [.int w_y, .int 0, .int 0, .int 0]))] t.heap ∧ va_K (dC, dI) vwCl [] t ∧ va_D (va_A [(h0, .inr (7, [.int n_y, .int n_d, .int n_w, .int n_r]))] sz) [(h0, .inr (7, [.int w_y, .int 0, .int 0, .int 0]))]) (va_A [(h0, .inr (7, [.int n_y, .int n_d, .int n_w, .int n_r]))] sz)) 0 0 (va_A [(h0, .inr (7, [.int n_y, .int n_d, .int n_w, .int n_r]))] sz) := by
  refine Met.ofW (cc := cX7_beginYear) (maxL := 1) (ret := none) pnX7 rfl ?_
  intro p e s m args below meth c s₁ B hml hv
  obtain ⟨rfl, hsz, hP, hK, hD0, hN⟩ := hv
  have hx := B.exec
  have hb := B.bytes
  have hr := B.returns
  have htb : ∀ w ∈ bg, w.before [.ref h0].toArray s = true := fun w h => atoms_spec (ws := Cond.code yX7_beginYear cX7_beginYear 1 none :: bg) B.pre w (List.mem_cons_of_mem _ h)
  have hown : s.vm.findClass RX7 = some m.cls := findClass_of_methodNamed B.named
  have hlocks := B.notSynchronized
  subst hsz
  have hD := hD0.self (sz := s.heap.size)
  generalize hAe : va_A [(h0, .inr (7, [.int n_y, .int n_d, .int n_w, .int n_r]))] s.heap.size = A at hD ⊢
  have hA : ∀ q : Nat, s.heap.size ≤ q → A q := fun q h => by rw [← hAe]; exact Or.inr h
  have hS : va_S A s.heap s.heap [] := va_S.rf
  have hl := lv_entry ([.ref h0]) (n := 1) (Nat.le_of_ble_eq_true rfl)
  rw [lg_entry_eq]
  generalize (lg_sl ([.ref h0]) ++ List.replicate (1 - (lg_sl ([.ref h0])).length) Slot.unset).toArray = ls at hl ⊢
  change lv_has ls 1 [(0, .ref h0)] at hl
  clear hD0 hAe
  refine go0 (wsP := fun H => va_P (dC, dI) vwCl [(h0, .inr (7, [.int n_y, .int n_d, .int n_w, .int n_r]))] H) hP hS ?_
  clear hP hS; intro H locs hP hS
  change va_P (dC, dI) vwCl [(h0, .inr (7, [.int n_y, .int n_d, .int n_w, .int n_r]))] H at hP
  refine lv_aload_n hx hb dX7_beginYear_0 rfl (lv_at hl 0 rfl) ?_
  refine lv_dup hx hb dX7_beginYear_1 rfl ?_
  refine va_get (D := (dC, dI)) (ci := 7) (v := .int n_y) (C := RX7) (T := TX7) (N := 4) hx hb htb iX7 hown hK hP 0 rfl rfl 0 (Nat.le_of_ble_eq_true rfl) (htb _ m_104) (fun _ h9 => h9) rfl dX7_beginYear_2 ?_
  refine lv_iconst (v := 1) hx hb dX7_beginYear_5 (by decide) ?_
  refine lv_iadd hx hb dX7_beginYear_6 ?_
  refine lv_topi (fun x_1 ex_2 => ?_)
  have t_3 : x_1.toInt = n_y.toInt + (1 : Int) := i_add rfl (by decide) (lg_X7_beginYear_0 n_y yd) ex_2
  refine va_put (D := (dC, dI)) (ci := 7) (v := .int x_1) (C := RX7) (T := TX7) (N := 4) hx hb htb iX7 tyX7 tyX7_ok nmX7 hown hK hP hD hS 0 rfl rfl 0 (Nat.le_of_ble_eq_true rfl) (htb _ m_104) (fun _ h9 => h9) rfl (tyX7_ok 0 (Nat.le_of_ble_eq_true rfl)) rfl rfl (Nat.le_of_ble_eq_true rfl) dX7_beginYear_7 ?_
  clear hP hD hS; intro H locs hP hD hS
  change va_P (dC, dI) vwCl [(h0, .inr (7, [.int x_1, .int n_d, .int n_w, .int n_r]))] H at hP
  change va_D A [(h0, .inr (7, [.int x_1, .int n_d, .int n_w, .int n_r]))] at hD
  refine lv_aload_n hx hb dX7_beginYear_10 rfl (lv_at hl 0 rfl) ?_
  refine lv_iconst (v := 0) hx hb dX7_beginYear_11 (by decide) ?_
  refine va_put (D := (dC, dI)) (ci := 7) (v := .int 0) (C := RX7) (T := TX7) (N := 4) hx hb htb iX7 tyX7 tyX7_ok nmX7 hown hK hP hD hS 0 rfl rfl 1 (Nat.le_of_ble_eq_true rfl) (htb _ m_106) (fun _ h9 => h9) rfl (tyX7_ok 1 (Nat.le_of_ble_eq_true rfl)) rfl rfl (Nat.le_of_ble_eq_true rfl) dX7_beginYear_12 ?_
  clear hP hD hS; intro H locs hP hD hS
  change va_P (dC, dI) vwCl [(h0, .inr (7, [.int x_1, .int 0, .int n_w, .int n_r]))] H at hP
  change va_D A [(h0, .inr (7, [.int x_1, .int 0, .int n_w, .int n_r]))] at hD
  refine lv_aload_n hx hb dX7_beginYear_15 rfl (lv_at hl 0 rfl) ?_
  refine lv_iconst (v := 0) hx hb dX7_beginYear_16 (by decide) ?_
  refine va_put (D := (dC, dI)) (ci := 7) (v := .int 0) (C := RX7) (T := TX7) (N := 4) hx hb htb iX7 tyX7 tyX7_ok nmX7 hown hK hP hD hS 0 rfl rfl 2 (Nat.le_of_ble_eq_true rfl) (htb _ m_108) (fun _ h9 => h9) rfl (tyX7_ok 2 (Nat.le_of_ble_eq_true rfl)) rfl rfl (Nat.le_of_ble_eq_true rfl) dX7_beginYear_17 ?_
  clear hP hD hS; intro H locs hP hD hS
  change va_P (dC, dI) vwCl [(h0, .inr (7, [.int x_1, .int 0, .int 0, .int n_r]))] H at hP
  change va_D A [(h0, .inr (7, [.int x_1, .int 0, .int 0, .int n_r]))] at hD
  refine lv_aload_n hx hb dX7_beginYear_20 rfl (lv_at hl 0 rfl) ?_
  refine lv_iconst (v := 0) hx hb dX7_beginYear_21 (by decide) ?_
  refine va_put (D := (dC, dI)) (ci := 7) (v := .int 0) (C := RX7) (T := TX7) (N := 4) hx hb htb iX7 tyX7 tyX7_ok nmX7 hown hK hP hD hS 0 rfl rfl 3 (Nat.le_of_ble_eq_true rfl) (htb _ m_109) (fun _ h9 => h9) rfl (tyX7_ok 3 (Nat.le_of_ble_eq_true rfl)) rfl rfl (Nat.le_of_ble_eq_true rfl) dX7_beginYear_22 ?_
  clear hP hD hS; intro H locs hP hD hS
  change va_P (dC, dI) vwCl [(h0, .inr (7, [.int x_1, .int 0, .int 0, .int 0]))] H at hP
  change va_D A [(h0, .inr (7, [.int x_1, .int 0, .int 0, .int 0]))] at hD
  refine W.widen (k := 0) (n := 0) (Nat.le_of_ble_eq_true rfl) (Nat.le_of_ble_eq_true rfl) ?_
  have hP9 := hP.sub (ws' := [(h0, .inr (7, [.int x_1, .int 0, .int 0, .int 0]))]) [0] rfl
  have hD9 := hD.sub (ws' := [(h0, .inr (7, [.int x_1, .int 0, .int 0, .int 0]))]) [0] (by decide) rfl
  have hK9 := hK.sub (tys' := []) [] rfl
  exact W.vret hx hb hr (fun t ht hW => ⟨⟨(), rfl, trivial, ⟨x_1, (lg_X7_beginYear_1 n_y x_1 yd t_3), by rw [ht]; exact hP9, va_K.moved hW.alike hK9, hD9⟩⟩, hS.F ht⟩) hS.2.2 dX7_beginYear_25

set_option maxHeartbeats 4000000 in
set_option maxRecDepth 100000 in
theorem kX8_takeIn (l : Launch) (dC : Nat → ClassId) (dI : Nat → Nat → Nat) (sz : Nat) (h0 : Nat) (n_p : Int32) (n_s : Int32) (n_l : Int32) (n_c : Int32) (v1 : Int32) : Met l yX8_takeIn (Cond.code yX8_takeIn cX8_takeIn 3 none :: bg) ({ frames := 1, cells := 0, slots := 0, locals := 13 }) (pcW dC dI [.ref h0, .int v1] sz [(h0, .inr (8, [.int n_p, .int n_s, .int n_l, .int n_c]))] []) (va_Qv (fun (u : Unit) => True) (fun (u : Unit) (t : State) => ∃ (w_p : Int32) (w_s : Int32) (w_l : Int32) (w_c : Int32), va_P (dC, dI) vwCl [(h0, .inr (8, [.int w_p, .int w_s, .int w_l, .int w_c]))] t.heap ∧ va_K (dC, dI) vwCl [] t ∧ va_D (va_A [(h0, .inr (8, [.int n_p, .int n_s, .int n_l, .int n_c]))] sz) [(h0, .inr (8, [.int w_p, .int w_s, .int w_l, .int w_c]))]) (va_A [(h0, .inr (8, [.int n_p, .int n_s, .int n_l, .int n_c]))] sz)) 0 0 (va_A [(h0, .inr (8, [.int n_p, .int n_s, .int n_l, .int n_c]))] sz) := by
  refine Met.ofW (cc := cX8_takeIn) (maxL := 3) (ret := none) pnX8 rfl ?_
  intro p e s m args below meth c s₁ B hml hv
  obtain ⟨rfl, hsz, hP, hK, hD0, hN⟩ := hv
  have hx := B.exec
  have hb := B.bytes
  have hr := B.returns
  have htb : ∀ w ∈ bg, w.before [.ref h0, .int v1].toArray s = true := fun w h => atoms_spec (ws := Cond.code yX8_takeIn cX8_takeIn 3 none :: bg) B.pre w (List.mem_cons_of_mem _ h)
  have hown : s.vm.findClass RX8 = some m.cls := findClass_of_methodNamed B.named
  have hlocks := B.notSynchronized
  subst hsz
  have hD := hD0.self (sz := s.heap.size)
  generalize hAe : va_A [(h0, .inr (8, [.int n_p, .int n_s, .int n_l, .int n_c]))] s.heap.size = A at hD ⊢
  have hA : ∀ q : Nat, s.heap.size ≤ q → A q := fun q h => by rw [← hAe]; exact Or.inr h
  have hS : va_S A s.heap s.heap [] := va_S.rf
  have hl := lv_entry ([.ref h0, .int v1]) (n := 3) (Nat.le_of_ble_eq_true rfl)
  rw [lg_entry_eq]
  generalize (lg_sl ([.ref h0, .int v1]) ++ List.replicate (3 - (lg_sl ([.ref h0, .int v1])).length) Slot.unset).toArray = ls at hl ⊢
  change lv_has ls 3 [(0, .ref h0), (1, .int v1)] at hl
  clear hD0 hAe
  refine go0 (wsP := fun H => va_P (dC, dI) vwCl [(h0, .inr (8, [.int n_p, .int n_s, .int n_l, .int n_c]))] H) hP hS ?_
  clear hP hS; intro H locs hP hS
  change va_P (dC, dI) vwCl [(h0, .inr (8, [.int n_p, .int n_s, .int n_l, .int n_c]))] H at hP
  refine lv_iload_n hx hb dX8_takeIn_0 rfl (lv_at hl 1 rfl) ?_
  refine lv_sipush (v := 20000) hx hb dX8_takeIn_1 (by decide) ?_
  refine lv_aload_n hx hb dX8_takeIn_4 rfl (lv_at hl 0 rfl) ?_
  refine va_get (D := (dC, dI)) (ci := 8) (v := .int n_p) (C := RX8) (T := TX8) (N := 4) hx hb htb iX8 hown hK hP 0 rfl rfl 0 (Nat.le_of_ble_eq_true rfl) (htb _ m_139) (fun _ h9 => h9) rfl dX8_takeIn_5 ?_
  refine lv_isub hx hb dX8_takeIn_8 ?_
  refine lv_topi (fun x_1 ex_2 => ?_)
  refine va_mmin hx hb (hml.trans hl.1.symm) hown (htb _ m_539) (htb _ m_408) (htb _ m_14) (htb _ m_409) (Nat.le_of_ble_eq_true rfl) (Nat.le_of_ble_eq_true rfl) (Nat.le_of_ble_eq_true rfl) (Nat.le_of_ble_eq_true rfl) dX8_takeIn_9 ?_
  refine lv_topi (fun x_4 ex_5 => ?_)
  refine lv_istore_n (lv' := [(2, .int x_4), (0, .ref h0), (1, .int v1)]) hx hb dX8_takeIn_12 rfl hl (by decide) rfl ?_
  clear hl; intro ls hl
  refine lv_aload_n hx hb dX8_takeIn_13 rfl (lv_at hl 1 rfl) ?_
  refine lv_dup hx hb dX8_takeIn_14 rfl ?_
  refine va_get (D := (dC, dI)) (ci := 8) (v := .int n_p) (C := RX8) (T := TX8) (N := 4) hx hb htb iX8 hown hK hP 0 rfl rfl 0 (Nat.le_of_ble_eq_true rfl) (htb _ m_139) (fun _ h9 => h9) rfl dX8_takeIn_15 ?_
  refine lv_iload_n hx hb dX8_takeIn_18 rfl (lv_at hl 0 rfl) ?_
  refine lv_iadd hx hb dX8_takeIn_19 ?_
  refine lv_topi (fun x_7 ex_8 => ?_)
  refine va_put (D := (dC, dI)) (ci := 8) (v := .int x_7) (C := RX8) (T := TX8) (N := 4) hx hb htb iX8 tyX8 tyX8_ok nmX8 hown hK hP hD hS 0 rfl rfl 0 (Nat.le_of_ble_eq_true rfl) (htb _ m_139) (fun _ h9 => h9) rfl (tyX8_ok 0 (Nat.le_of_ble_eq_true rfl)) rfl rfl (Nat.le_of_ble_eq_true rfl) dX8_takeIn_20 ?_
  clear hP hD hS; intro H locs hP hD hS
  change va_P (dC, dI) vwCl [(h0, .inr (8, [.int x_7, .int n_s, .int n_l, .int n_c]))] H at hP
  change va_D A [(h0, .inr (8, [.int x_7, .int n_s, .int n_l, .int n_c]))] at hD
  refine lv_aload_n hx hb dX8_takeIn_23 rfl (lv_at hl 1 rfl) ?_
  refine lv_dup hx hb dX8_takeIn_24 rfl ?_
  refine va_get (D := (dC, dI)) (ci := 8) (v := .int n_s) (C := RX8) (T := TX8) (N := 4) hx hb htb iX8 hown hK hP 0 rfl rfl 1 (Nat.le_of_ble_eq_true rfl) (htb _ m_141) (fun _ h9 => h9) rfl dX8_takeIn_25 ?_
  refine lv_iload_n hx hb dX8_takeIn_28 rfl (lv_at hl 2 rfl) ?_
  refine lv_iload_n hx hb dX8_takeIn_29 rfl (lv_at hl 0 rfl) ?_
  refine lv_isub hx hb dX8_takeIn_30 ?_
  refine lv_topi (fun x_10 ex_11 => ?_)
  refine lv_iadd hx hb dX8_takeIn_31 ?_
  refine lv_topi (fun x_13 ex_14 => ?_)
  refine va_put (D := (dC, dI)) (ci := 8) (v := .int x_13) (C := RX8) (T := TX8) (N := 4) hx hb htb iX8 tyX8 tyX8_ok nmX8 hown hK hP hD hS 0 rfl rfl 1 (Nat.le_of_ble_eq_true rfl) (htb _ m_141) (fun _ h9 => h9) rfl (tyX8_ok 1 (Nat.le_of_ble_eq_true rfl)) rfl rfl (Nat.le_of_ble_eq_true rfl) dX8_takeIn_32 ?_
  clear hP hD hS; intro H locs hP hD hS
  change va_P (dC, dI) vwCl [(h0, .inr (8, [.int x_7, .int x_13, .int n_l, .int n_c]))] H at hP
  change va_D A [(h0, .inr (8, [.int x_7, .int x_13, .int n_l, .int n_c]))] at hD
  refine lv_aload_n hx hb dX8_takeIn_35 rfl (lv_at hl 1 rfl) ?_
  refine lv_dup hx hb dX8_takeIn_36 rfl ?_
  refine va_get (D := (dC, dI)) (ci := 8) (v := .int n_c) (C := RX8) (T := TX8) (N := 4) hx hb htb iX8 hown hK hP 0 rfl rfl 3 (Nat.le_of_ble_eq_true rfl) (htb _ m_145) (fun _ h9 => h9) rfl dX8_takeIn_37 ?_
  refine lv_iload_n hx hb dX8_takeIn_40 rfl (lv_at hl 2 rfl) ?_
  refine lv_iadd hx hb dX8_takeIn_41 ?_
  refine lv_topi (fun x_16 ex_17 => ?_)
  refine va_put (D := (dC, dI)) (ci := 8) (v := .int x_16) (C := RX8) (T := TX8) (N := 4) hx hb htb iX8 tyX8 tyX8_ok nmX8 hown hK hP hD hS 0 rfl rfl 3 (Nat.le_of_ble_eq_true rfl) (htb _ m_145) (fun _ h9 => h9) rfl (tyX8_ok 3 (Nat.le_of_ble_eq_true rfl)) rfl rfl (Nat.le_of_ble_eq_true rfl) dX8_takeIn_42 ?_
  clear hP hD hS; intro H locs hP hD hS
  change va_P (dC, dI) vwCl [(h0, .inr (8, [.int x_7, .int x_13, .int n_l, .int x_16]))] H at hP
  change va_D A [(h0, .inr (8, [.int x_7, .int x_13, .int n_l, .int x_16]))] at hD
  refine W.widen (k := 0) (n := 0) (Nat.le_of_ble_eq_true rfl) (Nat.le_of_ble_eq_true rfl) ?_
  have hP9 := hP.sub (ws' := [(h0, .inr (8, [.int x_7, .int x_13, .int n_l, .int x_16]))]) [0] rfl
  have hD9 := hD.sub (ws' := [(h0, .inr (8, [.int x_7, .int x_13, .int n_l, .int x_16]))]) [0] (by decide) rfl
  have hK9 := hK.sub (tys' := []) [] rfl
  exact W.vret hx hb hr (fun t ht hW => ⟨⟨(), rfl, trivial, ⟨x_7, x_13, n_l, x_16, by rw [ht]; exact hP9, va_K.moved hW.alike hK9, hD9⟩⟩, hS.F ht⟩) hS.2.2 dX8_takeIn_45

set_option maxHeartbeats 4000000 in
set_option maxRecDepth 100000 in
theorem kX8_leave (l : Launch) (dC : Nat → ClassId) (dI : Nat → Nat → Nat) (sz : Nat) (h0 : Nat) (n_p : Int32) (n_s : Int32) (n_l : Int32) (n_c : Int32) (v1 : Int32) : Met l yX8_leave (Cond.code yX8_leave cX8_leave 2 none :: bg) ({ frames := 0, cells := 0, slots := 0, locals := 0 }) (pcW dC dI [.ref h0, .int v1] sz [(h0, .inr (8, [.int n_p, .int n_s, .int n_l, .int n_c]))] []) (va_Qv (fun (u : Unit) => True) (fun (u : Unit) (t : State) => ∃ (w_p : Int32) (w_s : Int32) (w_l : Int32) (w_c : Int32), va_P (dC, dI) vwCl [(h0, .inr (8, [.int w_p, .int w_s, .int w_l, .int w_c]))] t.heap ∧ va_K (dC, dI) vwCl [] t ∧ va_D (va_A [(h0, .inr (8, [.int n_p, .int n_s, .int n_l, .int n_c]))] sz) [(h0, .inr (8, [.int w_p, .int w_s, .int w_l, .int w_c]))]) (va_A [(h0, .inr (8, [.int n_p, .int n_s, .int n_l, .int n_c]))] sz)) 0 0 (va_A [(h0, .inr (8, [.int n_p, .int n_s, .int n_l, .int n_c]))] sz) := by
  refine Met.ofW (cc := cX8_leave) (maxL := 2) (ret := none) pnX8 rfl ?_
  intro p e s m args below meth c s₁ B hml hv
  obtain ⟨rfl, hsz, hP, hK, hD0, hN⟩ := hv
  have hx := B.exec
  have hb := B.bytes
  have hr := B.returns
  have htb : ∀ w ∈ bg, w.before [.ref h0, .int v1].toArray s = true := fun w h => atoms_spec (ws := Cond.code yX8_leave cX8_leave 2 none :: bg) B.pre w (List.mem_cons_of_mem _ h)
  have hown : s.vm.findClass RX8 = some m.cls := findClass_of_methodNamed B.named
  have hlocks := B.notSynchronized
  subst hsz
  have hD := hD0.self (sz := s.heap.size)
  generalize hAe : va_A [(h0, .inr (8, [.int n_p, .int n_s, .int n_l, .int n_c]))] s.heap.size = A at hD ⊢
  have hA : ∀ q : Nat, s.heap.size ≤ q → A q := fun q h => by rw [← hAe]; exact Or.inr h
  have hS : va_S A s.heap s.heap [] := va_S.rf
  have hl := lv_entry ([.ref h0, .int v1]) (n := 2) (Nat.le_of_ble_eq_true rfl)
  rw [lg_entry_eq]
  generalize (lg_sl ([.ref h0, .int v1]) ++ List.replicate (2 - (lg_sl ([.ref h0, .int v1])).length) Slot.unset).toArray = ls at hl ⊢
  change lv_has ls 2 [(0, .ref h0), (1, .int v1)] at hl
  clear hD0 hAe
  refine go0 (wsP := fun H => va_P (dC, dI) vwCl [(h0, .inr (8, [.int n_p, .int n_s, .int n_l, .int n_c]))] H) hP hS ?_
  clear hP hS; intro H locs hP hS
  change va_P (dC, dI) vwCl [(h0, .inr (8, [.int n_p, .int n_s, .int n_l, .int n_c]))] H at hP
  refine lv_aload_n hx hb dX8_leave_0 rfl (lv_at hl 0 rfl) ?_
  refine lv_dup hx hb dX8_leave_1 rfl ?_
  refine va_get (D := (dC, dI)) (ci := 8) (v := .int n_l) (C := RX8) (T := TX8) (N := 4) hx hb htb iX8 hown hK hP 0 rfl rfl 2 (Nat.le_of_ble_eq_true rfl) (htb _ m_143) (fun _ h9 => h9) rfl dX8_leave_2 ?_
  refine lv_iload_n hx hb dX8_leave_5 rfl (lv_at hl 1 rfl) ?_
  refine lv_iadd hx hb dX8_leave_6 ?_
  refine lv_topi (fun x_1 ex_2 => ?_)
  refine va_put (D := (dC, dI)) (ci := 8) (v := .int x_1) (C := RX8) (T := TX8) (N := 4) hx hb htb iX8 tyX8 tyX8_ok nmX8 hown hK hP hD hS 0 rfl rfl 2 (Nat.le_of_ble_eq_true rfl) (htb _ m_143) (fun _ h9 => h9) rfl (tyX8_ok 2 (Nat.le_of_ble_eq_true rfl)) rfl rfl (Nat.le_of_ble_eq_true rfl) dX8_leave_7 ?_
  clear hP hD hS; intro H locs hP hD hS
  change va_P (dC, dI) vwCl [(h0, .inr (8, [.int n_p, .int n_s, .int x_1, .int n_c]))] H at hP
  change va_D A [(h0, .inr (8, [.int n_p, .int n_s, .int x_1, .int n_c]))] at hD
  refine W.widen (k := 0) (n := 0) (Nat.le_of_ble_eq_true rfl) (Nat.le_of_ble_eq_true rfl) ?_
  have hP9 := hP.sub (ws' := [(h0, .inr (8, [.int n_p, .int n_s, .int x_1, .int n_c]))]) [0] rfl
  have hD9 := hD.sub (ws' := [(h0, .inr (8, [.int n_p, .int n_s, .int x_1, .int n_c]))]) [0] (by decide) rfl
  have hK9 := hK.sub (tys' := []) [] rfl
  exact W.vret hx hb hr (fun t ht hW => ⟨⟨(), rfl, trivial, ⟨n_p, n_s, x_1, n_c, by rw [ht]; exact hP9, va_K.moved hW.alike hK9, hD9⟩⟩, hS.F ht⟩) hS.2.2 dX8_leave_10
