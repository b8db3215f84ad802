theorem lf_X11_isWithin_0_0 (v1 : Int32) (c_1 : v1 < 0) : ¬ v1 = 0 := by
  first | assumption | grind | (simp [Int32.lt_iff_toInt_lt, Int32.le_iff_toInt_le, ← Int32.toInt_inj] at *; omega)
theorem lf_X11_isWithin_0_1 (v1 : Int32) (c_1 : ¬ v1 < 0) (c_2 : 0 < v1) : ¬ v1 = 0 := by
  first | assumption | grind | (simp [Int32.lt_iff_toInt_lt, Int32.le_iff_toInt_le, ← Int32.toInt_inj] at *; omega)
theorem lf_X11_isWithin_0_2 (v1 : Int32) (c_1 : ¬ v1 < 0) (c_2 : ¬ 0 < v1) : v1 = 0 := by
  first | assumption | grind | (simp [Int32.lt_iff_toInt_lt, Int32.le_iff_toInt_le, ← Int32.toInt_inj] at *; omega)
set_option maxHeartbeats 4000000 in
set_option maxRecDepth 100000 in
theorem kX11_isWithin_0 (l : Launch) (dC : Nat → ClassId) (dI : Nat → Nat → Nat) (sz : Nat) (v1 : Int32) : Met l yX11_isWithin (Cond.code yX11_isWithin cX11_isWithin 3 (some .boolean) :: bg) ({ frames := 0, cells := 0, slots := 0, locals := 0 }) (pcW dC dI [.int v1, .int 0, .int 0] sz [] []) (va_Qi (fun (r : Int32) (u : Unit) => (r = 1 ∧ v1 = 0) ∨ (r = 0 ∧ ¬ v1 = 0)) (fun (u : Unit) (t : State) => va_P (dC, dI) vwCl [] t.heap ∧ va_K (dC, dI) vwCl [] t ∧ va_D (va_A [] sz) []) (va_A [] sz)) 0 0 (va_A [] sz) := by
  refine Met.ofW (cc := cX11_isWithin) (maxL := 3) (ret := (some .boolean)) pnX11 rfl ?_
  intro p e s m args below meth c s₁ B hml hv
  obtain ⟨rfl, hsz, hP, hK, hD0, hN⟩ := hv
  have hx := B.exec
  have hb := B.bytes
  have hr := B.returns
  have htb : ∀ w ∈ bg, w.before [.int v1, .int 0, .int 0].toArray s = true := fun w h => atoms_spec (ws := Cond.code yX11_isWithin cX11_isWithin 3 (some .boolean) :: bg) B.pre w (List.mem_cons_of_mem _ h)
  have hown : s.vm.findClass RX11 = some m.cls := findClass_of_methodNamed B.named
  have hlocks := B.notSynchronized
  subst hsz
  have hD := hD0.self (sz := s.heap.size)
  generalize hAe : va_A [] s.heap.size = A at hD ⊢
  have hA : ∀ q : Nat, s.heap.size ≤ q → A q := fun q h => by rw [← hAe]; exact Or.inr h
  have hS : va_S A s.heap s.heap [] := va_S.rf
  have hl := lv_entry ([.int v1, .int 0, .int 0]) (n := 3) (Nat.le_of_ble_eq_true rfl)
  rw [lg_entry_eq]
  generalize (lg_sl ([.int v1, .int 0, .int 0]) ++ List.replicate (3 - (lg_sl ([.int v1, .int 0, .int 0])).length) Slot.unset).toArray = ls at hl ⊢
  change lv_has ls 3 [(0, .int v1), (1, .int 0), (2, .int 0)] at hl
  clear hD0 hAe
  refine go0 (wsP := fun H => va_P (dC, dI) vwCl [] H) hP hS ?_
  clear hP hS; intro H locs hP hS
  change va_P (dC, dI) vwCl [] H at hP
  refine lv_iload_n hx hb dX11_isWithin_0 rfl (lv_at hl 0 rfl) ?_
  refine lv_iload_n hx hb dX11_isWithin_1 rfl (lv_at hl 1 rfl) ?_
  refine lv_icmp_lt (tgt := 14) hx hb dX11_isWithin_2 (by decide) (fun c_1 => ?_) (fun c_1 => ?_)
  · refine lv_iconst (v := 0) hx hb dX11_isWithin_14 (by decide) ?_
    refine W.widen (k := 0) (n := 0) (Nat.le_of_ble_eq_true rfl) (Nat.le_of_ble_eq_true rfl) ?_
    have hP9 := hP.sub (ws' := []) [] rfl
    have hD9 := hD.sub (ws' := []) [] (by decide) rfl
    have hK9 := hK.sub (tys' := []) [] rfl
    exact W.zret (ty := .boolean) (v := 0) hx hb hr rfl (fun t ht hW => ⟨⟨0, (), rfl, (Or.inr (⟨rfl, (lf_X11_isWithin_0_0 v1 c_1)⟩)), ⟨by rw [ht]; exact hP9, va_K.moved hW.alike hK9, hD9⟩⟩, hS.F ht⟩) hS.2.2 dX11_isWithin_15
  · refine lv_iload_n hx hb dX11_isWithin_5 rfl (lv_at hl 0 rfl) ?_
    refine lv_iload_n hx hb dX11_isWithin_6 rfl (lv_at hl 2 rfl) ?_
    refine lv_icmp_gt (tgt := 14) hx hb dX11_isWithin_7 (by decide) (fun c_2 => ?_) (fun c_2 => ?_)
    · refine lv_iconst (v := 0) hx hb dX11_isWithin_14 (by decide) ?_
      refine W.widen (k := 0) (n := 0) (Nat.le_of_ble_eq_true rfl) (Nat.le_of_ble_eq_true rfl) ?_
      have hP9 := hP.sub (ws' := []) [] rfl
      have hD9 := hD.sub (ws' := []) [] (by decide) rfl
      have hK9 := hK.sub (tys' := []) [] rfl
      exact W.zret (ty := .boolean) (v := 0) hx hb hr rfl (fun t ht hW => ⟨⟨0, (), rfl, (Or.inr (⟨rfl, (lf_X11_isWithin_0_1 v1 c_1 c_2)⟩)), ⟨by rw [ht]; exact hP9, va_K.moved hW.alike hK9, hD9⟩⟩, hS.F ht⟩) hS.2.2 dX11_isWithin_15
    · refine lv_iconst (v := 1) hx hb dX11_isWithin_10 (by decide) ?_
      refine lv_goto (tgt := 15) hx hb dX11_isWithin_11 (by decide) ?_
      refine W.widen (k := 0) (n := 0) (Nat.le_of_ble_eq_true rfl) (Nat.le_of_ble_eq_true rfl) ?_
      have hP9 := hP.sub (ws' := []) [] rfl
      have hD9 := hD.sub (ws' := []) [] (by decide) rfl
      have hK9 := hK.sub (tys' := []) [] rfl
      exact W.zret (ty := .boolean) (v := 1) hx hb hr rfl (fun t ht hW => ⟨⟨1, (), rfl, (Or.inl ⟨rfl, (lf_X11_isWithin_0_2 v1 c_1 c_2)⟩), ⟨by rw [ht]; exact hP9, va_K.moved hW.alike hK9, hD9⟩⟩, hS.F ht⟩) hS.2.2 dX11_isWithin_15

theorem lf_X11_isWithin_0 (v1 : Int32) (v2 : Int32) (v3 : Int32) (c_1 : v1 < v2) : ¬ (v2 ≤ v1 ∧ v1 ≤ v3) := by
  first | assumption | grind | (simp [Int32.lt_iff_toInt_lt, Int32.le_iff_toInt_le, ← Int32.toInt_inj] at *; omega)
theorem lf_X11_isWithin_1 (v1 : Int32) (v2 : Int32) (v3 : Int32) (c_1 : ¬ v1 < v2) (c_2 : v3 < v1) : ¬ (v2 ≤ v1 ∧ v1 ≤ v3) := by
  first | assumption | grind | (simp [Int32.lt_iff_toInt_lt, Int32.le_iff_toInt_le, ← Int32.toInt_inj] at *; omega)
theorem lf_X11_isWithin_2 (v1 : Int32) (v2 : Int32) (v3 : Int32) (c_1 : ¬ v1 < v2) (c_2 : ¬ v3 < v1) : v2 ≤ v1 ∧ v1 ≤ v3 := by
  first | assumption | grind | (simp [Int32.lt_iff_toInt_lt, Int32.le_iff_toInt_le, ← Int32.toInt_inj] at *; omega)
set_option maxHeartbeats 4000000 in
set_option maxRecDepth 100000 in
theorem kX11_isWithin (l : Launch) (dC : Nat → ClassId) (dI : Nat → Nat → Nat) (sz : Nat) (v1 : Int32) (v2 : Int32) (v3 : Int32) : Met l yX11_isWithin (Cond.code yX11_isWithin cX11_isWithin 3 (some .boolean) :: bg) ({ frames := 0, cells := 0, slots := 0, locals := 0 }) (pcW dC dI [.int v1, .int v2, .int v3] sz [] []) (va_Qi (fun (r : Int32) (u : Unit) => (r = 1 ∧ v2 ≤ v1 ∧ v1 ≤ v3) ∨ (r = 0 ∧ ¬ (v2 ≤ v1 ∧ v1 ≤ v3))) (fun (u : Unit) (t : State) => va_P (dC, dI) vwCl [] t.heap ∧ va_K (dC, dI) vwCl [] t ∧ va_D (va_A [] sz) []) (va_A [] sz)) 0 0 (va_A [] sz) := by
  refine Met.ofW (cc := cX11_isWithin) (maxL := 3) (ret := (some .boolean)) pnX11 rfl ?_
  intro p e s m args below meth c s₁ B hml hv
  obtain ⟨rfl, hsz, hP, hK, hD0, hN⟩ := hv
  have hx := B.exec
  have hb := B.bytes
  have hr := B.returns
  have htb : ∀ w ∈ bg, w.before [.int v1, .int v2, .int v3].toArray s = true := fun w h => atoms_spec (ws := Cond.code yX11_isWithin cX11_isWithin 3 (some .boolean) :: bg) B.pre w (List.mem_cons_of_mem _ h)
  have hown : s.vm.findClass RX11 = some m.cls := findClass_of_methodNamed B.named
  have hlocks := B.notSynchronized
  subst hsz
  have hD := hD0.self (sz := s.heap.size)
  generalize hAe : va_A [] s.heap.size = A at hD ⊢
  have hA : ∀ q : Nat, s.heap.size ≤ q → A q := fun q h => by rw [← hAe]; exact Or.inr h
  have hS : va_S A s.heap s.heap [] := va_S.rf
  have hl := lv_entry ([.int v1, .int v2, .int v3]) (n := 3) (Nat.le_of_ble_eq_true rfl)
  rw [lg_entry_eq]
  generalize (lg_sl ([.int v1, .int v2, .int v3]) ++ List.replicate (3 - (lg_sl ([.int v1, .int v2, .int v3])).length) Slot.unset).toArray = ls at hl ⊢
  change lv_has ls 3 [(0, .int v1), (1, .int v2), (2, .int v3)] at hl
  clear hD0 hAe
  refine go0 (wsP := fun H => va_P (dC, dI) vwCl [] H) hP hS ?_
  clear hP hS; intro H locs hP hS
  change va_P (dC, dI) vwCl [] H at hP
  refine lv_iload_n hx hb dX11_isWithin_0 rfl (lv_at hl 0 rfl) ?_
  refine lv_iload_n hx hb dX11_isWithin_1 rfl (lv_at hl 1 rfl) ?_
  refine lv_icmp_lt (tgt := 14) hx hb dX11_isWithin_2 (by decide) (fun c_1 => ?_) (fun c_1 => ?_)
  · refine lv_iconst (v := 0) hx hb dX11_isWithin_14 (by decide) ?_
    refine W.widen (k := 0) (n := 0) (Nat.le_of_ble_eq_true rfl) (Nat.le_of_ble_eq_true rfl) ?_
    have hP9 := hP.sub (ws' := []) [] rfl
    have hD9 := hD.sub (ws' := []) [] (by decide) rfl
    have hK9 := hK.sub (tys' := []) [] rfl
    exact W.zret (ty := .boolean) (v := 0) hx hb hr rfl (fun t ht hW => ⟨⟨0, (), rfl, (Or.inr (⟨rfl, (lf_X11_isWithin_0 v1 v2 v3 c_1)⟩)), ⟨by rw [ht]; exact hP9, va_K.moved hW.alike hK9, hD9⟩⟩, hS.F ht⟩) hS.2.2 dX11_isWithin_15
  · refine lv_iload_n hx hb dX11_isWithin_5 rfl (lv_at hl 0 rfl) ?_
    refine lv_iload_n hx hb dX11_isWithin_6 rfl (lv_at hl 2 rfl) ?_
    refine lv_icmp_gt (tgt := 14) hx hb dX11_isWithin_7 (by decide) (fun c_2 => ?_) (fun c_2 => ?_)
    · refine lv_iconst (v := 0) hx hb dX11_isWithin_14 (by decide) ?_
      refine W.widen (k := 0) (n := 0) (Nat.le_of_ble_eq_true rfl) (Nat.le_of_ble_eq_true rfl) ?_
      have hP9 := hP.sub (ws' := []) [] rfl
      have hD9 := hD.sub (ws' := []) [] (by decide) rfl
      have hK9 := hK.sub (tys' := []) [] rfl
      exact W.zret (ty := .boolean) (v := 0) hx hb hr rfl (fun t ht hW => ⟨⟨0, (), rfl, (Or.inr (⟨rfl, (lf_X11_isWithin_1 v1 v2 v3 c_1 c_2)⟩)), ⟨by rw [ht]; exact hP9, va_K.moved hW.alike hK9, hD9⟩⟩, hS.F ht⟩) hS.2.2 dX11_isWithin_15
    · refine lv_iconst (v := 1) hx hb dX11_isWithin_10 (by decide) ?_
      refine lv_goto (tgt := 15) hx hb dX11_isWithin_11 (by decide) ?_
      refine W.widen (k := 0) (n := 0) (Nat.le_of_ble_eq_true rfl) (Nat.le_of_ble_eq_true rfl) ?_
      have hP9 := hP.sub (ws' := []) [] rfl
      have hD9 := hD.sub (ws' := []) [] (by decide) rfl
      have hK9 := hK.sub (tys' := []) [] rfl
      exact W.zret (ty := .boolean) (v := 1) hx hb hr rfl (fun t ht hW => ⟨⟨1, (), rfl, (Or.inl ⟨rfl, (lf_X11_isWithin_2 v1 v2 v3 c_1 c_2)⟩), ⟨by rw [ht]; exact hP9, va_K.moved hW.alike hK9, hD9⟩⟩, hS.F ht⟩) hS.2.2 dX11_isWithin_15

theorem lf_X12_isIn_0_0 (v1 : Int32) (c_1 : v1 < 0) : ¬ v1 = 0 := by
  first | assumption | grind | (simp [Int32.lt_iff_toInt_lt, Int32.le_iff_toInt_le, ← Int32.toInt_inj] at *; omega)
theorem lf_X12_isIn_0_1 (v1 : Int32) (c_1 : ¬ v1 < 0) (c_2 : 0 < v1) : ¬ v1 = 0 := by
  first | assumption | grind | (simp [Int32.lt_iff_toInt_lt, Int32.le_iff_toInt_le, ← Int32.toInt_inj] at *; omega)
theorem lf_X12_isIn_0_2 (v1 : Int32) (c_1 : ¬ v1 < 0) (c_2 : ¬ 0 < v1) : v1 = 0 := by
  first | assumption | grind | (simp [Int32.lt_iff_toInt_lt, Int32.le_iff_toInt_le, ← Int32.toInt_inj] at *; omega)
set_option maxHeartbeats 4000000 in
set_option maxRecDepth 100000 in
theorem kX12_isIn_0 (l : Launch) (dC : Nat → ClassId) (dI : Nat → Nat → Nat) (sz : Nat) (v1 : Int32) : Met l yX12_isIn (Cond.code yX12_isIn cX12_isIn 3 (some .boolean) :: bg) ({ frames := 0, cells := 0, slots := 0, locals := 0 }) (pcW dC dI [.int v1, .int 0, .int 0] sz [] []) (va_Qi (fun (r : Int32) (u : Unit) => (r = 1 ∧ v1 = 0) ∨ (r = 0 ∧ ¬ v1 = 0)) (fun (u : Unit) (t : State) => va_P (dC, dI) vwCl [] t.heap ∧ va_K (dC, dI) vwCl [] t ∧ va_D (va_A [] sz) []) (va_A [] sz)) 0 0 (va_A [] sz) := by
  refine Met.ofW (cc := cX12_isIn) (maxL := 3) (ret := (some .boolean)) pnX12 rfl ?_
  intro p e s m args below meth c s₁ B hml hv
  obtain ⟨rfl, hsz, hP, hK, hD0, hN⟩ := hv
  have hx := B.exec
  have hb := B.bytes
  have hr := B.returns
  have htb : ∀ w ∈ bg, w.before [.int v1, .int 0, .int 0].toArray s = true := fun w h => atoms_spec (ws := Cond.code yX12_isIn cX12_isIn 3 (some .boolean) :: bg) B.pre w (List.mem_cons_of_mem _ h)
  have hown : s.vm.findClass RX12 = some m.cls := findClass_of_methodNamed B.named
  have hlocks := B.notSynchronized
  subst hsz
  have hD := hD0.self (sz := s.heap.size)
  generalize hAe : va_A [] s.heap.size = A at hD ⊢
  have hA : ∀ q : Nat, s.heap.size ≤ q → A q := fun q h => by rw [← hAe]; exact Or.inr h
  have hS : va_S A s.heap s.heap [] := va_S.rf
  have hl := lv_entry ([.int v1, .int 0, .int 0]) (n := 3) (Nat.le_of_ble_eq_true rfl)
  rw [lg_entry_eq]
  generalize (lg_sl ([.int v1, .int 0, .int 0]) ++ List.replicate (3 - (lg_sl ([.int v1, .int 0, .int 0])).length) Slot.unset).toArray = ls at hl ⊢
  change lv_has ls 3 [(0, .int v1), (1, .int 0), (2, .int 0)] at hl
  clear hD0 hAe
  refine go0 (wsP := fun H => va_P (dC, dI) vwCl [] H) hP hS ?_
  clear hP hS; intro H locs hP hS
  change va_P (dC, dI) vwCl [] H at hP
  refine lv_iload_n hx hb dX12_isIn_0 rfl (lv_at hl 0 rfl) ?_
  refine lv_iload_n hx hb dX12_isIn_1 rfl (lv_at hl 1 rfl) ?_
  refine lv_icmp_lt (tgt := 14) hx hb dX12_isIn_2 (by decide) (fun c_1 => ?_) (fun c_1 => ?_)
  · refine lv_iconst (v := 0) hx hb dX12_isIn_14 (by decide) ?_
    refine W.widen (k := 0) (n := 0) (Nat.le_of_ble_eq_true rfl) (Nat.le_of_ble_eq_true rfl) ?_
    have hP9 := hP.sub (ws' := []) [] rfl
    have hD9 := hD.sub (ws' := []) [] (by decide) rfl
    have hK9 := hK.sub (tys' := []) [] rfl
    exact W.zret (ty := .boolean) (v := 0) hx hb hr rfl (fun t ht hW => ⟨⟨0, (), rfl, (Or.inr (⟨rfl, (lf_X12_isIn_0_0 v1 c_1)⟩)), ⟨by rw [ht]; exact hP9, va_K.moved hW.alike hK9, hD9⟩⟩, hS.F ht⟩) hS.2.2 dX12_isIn_15
  · refine lv_iload_n hx hb dX12_isIn_5 rfl (lv_at hl 0 rfl) ?_
    refine lv_iload_n hx hb dX12_isIn_6 rfl (lv_at hl 2 rfl) ?_
    refine lv_icmp_gt (tgt := 14) hx hb dX12_isIn_7 (by decide) (fun c_2 => ?_) (fun c_2 => ?_)
    · refine lv_iconst (v := 0) hx hb dX12_isIn_14 (by decide) ?_
      refine W.widen (k := 0) (n := 0) (Nat.le_of_ble_eq_true rfl) (Nat.le_of_ble_eq_true rfl) ?_
      have hP9 := hP.sub (ws' := []) [] rfl
      have hD9 := hD.sub (ws' := []) [] (by decide) rfl
      have hK9 := hK.sub (tys' := []) [] rfl
      exact W.zret (ty := .boolean) (v := 0) hx hb hr rfl (fun t ht hW => ⟨⟨0, (), rfl, (Or.inr (⟨rfl, (lf_X12_isIn_0_1 v1 c_1 c_2)⟩)), ⟨by rw [ht]; exact hP9, va_K.moved hW.alike hK9, hD9⟩⟩, hS.F ht⟩) hS.2.2 dX12_isIn_15
    · refine lv_iconst (v := 1) hx hb dX12_isIn_10 (by decide) ?_
      refine lv_goto (tgt := 15) hx hb dX12_isIn_11 (by decide) ?_
      refine W.widen (k := 0) (n := 0) (Nat.le_of_ble_eq_true rfl) (Nat.le_of_ble_eq_true rfl) ?_
      have hP9 := hP.sub (ws' := []) [] rfl
      have hD9 := hD.sub (ws' := []) [] (by decide) rfl
      have hK9 := hK.sub (tys' := []) [] rfl
      exact W.zret (ty := .boolean) (v := 1) hx hb hr rfl (fun t ht hW => ⟨⟨1, (), rfl, (Or.inl ⟨rfl, (lf_X12_isIn_0_2 v1 c_1 c_2)⟩), ⟨by rw [ht]; exact hP9, va_K.moved hW.alike hK9, hD9⟩⟩, hS.F ht⟩) hS.2.2 dX12_isIn_15

theorem lf_X12_isIn_e_0 (v1 : Int32) (c_1 : ¬ v1 < 1) (c_2 : ¬ 0 < v1) : False := by
  first | assumption | grind | (simp [Int32.lt_iff_toInt_lt, Int32.le_iff_toInt_le, ← Int32.toInt_inj] at *; omega)
set_option maxHeartbeats 4000000 in
set_option maxRecDepth 100000 in
theorem kX12_isIn_e (l : Launch) (dC : Nat → ClassId) (dI : Nat → Nat → Nat) (sz : Nat) (v1 : Int32) : Met l yX12_isIn (Cond.code yX12_isIn cX12_isIn 3 (some .boolean) :: bg) ({ frames := 0, cells := 0, slots := 0, locals := 0 }) (pcW dC dI [.int v1, .int 1, .int 0] sz [] []) (va_Qi (fun (r : Int32) (u : Unit) => r = 0) (fun (u : Unit) (t : State) => va_P (dC, dI) vwCl [] t.heap ∧ va_K (dC, dI) vwCl [] t ∧ va_D (va_A [] sz) []) (va_A [] sz)) 0 0 (va_A [] sz) := by
  refine Met.ofW (cc := cX12_isIn) (maxL := 3) (ret := (some .boolean)) pnX12 rfl ?_
  intro p e s m args below meth c s₁ B hml hv
  obtain ⟨rfl, hsz, hP, hK, hD0, hN⟩ := hv
  have hx := B.exec
  have hb := B.bytes
  have hr := B.returns
  have htb : ∀ w ∈ bg, w.before [.int v1, .int 1, .int 0].toArray s = true := fun w h => atoms_spec (ws := Cond.code yX12_isIn cX12_isIn 3 (some .boolean) :: bg) B.pre w (List.mem_cons_of_mem _ h)
  have hown : s.vm.findClass RX12 = some m.cls := findClass_of_methodNamed B.named
  have hlocks := B.notSynchronized
  subst hsz
  have hD := hD0.self (sz := s.heap.size)
  generalize hAe : va_A [] s.heap.size = A at hD ⊢
  have hA : ∀ q : Nat, s.heap.size ≤ q → A q := fun q h => by rw [← hAe]; exact Or.inr h
  have hS : va_S A s.heap s.heap [] := va_S.rf
  have hl := lv_entry ([.int v1, .int 1, .int 0]) (n := 3) (Nat.le_of_ble_eq_true rfl)
  rw [lg_entry_eq]
  generalize (lg_sl ([.int v1, .int 1, .int 0]) ++ List.replicate (3 - (lg_sl ([.int v1, .int 1, .int 0])).length) Slot.unset).toArray = ls at hl ⊢
  change lv_has ls 3 [(0, .int v1), (1, .int 1), (2, .int 0)] at hl
  clear hD0 hAe
  refine go0 (wsP := fun H => va_P (dC, dI) vwCl [] H) hP hS ?_
  clear hP hS; intro H locs hP hS
  change va_P (dC, dI) vwCl [] H at hP
  refine lv_iload_n hx hb dX12_isIn_0 rfl (lv_at hl 0 rfl) ?_
  refine lv_iload_n hx hb dX12_isIn_1 rfl (lv_at hl 1 rfl) ?_
  refine lv_icmp_lt (tgt := 14) hx hb dX12_isIn_2 (by decide) (fun c_1 => ?_) (fun c_1 => ?_)
  · refine lv_iconst (v := 0) hx hb dX12_isIn_14 (by decide) ?_
    refine W.widen (k := 0) (n := 0) (Nat.le_of_ble_eq_true rfl) (Nat.le_of_ble_eq_true rfl) ?_
    have hP9 := hP.sub (ws' := []) [] rfl
    have hD9 := hD.sub (ws' := []) [] (by decide) rfl
    have hK9 := hK.sub (tys' := []) [] rfl
    exact W.zret (ty := .boolean) (v := 0) hx hb hr rfl (fun t ht hW => ⟨⟨0, (), rfl, (rfl), ⟨by rw [ht]; exact hP9, va_K.moved hW.alike hK9, hD9⟩⟩, hS.F ht⟩) hS.2.2 dX12_isIn_15
  · refine lv_iload_n hx hb dX12_isIn_5 rfl (lv_at hl 0 rfl) ?_
    refine lv_iload_n hx hb dX12_isIn_6 rfl (lv_at hl 2 rfl) ?_
    refine lv_icmp_gt (tgt := 14) hx hb dX12_isIn_7 (by decide) (fun c_2 => ?_) (fun c_2 => ?_)
    · refine lv_iconst (v := 0) hx hb dX12_isIn_14 (by decide) ?_
      refine W.widen (k := 0) (n := 0) (Nat.le_of_ble_eq_true rfl) (Nat.le_of_ble_eq_true rfl) ?_
      have hP9 := hP.sub (ws' := []) [] rfl
      have hD9 := hD.sub (ws' := []) [] (by decide) rfl
      have hK9 := hK.sub (tys' := []) [] rfl
      exact W.zret (ty := .boolean) (v := 0) hx hb hr rfl (fun t ht hW => ⟨⟨0, (), rfl, (rfl), ⟨by rw [ht]; exact hP9, va_K.moved hW.alike hK9, hD9⟩⟩, hS.F ht⟩) hS.2.2 dX12_isIn_15
    · refine lv_iconst (v := 1) hx hb dX12_isIn_10 (by decide) ?_
      refine lv_goto (tgt := 15) hx hb dX12_isIn_11 (by decide) ?_
      refine W.widen (k := 0) (n := 0) (Nat.le_of_ble_eq_true rfl) (Nat.le_of_ble_eq_true rfl) ?_
      have hP9 := hP.sub (ws' := []) [] rfl
      have hD9 := hD.sub (ws' := []) [] (by decide) rfl
      have hK9 := hK.sub (tys' := []) [] rfl
      exact False.elim (lf_X12_isIn_e_0 v1 c_1 c_2)

theorem lf_X12_isIn_m_0 (v1 : Int32) (c_1 : ¬ v1 < 0) (c_2 : ¬ (-1) < v1) : False := by
  first | assumption | grind | (simp [Int32.lt_iff_toInt_lt, Int32.le_iff_toInt_le, ← Int32.toInt_inj] at *; omega)
set_option maxHeartbeats 4000000 in
set_option maxRecDepth 100000 in
theorem kX12_isIn_m (l : Launch) (dC : Nat → ClassId) (dI : Nat → Nat → Nat) (sz : Nat) (v1 : Int32) : Met l yX12_isIn (Cond.code yX12_isIn cX12_isIn 3 (some .boolean) :: bg) ({ frames := 0, cells := 0, slots := 0, locals := 0 }) (pcW dC dI [.int v1, .int 0, .int (-1)] sz [] []) (va_Qi (fun (r : Int32) (u : Unit) => r = 0) (fun (u : Unit) (t : State) => va_P (dC, dI) vwCl [] t.heap ∧ va_K (dC, dI) vwCl [] t ∧ va_D (va_A [] sz) []) (va_A [] sz)) 0 0 (va_A [] sz) := by
  refine Met.ofW (cc := cX12_isIn) (maxL := 3) (ret := (some .boolean)) pnX12 rfl ?_
  intro p e s m args below meth c s₁ B hml hv
  obtain ⟨rfl, hsz, hP, hK, hD0, hN⟩ := hv
  have hx := B.exec
  have hb := B.bytes
  have hr := B.returns
  have htb : ∀ w ∈ bg, w.before [.int v1, .int 0, .int (-1)].toArray s = true := fun w h => atoms_spec (ws := Cond.code yX12_isIn cX12_isIn 3 (some .boolean) :: bg) B.pre w (List.mem_cons_of_mem _ h)
  have hown : s.vm.findClass RX12 = some m.cls := findClass_of_methodNamed B.named
  have hlocks := B.notSynchronized
  subst hsz
  have hD := hD0.self (sz := s.heap.size)
  generalize hAe : va_A [] s.heap.size = A at hD ⊢
  have hA : ∀ q : Nat, s.heap.size ≤ q → A q := fun q h => by rw [← hAe]; exact Or.inr h
  have hS : va_S A s.heap s.heap [] := va_S.rf
  have hl := lv_entry ([.int v1, .int 0, .int (-1)]) (n := 3) (Nat.le_of_ble_eq_true rfl)
  rw [lg_entry_eq]
  generalize (lg_sl ([.int v1, .int 0, .int (-1)]) ++ List.replicate (3 - (lg_sl ([.int v1, .int 0, .int (-1)])).length) Slot.unset).toArray = ls at hl ⊢
  change lv_has ls 3 [(0, .int v1), (1, .int 0), (2, .int (-1))] at hl
  clear hD0 hAe
  refine go0 (wsP := fun H => va_P (dC, dI) vwCl [] H) hP hS ?_
  clear hP hS; intro H locs hP hS
  change va_P (dC, dI) vwCl [] H at hP
  refine lv_iload_n hx hb dX12_isIn_0 rfl (lv_at hl 0 rfl) ?_
  refine lv_iload_n hx hb dX12_isIn_1 rfl (lv_at hl 1 rfl) ?_
  refine lv_icmp_lt (tgt := 14) hx hb dX12_isIn_2 (by decide) (fun c_1 => ?_) (fun c_1 => ?_)
  · refine lv_iconst (v := 0) hx hb dX12_isIn_14 (by decide) ?_
    refine W.widen (k := 0) (n := 0) (Nat.le_of_ble_eq_true rfl) (Nat.le_of_ble_eq_true rfl) ?_
    have hP9 := hP.sub (ws' := []) [] rfl
    have hD9 := hD.sub (ws' := []) [] (by decide) rfl
    have hK9 := hK.sub (tys' := []) [] rfl
    exact W.zret (ty := .boolean) (v := 0) hx hb hr rfl (fun t ht hW => ⟨⟨0, (), rfl, (rfl), ⟨by rw [ht]; exact hP9, va_K.moved hW.alike hK9, hD9⟩⟩, hS.F ht⟩) hS.2.2 dX12_isIn_15
  · refine lv_iload_n hx hb dX12_isIn_5 rfl (lv_at hl 0 rfl) ?_
    refine lv_iload_n hx hb dX12_isIn_6 rfl (lv_at hl 2 rfl) ?_
    refine lv_icmp_gt (tgt := 14) hx hb dX12_isIn_7 (by decide) (fun c_2 => ?_) (fun c_2 => ?_)
    · refine lv_iconst (v := 0) hx hb dX12_isIn_14 (by decide) ?_
      refine W.widen (k := 0) (n := 0) (Nat.le_of_ble_eq_true rfl) (Nat.le_of_ble_eq_true rfl) ?_
      have hP9 := hP.sub (ws' := []) [] rfl
      have hD9 := hD.sub (ws' := []) [] (by decide) rfl
      have hK9 := hK.sub (tys' := []) [] rfl
      exact W.zret (ty := .boolean) (v := 0) hx hb hr rfl (fun t ht hW => ⟨⟨0, (), rfl, (rfl), ⟨by rw [ht]; exact hP9, va_K.moved hW.alike hK9, hD9⟩⟩, hS.F ht⟩) hS.2.2 dX12_isIn_15
    · refine lv_iconst (v := 1) hx hb dX12_isIn_10 (by decide) ?_
      refine lv_goto (tgt := 15) hx hb dX12_isIn_11 (by decide) ?_
      refine W.widen (k := 0) (n := 0) (Nat.le_of_ble_eq_true rfl) (Nat.le_of_ble_eq_true rfl) ?_
      have hP9 := hP.sub (ws' := []) [] rfl
      have hD9 := hD.sub (ws' := []) [] (by decide) rfl
      have hK9 := hK.sub (tys' := []) [] rfl
      exact False.elim (lf_X12_isIn_m_0 v1 c_1 c_2)

theorem lf_X12_isIn_0 (v1 : Int32) (v2 : Int32) (v3 : Int32) (c_1 : v1 < v2) : ¬ (v2 ≤ v1 ∧ v1 ≤ v3) := by
  first | assumption | grind | (simp [Int32.lt_iff_toInt_lt, Int32.le_iff_toInt_le, ← Int32.toInt_inj] at *; omega)
theorem lf_X12_isIn_1 (v1 : Int32) (v2 : Int32) (v3 : Int32) (c_1 : ¬ v1 < v2) (c_2 : v3 < v1) : ¬ (v2 ≤ v1 ∧ v1 ≤ v3) := by
  first | assumption | grind | (simp [Int32.lt_iff_toInt_lt, Int32.le_iff_toInt_le, ← Int32.toInt_inj] at *; omega)
theorem lf_X12_isIn_2 (v1 : Int32) (v2 : Int32) (v3 : Int32) (c_1 : ¬ v1 < v2) (c_2 : ¬ v3 < v1) : v2 ≤ v1 ∧ v1 ≤ v3 := by
  first | assumption | grind | (simp [Int32.lt_iff_toInt_lt, Int32.le_iff_toInt_le, ← Int32.toInt_inj] at *; omega)
set_option maxHeartbeats 4000000 in
set_option maxRecDepth 100000 in
theorem kX12_isIn (l : Launch) (dC : Nat → ClassId) (dI : Nat → Nat → Nat) (sz : Nat) (v1 : Int32) (v2 : Int32) (v3 : Int32) : Met l yX12_isIn (Cond.code yX12_isIn cX12_isIn 3 (some .boolean) :: bg) ({ frames := 0, cells := 0, slots := 0, locals := 0 }) (pcW dC dI [.int v1, .int v2, .int v3] sz [] []) (va_Qi (fun (r : Int32) (u : Unit) => (r = 1 ∧ v2 ≤ v1 ∧ v1 ≤ v3) ∨ (r = 0 ∧ ¬ (v2 ≤ v1 ∧ v1 ≤ v3))) (fun (u : Unit) (t : State) => va_P (dC, dI) vwCl [] t.heap ∧ va_K (dC, dI) vwCl [] t ∧ va_D (va_A [] sz) []) (va_A [] sz)) 0 0 (va_A [] sz) := by
  refine Met.ofW (cc := cX12_isIn) (maxL := 3) (ret := (some .boolean)) pnX12 rfl ?_
  intro p e s m args below meth c s₁ B hml hv
  obtain ⟨rfl, hsz, hP, hK, hD0, hN⟩ := hv
  have hx := B.exec
  have hb := B.bytes
  have hr := B.returns
  have htb : ∀ w ∈ bg, w.before [.int v1, .int v2, .int v3].toArray s = true := fun w h => atoms_spec (ws := Cond.code yX12_isIn cX12_isIn 3 (some .boolean) :: bg) B.pre w (List.mem_cons_of_mem _ h)
  have hown : s.vm.findClass RX12 = some m.cls := findClass_of_methodNamed B.named
  have hlocks := B.notSynchronized
  subst hsz
  have hD := hD0.self (sz := s.heap.size)
  generalize hAe : va_A [] s.heap.size = A at hD ⊢
  have hA : ∀ q : Nat, s.heap.size ≤ q → A q := fun q h => by rw [← hAe]; exact Or.inr h
  have hS : va_S A s.heap s.heap [] := va_S.rf
  have hl := lv_entry ([.int v1, .int v2, .int v3]) (n := 3) (Nat.le_of_ble_eq_true rfl)
  rw [lg_entry_eq]
  generalize (lg_sl ([.int v1, .int v2, .int v3]) ++ List.replicate (3 - (lg_sl ([.int v1, .int v2, .int v3])).length) Slot.unset).toArray = ls at hl ⊢
  change lv_has ls 3 [(0, .int v1), (1, .int v2), (2, .int v3)] at hl
  clear hD0 hAe
  refine go0 (wsP := fun H => va_P (dC, dI) vwCl [] H) hP hS ?_
  clear hP hS; intro H locs hP hS
  change va_P (dC, dI) vwCl [] H at hP
  refine lv_iload_n hx hb dX12_isIn_0 rfl (lv_at hl 0 rfl) ?_
  refine lv_iload_n hx hb dX12_isIn_1 rfl (lv_at hl 1 rfl) ?_
  refine lv_icmp_lt (tgt := 14) hx hb dX12_isIn_2 (by decide) (fun c_1 => ?_) (fun c_1 => ?_)
  · refine lv_iconst (v := 0) hx hb dX12_isIn_14 (by decide) ?_
    refine W.widen (k := 0) (n := 0) (Nat.le_of_ble_eq_true rfl) (Nat.le_of_ble_eq_true rfl) ?_
    have hP9 := hP.sub (ws' := []) [] rfl
    have hD9 := hD.sub (ws' := []) [] (by decide) rfl
    have hK9 := hK.sub (tys' := []) [] rfl
    exact W.zret (ty := .boolean) (v := 0) hx hb hr rfl (fun t ht hW => ⟨⟨0, (), rfl, (Or.inr (⟨rfl, (lf_X12_isIn_0 v1 v2 v3 c_1)⟩)), ⟨by rw [ht]; exact hP9, va_K.moved hW.alike hK9, hD9⟩⟩, hS.F ht⟩) hS.2.2 dX12_isIn_15
  · refine lv_iload_n hx hb dX12_isIn_5 rfl (lv_at hl 0 rfl) ?_
    refine lv_iload_n hx hb dX12_isIn_6 rfl (lv_at hl 2 rfl) ?_
    refine lv_icmp_gt (tgt := 14) hx hb dX12_isIn_7 (by decide) (fun c_2 => ?_) (fun c_2 => ?_)
    · refine lv_iconst (v := 0) hx hb dX12_isIn_14 (by decide) ?_
      refine W.widen (k := 0) (n := 0) (Nat.le_of_ble_eq_true rfl) (Nat.le_of_ble_eq_true rfl) ?_
      have hP9 := hP.sub (ws' := []) [] rfl
      have hD9 := hD.sub (ws' := []) [] (by decide) rfl
      have hK9 := hK.sub (tys' := []) [] rfl
      exact W.zret (ty := .boolean) (v := 0) hx hb hr rfl (fun t ht hW => ⟨⟨0, (), rfl, (Or.inr (⟨rfl, (lf_X12_isIn_1 v1 v2 v3 c_1 c_2)⟩)), ⟨by rw [ht]; exact hP9, va_K.moved hW.alike hK9, hD9⟩⟩, hS.F ht⟩) hS.2.2 dX12_isIn_15
    · refine lv_iconst (v := 1) hx hb dX12_isIn_10 (by decide) ?_
      refine lv_goto (tgt := 15) hx hb dX12_isIn_11 (by decide) ?_
      refine W.widen (k := 0) (n := 0) (Nat.le_of_ble_eq_true rfl) (Nat.le_of_ble_eq_true rfl) ?_
      have hP9 := hP.sub (ws' := []) [] rfl
      have hD9 := hD.sub (ws' := []) [] (by decide) rfl
      have hK9 := hK.sub (tys' := []) [] rfl
      exact W.zret (ty := .boolean) (v := 1) hx hb hr rfl (fun t ht hW => ⟨⟨1, (), rfl, (Or.inl ⟨rfl, (lf_X12_isIn_2 v1 v2 v3 c_1 c_2)⟩), ⟨by rw [ht]; exact hP9, va_K.moved hW.alike hK9, hD9⟩⟩, hS.F ht⟩) hS.2.2 dX12_isIn_15

theorem lf_X11_isMember_0 (v1 : Int32) (h_2 : 0 ≤ v1 ∧ v1 ≤ 9) : 0 ≤ v1 ∧ v1 ≤ 9 := by
  first | assumption | rfl | decide | (simp_all; done) | grind
theorem lf_X11_isMember_1 (v1 : Int32) (h_2 : ¬ (0 ≤ v1 ∧ v1 ≤ 9)) : ¬ (0 ≤ v1 ∧ v1 ≤ 9) := by
  first | assumption | rfl | decide | (simp_all; done) | grind
set_option maxHeartbeats 4000000 in
set_option maxRecDepth 100000 in
theorem kX11_isMember (l : Launch) (dC : Nat → ClassId) (dI : Nat → Nat → Nat) (sz : Nat) (v1 : Int32) : Met l yX11_isMember (Cond.code yX11_isMember cX11_isMember 1 (some .boolean) :: bg) ({ frames := 1, cells := 0, slots := 0, locals := 22 }) (pcW dC dI [.int v1] sz [] []) (va_Qi (fun (r : Int32) (u : Unit) => (r = 1 ∧ 0 ≤ v1 ∧ v1 ≤ 9) ∨ (r = 0 ∧ ¬ (0 ≤ v1 ∧ v1 ≤ 9))) (fun (u : Unit) (t : State) => va_P (dC, dI) vwCl [] t.heap ∧ va_K (dC, dI) vwCl [] t ∧ va_D (va_A [] sz) []) (va_A [] sz)) 0 0 (va_A [] sz) := by
  refine Met.ofW (cc := cX11_isMember) (maxL := 1) (ret := (some .boolean)) pnX11 rfl ?_
  intro p e s m args below meth c s₁ B hml hv
  obtain ⟨rfl, hsz, hP, hK, hD0, hN⟩ := hv
  have hx := B.exec
  have hb := B.bytes
  have hr := B.returns
  have htb : ∀ w ∈ bg, w.before [.int v1].toArray s = true := fun w h => atoms_spec (ws := Cond.code yX11_isMember cX11_isMember 1 (some .boolean) :: bg) B.pre w (List.mem_cons_of_mem _ h)
  have hown : s.vm.findClass RX11 = some m.cls := findClass_of_methodNamed B.named
  have hlocks := B.notSynchronized
  subst hsz
  have hD := hD0.self (sz := s.heap.size)
  generalize hAe : va_A [] s.heap.size = A at hD ⊢
  have hA : ∀ q : Nat, s.heap.size ≤ q → A q := fun q h => by rw [← hAe]; exact Or.inr h
  have hS : va_S A s.heap s.heap [] := va_S.rf
  have hl := lv_entry ([.int v1]) (n := 1) (Nat.le_of_ble_eq_true rfl)
  rw [lg_entry_eq]
  generalize (lg_sl ([.int v1]) ++ List.replicate (1 - (lg_sl ([.int v1])).length) Slot.unset).toArray = ls at hl ⊢
  change lv_has ls 1 [(0, .int v1)] at hl
  clear hD0 hAe
  refine go0 (wsP := fun H => va_P (dC, dI) vwCl [] H) hP hS ?_
  clear hP hS; intro H locs hP hS
  change va_P (dC, dI) vwCl [] H at hP
  refine lv_iload_n hx hb dX11_isMember_0 rfl (lv_at hl 0 rfl) ?_
  refine lv_iconst (v := 0) hx hb dX11_isMember_1 (by decide) ?_
  refine lv_bipush (v := 9) hx hb dX11_isMember_2 (by decide) ?_
  have hPc := hP.sub (ws' := []) [] rfl
  have hDc := hD.sub (ws' := []) [] (by decide) rfl
  have hKc := hK.sub (tys' := []) [] rfl
  have hFc := va_free (wc := []) hD hS hA [] rfl
  refine va_calli (va_runS (As := [.int v1, .int 0, .int 9]) (rest := []) ⟨hx, hb, hml, hown, htb⟩ (kX11_isWithin l dC dI H.size v1 0 9 ) ⟨callB_of 3 htb (gd_c m_355) rfl rfl rfl (htb _ m_1) (htb _ m_353) hdX11_isWithin ⟨(Nat.le_of_ble_eq_true rfl), (Nat.le_of_ble_eq_true rfl)⟩, htb _ m_354⟩ ⟨pcW_blind, pcW_at hPc hKc hDc hN⟩ rfl rfl hl.1 rfl (lv_room (Nat.le_of_ble_eq_true rfl)) dX11_isMember_4 ⟨(Nat.le_of_ble_eq_true rfl), (Nat.le_of_ble_eq_true rfl)⟩) hS (fun q _ h => hFc q h) hFc (fun r_1 u t H1 locs1 ht hvm h_2 hB hz1 hk1 hS1 => ?_)
  obtain ⟨hP1, hK1, hD1⟩ := hB
  rw [ht] at hP1
  obtain ⟨hPn, hDn⟩ := va_join (wr := []) (w1 := []) hP hD [] [] rfl rfl (by decide) (by decide) hk1 hFc hP1 hD1
  clear hP1 hD1 hK1
  clear hP hD hS hPc hDc hKc hFc hk1 hz1 ht hvm
  clear t
  revert hS1 hPn hDn; generalize H1 = H; generalize locs1 = locs; intro hS hP hD
  change va_P (dC, dI) vwCl [] H at hP
  change va_D A [] at hD
  rcases h_2 with ⟨rfl, h_2⟩ | ⟨rfl, h_2⟩
  · refine W.widen (k := 0) (n := 0) (Nat.le_of_ble_eq_true rfl) (Nat.le_of_ble_eq_true rfl) ?_
    have hP9 := hP.sub (ws' := []) [] rfl
    have hD9 := hD.sub (ws' := []) [] (by decide) rfl
    have hK9 := hK.sub (tys' := []) [] rfl
    exact W.zret (ty := .boolean) (v := 1) hx hb hr rfl (fun t ht hW => ⟨⟨1, (), rfl, (Or.inl ⟨rfl, (lf_X11_isMember_0 v1 h_2)⟩), ⟨by rw [ht]; exact hP9, va_K.moved hW.alike hK9, hD9⟩⟩, hS.F ht⟩) hS.2.2 dX11_isMember_7
  · refine W.widen (k := 0) (n := 0) (Nat.le_of_ble_eq_true rfl) (Nat.le_of_ble_eq_true rfl) ?_
    have hP9 := hP.sub (ws' := []) [] rfl
    have hD9 := hD.sub (ws' := []) [] (by decide) rfl
    have hK9 := hK.sub (tys' := []) [] rfl
    exact W.zret (ty := .boolean) (v := 0) hx hb hr rfl (fun t ht hW => ⟨⟨0, (), rfl, (Or.inr (⟨rfl, (lf_X11_isMember_1 v1 h_2)⟩)), ⟨by rw [ht]; exact hP9, va_K.moved hW.alike hK9, hD9⟩⟩, hS.F ht⟩) hS.2.2 dX11_isMember_7

theorem lf_X11_isWeather_0 (v1 : Int32) (v2 : Int32) (h_2 : (-30) ≤ v1 ∧ v1 ≤ 30) (h_5 : (-30) ≤ v2 ∧ v2 ≤ 40) (c_7 : v2 < v1) : ¬ (((-30) ≤ v1 ∧ v1 ≤ 30) ∧ ((-30) ≤ v2 ∧ v2 ≤ 40) ∧ v1 ≤ v2) := by
  first | grind | (simp_all; done)
theorem lf_X11_isWeather_1 (v1 : Int32) (v2 : Int32) (h_2 : (-30) ≤ v1 ∧ v1 ≤ 30) (h_5 : (-30) ≤ v2 ∧ v2 ≤ 40) (c_7 : ¬ v2 < v1) : ((-30) ≤ v1 ∧ v1 ≤ 30) ∧ ((-30) ≤ v2 ∧ v2 ≤ 40) ∧ v1 ≤ v2 := by
  first | grind | (simp_all; done)
theorem lf_X11_isWeather_2 (v1 : Int32) (v2 : Int32) (h_2 : (-30) ≤ v1 ∧ v1 ≤ 30) (h_5 : ¬ ((-30) ≤ v2 ∧ v2 ≤ 40)) : ¬ (((-30) ≤ v1 ∧ v1 ≤ 30) ∧ ((-30) ≤ v2 ∧ v2 ≤ 40) ∧ v1 ≤ v2) := by
  first | grind | (simp_all; done)
theorem lf_X11_isWeather_3 (v1 : Int32) (v2 : Int32) (h_2 : ¬ ((-30) ≤ v1 ∧ v1 ≤ 30)) : ¬ (((-30) ≤ v1 ∧ v1 ≤ 30) ∧ ((-30) ≤ v2 ∧ v2 ≤ 40) ∧ v1 ≤ v2) := by
  first | grind | (simp_all; done)
set_option maxHeartbeats 4000000 in
set_option maxRecDepth 100000 in
theorem kX11_isWeather (l : Launch) (dC : Nat → ClassId) (dI : Nat → Nat → Nat) (sz : Nat) (v1 : Int32) (v2 : Int32) : Met l yX11_isWeather (Cond.code yX11_isWeather cX11_isWeather 2 (some .boolean) :: bg) ({ frames := 1, cells := 0, slots := 0, locals := 22 }) (pcW dC dI [.int v1, .int v2] sz [] []) (va_Qi (fun (r : Int32) (u : Unit) => (r = 1 ∧ ((-30) ≤ v1 ∧ v1 ≤ 30) ∧ ((-30) ≤ v2 ∧ v2 ≤ 40) ∧ v1 ≤ v2) ∨ (r = 0 ∧ ¬ (((-30) ≤ v1 ∧ v1 ≤ 30) ∧ ((-30) ≤ v2 ∧ v2 ≤ 40) ∧ v1 ≤ v2))) (fun (u : Unit) (t : State) => va_P (dC, dI) vwCl [] t.heap ∧ va_K (dC, dI) vwCl [] t ∧ va_D (va_A [] sz) []) (va_A [] sz)) 0 0 (va_A [] sz) := by
  refine Met.ofW (cc := cX11_isWeather) (maxL := 2) (ret := (some .boolean)) pnX11 rfl ?_
  intro p e s m args below meth c s₁ B hml hv
  obtain ⟨rfl, hsz, hP, hK, hD0, hN⟩ := hv
  have hx := B.exec
  have hb := B.bytes
  have hr := B.returns
  have htb : ∀ w ∈ bg, w.before [.int v1, .int v2].toArray s = true := fun w h => atoms_spec (ws := Cond.code yX11_isWeather cX11_isWeather 2 (some .boolean) :: bg) B.pre w (List.mem_cons_of_mem _ h)
  have hown : s.vm.findClass RX11 = some m.cls := findClass_of_methodNamed B.named
  have hlocks := B.notSynchronized
  subst hsz
  have hD := hD0.self (sz := s.heap.size)
  generalize hAe : va_A [] s.heap.size = A at hD ⊢
  have hA : ∀ q : Nat, s.heap.size ≤ q → A q := fun q h => by rw [← hAe]; exact Or.inr h
  have hS : va_S A s.heap s.heap [] := va_S.rf
  have hl := lv_entry ([.int v1, .int v2]) (n := 2) (Nat.le_of_ble_eq_true rfl)
  rw [lg_entry_eq]
  generalize (lg_sl ([.int v1, .int v2]) ++ List.replicate (2 - (lg_sl ([.int v1, .int v2])).length) Slot.unset).toArray = ls at hl ⊢
  change lv_has ls 2 [(0, .int v1), (1, .int v2)] at hl
  clear hD0 hAe
  refine go0 (wsP := fun H => va_P (dC, dI) vwCl [] H) hP hS ?_
  clear hP hS; intro H locs hP hS
  change va_P (dC, dI) vwCl [] H at hP
  refine lv_iload_n hx hb dX11_isWeather_0 rfl (lv_at hl 0 rfl) ?_
  refine lv_bipush (v := (-30)) hx hb dX11_isWeather_1 (by decide) ?_
  refine lv_bipush (v := 30) hx hb dX11_isWeather_3 (by decide) ?_
  have hPc := hP.sub (ws' := []) [] rfl
  have hDc := hD.sub (ws' := []) [] (by decide) rfl
  have hKc := hK.sub (tys' := []) [] rfl
  have hFc := va_free (wc := []) hD hS hA [] rfl
  refine va_calli (va_runS (As := [.int v1, .int (-30), .int 30]) (rest := []) ⟨hx, hb, hml, hown, htb⟩ (kX11_isWithin l dC dI H.size v1 (-30) 30 ) ⟨callB_of 3 htb (gd_c m_355) rfl rfl rfl (htb _ m_1) (htb _ m_353) hdX11_isWithin ⟨(Nat.le_of_ble_eq_true rfl), (Nat.le_of_ble_eq_true rfl)⟩, htb _ m_354⟩ ⟨pcW_blind, pcW_at hPc hKc hDc hN⟩ rfl rfl hl.1 rfl (lv_room (Nat.le_of_ble_eq_true rfl)) dX11_isWeather_5 ⟨(Nat.le_of_ble_eq_true rfl), (Nat.le_of_ble_eq_true rfl)⟩) hS (fun q _ h => hFc q h) hFc (fun r_1 u t H1 locs1 ht hvm h_2 hB hz1 hk1 hS1 => ?_)
  obtain ⟨hP1, hK1, hD1⟩ := hB
  rw [ht] at hP1
  obtain ⟨hPn, hDn⟩ := va_join (wr := []) (w1 := []) hP hD [] [] rfl rfl (by decide) (by decide) hk1 hFc hP1 hD1
  clear hP1 hD1 hK1
  clear hP hD hS hPc hDc hKc hFc hk1 hz1 ht hvm
  clear t
  revert hS1 hPn hDn; generalize H1 = H; generalize locs1 = locs; intro hS hP hD
  change va_P (dC, dI) vwCl [] H at hP
  change va_D A [] at hD
  rcases h_2 with ⟨rfl, h_2⟩ | ⟨rfl, h_2⟩
  · refine lv_if_eq (tgt := 31) hx hb dX11_isWeather_8 (by decide) (fun c_3 => absurd c_3 (by decide)) ?_
    intro _
    refine lv_iload_n hx hb dX11_isWeather_11 rfl (lv_at hl 1 rfl) ?_
    refine lv_bipush (v := (-30)) hx hb dX11_isWeather_12 (by decide) ?_
    refine lv_bipush (v := 40) hx hb dX11_isWeather_14 (by decide) ?_
    have hPc := hP.sub (ws' := []) [] rfl
    have hDc := hD.sub (ws' := []) [] (by decide) rfl
    have hKc := hK.sub (tys' := []) [] rfl
    have hFc := va_free (wc := []) hD hS hA [] rfl
    refine va_calli (va_runS (As := [.int v2, .int (-30), .int 40]) (rest := []) ⟨hx, hb, hml, hown, htb⟩ (kX11_isWithin l dC dI H.size v2 (-30) 40 ) ⟨callB_of 3 htb (gd_c m_355) rfl rfl rfl (htb _ m_1) (htb _ m_353) hdX11_isWithin ⟨(Nat.le_of_ble_eq_true rfl), (Nat.le_of_ble_eq_true rfl)⟩, htb _ m_354⟩ ⟨pcW_blind, pcW_at hPc hKc hDc hN⟩ rfl rfl hl.1 rfl (lv_room (Nat.le_of_ble_eq_true rfl)) dX11_isWeather_16 ⟨(Nat.le_of_ble_eq_true rfl), (Nat.le_of_ble_eq_true rfl)⟩) hS (fun q _ h => hFc q h) hFc (fun r_4 u t H1 locs1 ht hvm h_5 hB hz1 hk1 hS1 => ?_)
    obtain ⟨hP1, hK1, hD1⟩ := hB
    rw [ht] at hP1
    obtain ⟨hPn, hDn⟩ := va_join (wr := []) (w1 := []) hP hD [] [] rfl rfl (by decide) (by decide) hk1 hFc hP1 hD1
    clear hP1 hD1 hK1
    clear hP hD hS hPc hDc hKc hFc hk1 hz1 ht hvm
    clear t
    revert hS1 hPn hDn; generalize H1 = H; generalize locs1 = locs; intro hS hP hD
    change va_P (dC, dI) vwCl [] H at hP
    change va_D A [] at hD
    rcases h_5 with ⟨rfl, h_5⟩ | ⟨rfl, h_5⟩
    · refine lv_if_eq (tgt := 31) hx hb dX11_isWeather_19 (by decide) (fun c_6 => absurd c_6 (by decide)) ?_
      intro _
      refine lv_iload_n hx hb dX11_isWeather_22 rfl (lv_at hl 1 rfl) ?_
      refine lv_iload_n hx hb dX11_isWeather_23 rfl (lv_at hl 0 rfl) ?_
      refine lv_icmp_lt (tgt := 31) hx hb dX11_isWeather_24 (by decide) (fun c_7 => ?_) (fun c_7 => ?_)
      · refine lv_iconst (v := 0) hx hb dX11_isWeather_31 (by decide) ?_
        refine W.widen (k := 0) (n := 0) (Nat.le_of_ble_eq_true rfl) (Nat.le_of_ble_eq_true rfl) ?_
        have hP9 := hP.sub (ws' := []) [] rfl
        have hD9 := hD.sub (ws' := []) [] (by decide) rfl
        have hK9 := hK.sub (tys' := []) [] rfl
        exact W.zret (ty := .boolean) (v := 0) hx hb hr rfl (fun t ht hW => ⟨⟨0, (), rfl, (Or.inr (⟨rfl, (lf_X11_isWeather_0 v1 v2 h_2 h_5 c_7)⟩)), ⟨by rw [ht]; exact hP9, va_K.moved hW.alike hK9, hD9⟩⟩, hS.F ht⟩) hS.2.2 dX11_isWeather_32
      · refine lv_iconst (v := 1) hx hb dX11_isWeather_27 (by decide) ?_
        refine lv_goto (tgt := 32) hx hb dX11_isWeather_28 (by decide) ?_
        refine W.widen (k := 0) (n := 0) (Nat.le_of_ble_eq_true rfl) (Nat.le_of_ble_eq_true rfl) ?_
        have hP9 := hP.sub (ws' := []) [] rfl
        have hD9 := hD.sub (ws' := []) [] (by decide) rfl
        have hK9 := hK.sub (tys' := []) [] rfl
        exact W.zret (ty := .boolean) (v := 1) hx hb hr rfl (fun t ht hW => ⟨⟨1, (), rfl, (Or.inl ⟨rfl, (lf_X11_isWeather_1 v1 v2 h_2 h_5 c_7)⟩), ⟨by rw [ht]; exact hP9, va_K.moved hW.alike hK9, hD9⟩⟩, hS.F ht⟩) hS.2.2 dX11_isWeather_32
    · refine lv_if_eq (tgt := 31) hx hb dX11_isWeather_19 (by decide) ?_ (fun c_8 => absurd (by decide) c_8)
      intro _
      refine lv_iconst (v := 0) hx hb dX11_isWeather_31 (by decide) ?_
      refine W.widen (k := 0) (n := 0) (Nat.le_of_ble_eq_true rfl) (Nat.le_of_ble_eq_true rfl) ?_
      have hP9 := hP.sub (ws' := []) [] rfl
      have hD9 := hD.sub (ws' := []) [] (by decide) rfl
      have hK9 := hK.sub (tys' := []) [] rfl
      exact W.zret (ty := .boolean) (v := 0) hx hb hr rfl (fun t ht hW => ⟨⟨0, (), rfl, (Or.inr (⟨rfl, (lf_X11_isWeather_2 v1 v2 h_2 h_5)⟩)), ⟨by rw [ht]; exact hP9, va_K.moved hW.alike hK9, hD9⟩⟩, hS.F ht⟩) hS.2.2 dX11_isWeather_32
  · refine lv_if_eq (tgt := 31) hx hb dX11_isWeather_8 (by decide) ?_ (fun c_9 => absurd (by decide) c_9)
    intro _
    refine lv_iconst (v := 0) hx hb dX11_isWeather_31 (by decide) ?_
    refine W.widen (k := 0) (n := 0) (Nat.le_of_ble_eq_true rfl) (Nat.le_of_ble_eq_true rfl) ?_
    have hP9 := hP.sub (ws' := []) [] rfl
    have hD9 := hD.sub (ws' := []) [] (by decide) rfl
    have hK9 := hK.sub (tys' := []) [] rfl
    exact W.zret (ty := .boolean) (v := 0) hx hb hr rfl (fun t ht hW => ⟨⟨0, (), rfl, (Or.inr (⟨rfl, (lf_X11_isWeather_3 v1 v2 h_2)⟩)), ⟨by rw [ht]; exact hP9, va_K.moved hW.alike hK9, hD9⟩⟩, hS.F ht⟩) hS.2.2 dX11_isWeather_32

theorem lf_X12_isWeather_0 (v1 : Int32) (v2 : Int32) (h_2 : (-30) ≤ v1 ∧ v1 ≤ 30) (h_5 : (-30) ≤ v2 ∧ v2 ≤ 40) (c_7 : v2 < v1) : ¬ (((-30) ≤ v1 ∧ v1 ≤ 30) ∧ ((-30) ≤ v2 ∧ v2 ≤ 40) ∧ v1 ≤ v2) := by
  first | grind | (simp_all; done)
theorem lf_X12_isWeather_1 (v1 : Int32) (v2 : Int32) (h_2 : (-30) ≤ v1 ∧ v1 ≤ 30) (h_5 : (-30) ≤ v2 ∧ v2 ≤ 40) (c_7 : ¬ v2 < v1) : ((-30) ≤ v1 ∧ v1 ≤ 30) ∧ ((-30) ≤ v2 ∧ v2 ≤ 40) ∧ v1 ≤ v2 := by
  first | grind | (simp_all; done)
theorem lf_X12_isWeather_2 (v1 : Int32) (v2 : Int32) (h_2 : (-30) ≤ v1 ∧ v1 ≤ 30) (h_5 : ¬ ((-30) ≤ v2 ∧ v2 ≤ 40)) : ¬ (((-30) ≤ v1 ∧ v1 ≤ 30) ∧ ((-30) ≤ v2 ∧ v2 ≤ 40) ∧ v1 ≤ v2) := by
  first | grind | (simp_all; done)
theorem lf_X12_isWeather_3 (v1 : Int32) (v2 : Int32) (h_2 : ¬ ((-30) ≤ v1 ∧ v1 ≤ 30)) : ¬ (((-30) ≤ v1 ∧ v1 ≤ 30) ∧ ((-30) ≤ v2 ∧ v2 ≤ 40) ∧ v1 ≤ v2) := by
  first | grind | (simp_all; done)
set_option maxHeartbeats 4000000 in
set_option maxRecDepth 100000 in
theorem kX12_isWeather (l : Launch) (dC : Nat → ClassId) (dI : Nat → Nat → Nat) (sz : Nat) (v1 : Int32) (v2 : Int32) : Met l yX12_isWeather (Cond.code yX12_isWeather cX12_isWeather 2 (some .boolean) :: bg) ({ frames := 1, cells := 0, slots := 0, locals := 22 }) (pcW dC dI [.int v1, .int v2] sz [] []) (va_Qi (fun (r : Int32) (u : Unit) => (r = 1 ∧ ((-30) ≤ v1 ∧ v1 ≤ 30) ∧ ((-30) ≤ v2 ∧ v2 ≤ 40) ∧ v1 ≤ v2) ∨ (r = 0 ∧ ¬ (((-30) ≤ v1 ∧ v1 ≤ 30) ∧ ((-30) ≤ v2 ∧ v2 ≤ 40) ∧ v1 ≤ v2))) (fun (u : Unit) (t : State) => va_P (dC, dI) vwCl [] t.heap ∧ va_K (dC, dI) vwCl [] t ∧ va_D (va_A [] sz) []) (va_A [] sz)) 0 0 (va_A [] sz) := by
  refine Met.ofW (cc := cX12_isWeather) (maxL := 2) (ret := (some .boolean)) pnX12 rfl ?_
  intro p e s m args below meth c s₁ B hml hv
  obtain ⟨rfl, hsz, hP, hK, hD0, hN⟩ := hv
  have hx := B.exec
  have hb := B.bytes
  have hr := B.returns
  have htb : ∀ w ∈ bg, w.before [.int v1, .int v2].toArray s = true := fun w h => atoms_spec (ws := Cond.code yX12_isWeather cX12_isWeather 2 (some .boolean) :: bg) B.pre w (List.mem_cons_of_mem _ h)
  have hown : s.vm.findClass RX12 = some m.cls := findClass_of_methodNamed B.named
  have hlocks := B.notSynchronized
  subst hsz
  have hD := hD0.self (sz := s.heap.size)
  generalize hAe : va_A [] s.heap.size = A at hD ⊢
  have hA : ∀ q : Nat, s.heap.size ≤ q → A q := fun q h => by rw [← hAe]; exact Or.inr h
  have hS : va_S A s.heap s.heap [] := va_S.rf
  have hl := lv_entry ([.int v1, .int v2]) (n := 2) (Nat.le_of_ble_eq_true rfl)
  rw [lg_entry_eq]
  generalize (lg_sl ([.int v1, .int v2]) ++ List.replicate (2 - (lg_sl ([.int v1, .int v2])).length) Slot.unset).toArray = ls at hl ⊢
  change lv_has ls 2 [(0, .int v1), (1, .int v2)] at hl
  clear hD0 hAe
  refine go0 (wsP := fun H => va_P (dC, dI) vwCl [] H) hP hS ?_
  clear hP hS; intro H locs hP hS
  change va_P (dC, dI) vwCl [] H at hP
  refine lv_iload_n hx hb dX12_isWeather_0 rfl (lv_at hl 0 rfl) ?_
  refine lv_bipush (v := (-30)) hx hb dX12_isWeather_1 (by decide) ?_
  refine lv_bipush (v := 30) hx hb dX12_isWeather_3 (by decide) ?_
  have hPc := hP.sub (ws' := []) [] rfl
  have hDc := hD.sub (ws' := []) [] (by decide) rfl
  have hKc := hK.sub (tys' := []) [] rfl
  have hFc := va_free (wc := []) hD hS hA [] rfl
  refine va_calli (va_runS (As := [.int v1, .int (-30), .int 30]) (rest := []) ⟨hx, hb, hml, hown, htb⟩ (kX12_isIn l dC dI H.size v1 (-30) 30 ) ⟨callB_of 3 htb (gd_c m_1192) rfl rfl rfl (htb _ m_13) (htb _ m_1190) hdX12_isIn ⟨(Nat.le_of_ble_eq_true rfl), (Nat.le_of_ble_eq_true rfl)⟩, htb _ m_1191⟩ ⟨pcW_blind, pcW_at hPc hKc hDc hN⟩ rfl rfl hl.1 rfl (lv_room (Nat.le_of_ble_eq_true rfl)) dX12_isWeather_5 ⟨(Nat.le_of_ble_eq_true rfl), (Nat.le_of_ble_eq_true rfl)⟩) hS (fun q _ h => hFc q h) hFc (fun r_1 u t H1 locs1 ht hvm h_2 hB hz1 hk1 hS1 => ?_)
  obtain ⟨hP1, hK1, hD1⟩ := hB
  rw [ht] at hP1
  obtain ⟨hPn, hDn⟩ := va_join (wr := []) (w1 := []) hP hD [] [] rfl rfl (by decide) (by decide) hk1 hFc hP1 hD1
  clear hP1 hD1 hK1
  clear hP hD hS hPc hDc hKc hFc hk1 hz1 ht hvm
  clear t
  revert hS1 hPn hDn; generalize H1 = H; generalize locs1 = locs; intro hS hP hD
  change va_P (dC, dI) vwCl [] H at hP
  change va_D A [] at hD
  rcases h_2 with ⟨rfl, h_2⟩ | ⟨rfl, h_2⟩
  · refine lv_if_eq (tgt := 31) hx hb dX12_isWeather_8 (by decide) (fun c_3 => absurd c_3 (by decide)) ?_
    intro _
    refine lv_iload_n hx hb dX12_isWeather_11 rfl (lv_at hl 1 rfl) ?_
    refine lv_bipush (v := (-30)) hx hb dX12_isWeather_12 (by decide) ?_
    refine lv_bipush (v := 40) hx hb dX12_isWeather_14 (by decide) ?_
    have hPc := hP.sub (ws' := []) [] rfl
    have hDc := hD.sub (ws' := []) [] (by decide) rfl
    have hKc := hK.sub (tys' := []) [] rfl
    have hFc := va_free (wc := []) hD hS hA [] rfl
    refine va_calli (va_runS (As := [.int v2, .int (-30), .int 40]) (rest := []) ⟨hx, hb, hml, hown, htb⟩ (kX12_isIn l dC dI H.size v2 (-30) 40 ) ⟨callB_of 3 htb (gd_c m_1192) rfl rfl rfl (htb _ m_13) (htb _ m_1190) hdX12_isIn ⟨(Nat.le_of_ble_eq_true rfl), (Nat.le_of_ble_eq_true rfl)⟩, htb _ m_1191⟩ ⟨pcW_blind, pcW_at hPc hKc hDc hN⟩ rfl rfl hl.1 rfl (lv_room (Nat.le_of_ble_eq_true rfl)) dX12_isWeather_16 ⟨(Nat.le_of_ble_eq_true rfl), (Nat.le_of_ble_eq_true rfl)⟩) hS (fun q _ h => hFc q h) hFc (fun r_4 u t H1 locs1 ht hvm h_5 hB hz1 hk1 hS1 => ?_)
    obtain ⟨hP1, hK1, hD1⟩ := hB
    rw [ht] at hP1
    obtain ⟨hPn, hDn⟩ := va_join (wr := []) (w1 := []) hP hD [] [] rfl rfl (by decide) (by decide) hk1 hFc hP1 hD1
    clear hP1 hD1 hK1
    clear hP hD hS hPc hDc hKc hFc hk1 hz1 ht hvm
    clear t
    revert hS1 hPn hDn; generalize H1 = H; generalize locs1 = locs; intro hS hP hD
    change va_P (dC, dI) vwCl [] H at hP
    change va_D A [] at hD
    rcases h_5 with ⟨rfl, h_5⟩ | ⟨rfl, h_5⟩
    · refine lv_if_eq (tgt := 31) hx hb dX12_isWeather_19 (by decide) (fun c_6 => absurd c_6 (by decide)) ?_
      intro _
      refine lv_iload_n hx hb dX12_isWeather_22 rfl (lv_at hl 1 rfl) ?_
      refine lv_iload_n hx hb dX12_isWeather_23 rfl (lv_at hl 0 rfl) ?_
      refine lv_icmp_lt (tgt := 31) hx hb dX12_isWeather_24 (by decide) (fun c_7 => ?_) (fun c_7 => ?_)
      · refine lv_iconst (v := 0) hx hb dX12_isWeather_31 (by decide) ?_
        refine W.widen (k := 0) (n := 0) (Nat.le_of_ble_eq_true rfl) (Nat.le_of_ble_eq_true rfl) ?_
        have hP9 := hP.sub (ws' := []) [] rfl
        have hD9 := hD.sub (ws' := []) [] (by decide) rfl
        have hK9 := hK.sub (tys' := []) [] rfl
        exact W.zret (ty := .boolean) (v := 0) hx hb hr rfl (fun t ht hW => ⟨⟨0, (), rfl, (Or.inr (⟨rfl, (lf_X12_isWeather_0 v1 v2 h_2 h_5 c_7)⟩)), ⟨by rw [ht]; exact hP9, va_K.moved hW.alike hK9, hD9⟩⟩, hS.F ht⟩) hS.2.2 dX12_isWeather_32
      · refine lv_iconst (v := 1) hx hb dX12_isWeather_27 (by decide) ?_
        refine lv_goto (tgt := 32) hx hb dX12_isWeather_28 (by decide) ?_
        refine W.widen (k := 0) (n := 0) (Nat.le_of_ble_eq_true rfl) (Nat.le_of_ble_eq_true rfl) ?_
        have hP9 := hP.sub (ws' := []) [] rfl
        have hD9 := hD.sub (ws' := []) [] (by decide) rfl
        have hK9 := hK.sub (tys' := []) [] rfl
        exact W.zret (ty := .boolean) (v := 1) hx hb hr rfl (fun t ht hW => ⟨⟨1, (), rfl, (Or.inl ⟨rfl, (lf_X12_isWeather_1 v1 v2 h_2 h_5 c_7)⟩), ⟨by rw [ht]; exact hP9, va_K.moved hW.alike hK9, hD9⟩⟩, hS.F ht⟩) hS.2.2 dX12_isWeather_32
    · refine lv_if_eq (tgt := 31) hx hb dX12_isWeather_19 (by decide) ?_ (fun c_8 => absurd (by decide) c_8)
      intro _
      refine lv_iconst (v := 0) hx hb dX12_isWeather_31 (by decide) ?_
      refine W.widen (k := 0) (n := 0) (Nat.le_of_ble_eq_true rfl) (Nat.le_of_ble_eq_true rfl) ?_
      have hP9 := hP.sub (ws' := []) [] rfl
      have hD9 := hD.sub (ws' := []) [] (by decide) rfl
      have hK9 := hK.sub (tys' := []) [] rfl
      exact W.zret (ty := .boolean) (v := 0) hx hb hr rfl (fun t ht hW => ⟨⟨0, (), rfl, (Or.inr (⟨rfl, (lf_X12_isWeather_2 v1 v2 h_2 h_5)⟩)), ⟨by rw [ht]; exact hP9, va_K.moved hW.alike hK9, hD9⟩⟩, hS.F ht⟩) hS.2.2 dX12_isWeather_32
  · refine lv_if_eq (tgt := 31) hx hb dX12_isWeather_8 (by decide) ?_ (fun c_9 => absurd (by decide) c_9)
    intro _
    refine lv_iconst (v := 0) hx hb dX12_isWeather_31 (by decide) ?_
    refine W.widen (k := 0) (n := 0) (Nat.le_of_ble_eq_true rfl) (Nat.le_of_ble_eq_true rfl) ?_
    have hP9 := hP.sub (ws' := []) [] rfl
    have hD9 := hD.sub (ws' := []) [] (by decide) rfl
    have hK9 := hK.sub (tys' := []) [] rfl
    exact W.zret (ty := .boolean) (v := 0) hx hb hr rfl (fun t ht hW => ⟨⟨0, (), rfl, (Or.inr (⟨rfl, (lf_X12_isWeather_3 v1 v2 h_2)⟩)), ⟨by rw [ht]; exact hP9, va_K.moved hW.alike hK9, hD9⟩⟩, hS.F ht⟩) hS.2.2 dX12_isWeather_32

theorem lf_X11_thawOf_0 (v1 : Int32) (x_1 : Int32) (x_3 : Int32) (ex_2 : x_1 = if v1 < 10 then v1 else 10) (ex_4 : x_3 = if 0 < x_1 then x_1 else 0) : 0 ≤ x_3 ∧ x_3 ≤ 10 := by
  first | exact mm10 (by assumption) (by assumption)
set_option maxHeartbeats 4000000 in
set_option maxRecDepth 100000 in
theorem kX11_thawOf (l : Launch) (dC : Nat → ClassId) (dI : Nat → Nat → Nat) (sz : Nat) (v1 : Int32) : Met l yX11_thawOf (Cond.code yX11_thawOf cX11_thawOf 1 (some .int) :: bg) ({ frames := 1, cells := 0, slots := 0, locals := 14 }) (pcW dC dI [.int v1] sz [] []) (va_Qi (fun (r : Int32) (u : Unit) => 0 ≤ r ∧ r ≤ 10) (fun (u : Unit) (t : State) => va_P (dC, dI) vwCl [] t.heap ∧ va_K (dC, dI) vwCl [] t ∧ va_D (va_A [] sz) []) (va_A [] sz)) 0 0 (va_A [] sz) := by
  refine Met.ofW (cc := cX11_thawOf) (maxL := 1) (ret := (some .int)) pnX11 rfl ?_
  intro p e s m args below meth c s₁ B hml hv
  obtain ⟨rfl, hsz, hP, hK, hD0, hN⟩ := hv
  have hx := B.exec
  have hb := B.bytes
  have hr := B.returns
  have htb : ∀ w ∈ bg, w.before [.int v1].toArray s = true := fun w h => atoms_spec (ws := Cond.code yX11_thawOf cX11_thawOf 1 (some .int) :: bg) B.pre w (List.mem_cons_of_mem _ h)
  have hown : s.vm.findClass RX11 = some m.cls := findClass_of_methodNamed B.named
  have hlocks := B.notSynchronized
  subst hsz
  have hD := hD0.self (sz := s.heap.size)
  generalize hAe : va_A [] s.heap.size = A at hD ⊢
  have hA : ∀ q : Nat, s.heap.size ≤ q → A q := fun q h => by rw [← hAe]; exact Or.inr h
  have hS : va_S A s.heap s.heap [] := va_S.rf
  have hl := lv_entry ([.int v1]) (n := 1) (Nat.le_of_ble_eq_true rfl)
  rw [lg_entry_eq]
  generalize (lg_sl ([.int v1]) ++ List.replicate (1 - (lg_sl ([.int v1])).length) Slot.unset).toArray = ls at hl ⊢
  change lv_has ls 1 [(0, .int v1)] at hl
  clear hD0 hAe
  refine go0 (wsP := fun H => va_P (dC, dI) vwCl [] H) hP hS ?_
  clear hP hS; intro H locs hP hS
  change va_P (dC, dI) vwCl [] H at hP
  refine lv_iconst (v := 0) hx hb dX11_thawOf_0 (by decide) ?_
  refine lv_bipush (v := 10) hx hb dX11_thawOf_1 (by decide) ?_
  refine lv_iload_n hx hb dX11_thawOf_3 rfl (lv_at hl 0 rfl) ?_
  refine va_mmin hx hb (hml.trans hl.1.symm) hown (htb _ m_500) (htb _ m_408) (htb _ m_14) (htb _ m_409) (Nat.le_of_ble_eq_true rfl) (Nat.le_of_ble_eq_true rfl) (Nat.le_of_ble_eq_true rfl) (Nat.le_of_ble_eq_true rfl) dX11_thawOf_4 ?_
  refine lv_topi (fun x_1 ex_2 => ?_)
  refine va_mmax hx hb (hml.trans hl.1.symm) hown (htb _ m_501) (htb _ m_436) (htb _ m_14) (htb _ m_437) (Nat.le_of_ble_eq_true rfl) (Nat.le_of_ble_eq_true rfl) (Nat.le_of_ble_eq_true rfl) (Nat.le_of_ble_eq_true rfl) dX11_thawOf_7 ?_
  refine lv_topi (fun x_3 ex_4 => ?_)
  refine W.widen (k := 0) (n := 0) (Nat.le_of_ble_eq_true rfl) (Nat.le_of_ble_eq_true rfl) ?_
  have hP9 := hP.sub (ws' := []) [] rfl
  have hD9 := hD.sub (ws' := []) [] (by decide) rfl
  have hK9 := hK.sub (tys' := []) [] rfl
  exact W.iret (v := x_3) hx hb hr (fun t ht hW => ⟨⟨x_3, (), rfl, (lf_X11_thawOf_0 v1 x_1 x_3 ex_2 ex_4), ⟨by rw [ht]; exact hP9, va_K.moved hW.alike hK9, hD9⟩⟩, hS.F ht⟩) hS.2.2 dX11_thawOf_10

theorem lf_X11_frostOf_0 (v1 : Int32) (x_1 : Int32) (r_3 : Int32) (ex_2 : x_1 = -v1) (h_4 : 0 ≤ r_3 ∧ r_3 ≤ 10) : 0 ≤ r_3 ∧ r_3 ≤ 10 := by
  assumption
set_option maxHeartbeats 4000000 in
set_option maxRecDepth 100000 in
theorem kX11_frostOf (l : Launch) (dC : Nat → ClassId) (dI : Nat → Nat → Nat) (sz : Nat) (v1 : Int32) : Met l yX11_frostOf (Cond.code yX11_frostOf cX11_frostOf 1 (some .int) :: bg) ({ frames := 2, cells := 0, slots := 0, locals := 34 }) (pcW dC dI [.int v1] sz [] []) (va_Qi (fun (r : Int32) (u : Unit) => 0 ≤ r ∧ r ≤ 10) (fun (u : Unit) (t : State) => va_P (dC, dI) vwCl [] t.heap ∧ va_K (dC, dI) vwCl [] t ∧ va_D (va_A [] sz) []) (va_A [] sz)) 0 0 (va_A [] sz) := by
  refine Met.ofW (cc := cX11_frostOf) (maxL := 1) (ret := (some .int)) pnX11 rfl ?_
  intro p e s m args below meth c s₁ B hml hv
  obtain ⟨rfl, hsz, hP, hK, hD0, hN⟩ := hv
  have hx := B.exec
  have hb := B.bytes
  have hr := B.returns
  have htb : ∀ w ∈ bg, w.before [.int v1].toArray s = true := fun w h => atoms_spec (ws := Cond.code yX11_frostOf cX11_frostOf 1 (some .int) :: bg) B.pre w (List.mem_cons_of_mem _ h)
  have hown : s.vm.findClass RX11 = some m.cls := findClass_of_methodNamed B.named
  have hlocks := B.notSynchronized
  subst hsz
  have hD := hD0.self (sz := s.heap.size)
  generalize hAe : va_A [] s.heap.size = A at hD ⊢
  have hA : ∀ q : Nat, s.heap.size ≤ q → A q := fun q h => by rw [← hAe]; exact Or.inr h
  have hS : va_S A s.heap s.heap [] := va_S.rf
  have hl := lv_entry ([.int v1]) (n := 1) (Nat.le_of_ble_eq_true rfl)
  rw [lg_entry_eq]
  generalize (lg_sl ([.int v1]) ++ List.replicate (1 - (lg_sl ([.int v1])).length) Slot.unset).toArray = ls at hl ⊢
  change lv_has ls 1 [(0, .int v1)] at hl
  clear hD0 hAe
  refine go0 (wsP := fun H => va_P (dC, dI) vwCl [] H) hP hS ?_
  clear hP hS; intro H locs hP hS
  change va_P (dC, dI) vwCl [] H at hP
  refine lv_iload_n hx hb dX11_frostOf_0 rfl (lv_at hl 0 rfl) ?_
  refine lv_ineg hx hb dX11_frostOf_1 ?_
  refine lv_topi (fun x_1 ex_2 => ?_)
  have hPc := hP.sub (ws' := []) [] rfl
  have hDc := hD.sub (ws' := []) [] (by decide) rfl
  have hKc := hK.sub (tys' := []) [] rfl
  have hFc := va_free (wc := []) hD hS hA [] rfl
  refine va_calli (va_runS (As := [.int x_1]) (rest := []) ⟨hx, hb, hml, hown, htb⟩ (kX11_thawOf l dC dI H.size x_1 ) ⟨callB_of 1 htb (gd_c m_499) rfl rfl rfl (htb _ m_1) (htb _ m_497) hdX11_thawOf ⟨(Nat.le_of_ble_eq_true rfl), (Nat.le_of_ble_eq_true rfl)⟩, htb _ m_498⟩ ⟨pcW_blind, pcW_at hPc hKc hDc hN⟩ rfl rfl hl.1 rfl (lv_room (Nat.le_of_ble_eq_true rfl)) dX11_frostOf_2 ⟨(Nat.le_of_ble_eq_true rfl), (Nat.le_of_ble_eq_true rfl)⟩) hS (fun q _ h => hFc q h) hFc (fun r_3 u t H1 locs1 ht hvm h_4 hB hz1 hk1 hS1 => ?_)
  obtain ⟨hP1, hK1, hD1⟩ := hB
  rw [ht] at hP1
  obtain ⟨hPn, hDn⟩ := va_join (wr := []) (w1 := []) hP hD [] [] rfl rfl (by decide) (by decide) hk1 hFc hP1 hD1
  clear hP1 hD1 hK1
  clear hP hD hS hPc hDc hKc hFc hk1 hz1 ht hvm
  clear t
  revert hS1 hPn hDn; generalize H1 = H; generalize locs1 = locs; intro hS hP hD
  change va_P (dC, dI) vwCl [] H at hP
  change va_D A [] at hD
  refine W.widen (k := 0) (n := 0) (Nat.le_of_ble_eq_true rfl) (Nat.le_of_ble_eq_true rfl) ?_
  have hP9 := hP.sub (ws' := []) [] rfl
  have hD9 := hD.sub (ws' := []) [] (by decide) rfl
  have hK9 := hK.sub (tys' := []) [] rfl
  exact W.iret (v := r_3) hx hb hr (fun t ht hW => ⟨⟨r_3, (), rfl, (lf_X11_frostOf_0 v1 x_1 r_3 ex_2 h_4), ⟨by rw [ht]; exact hP9, va_K.moved hW.alike hK9, hD9⟩⟩, hS.F ht⟩) hS.2.2 dX11_frostOf_5

theorem lf_X12_held_0 (v1 : Int32) (x_1 : Int32) (x_3 : Int32) (ex_2 : x_1 = if v1 < 10 then v1 else 10) (ex_4 : x_3 = if 0 < x_1 then x_1 else 0) : 0 ≤ x_3 ∧ x_3 ≤ 10 := by
  first | exact mm10 (by assumption) (by assumption)
set_option maxHeartbeats 4000000 in
set_option maxRecDepth 100000 in
theorem kX12_held (l : Launch) (dC : Nat → ClassId) (dI : Nat → Nat → Nat) (sz : Nat) (v1 : Int32) : Met l yX12_held (Cond.code yX12_held cX12_held 1 (some .int) :: bg) ({ frames := 1, cells := 0, slots := 0, locals := 14 }) (pcW dC dI [.int v1] sz [] []) (va_Qi (fun (r : Int32) (u : Unit) => 0 ≤ r ∧ r ≤ 10) (fun (u : Unit) (t : State) => va_P (dC, dI) vwCl [] t.heap ∧ va_K (dC, dI) vwCl [] t ∧ va_D (va_A [] sz) []) (va_A [] sz)) 0 0 (va_A [] sz) := by
  refine Met.ofW (cc := cX12_held) (maxL := 1) (ret := (some .int)) pnX12 rfl ?_
  intro p e s m args below meth c s₁ B hml hv
  obtain ⟨rfl, hsz, hP, hK, hD0, hN⟩ := hv
  have hx := B.exec
  have hb := B.bytes
  have hr := B.returns
  have htb : ∀ w ∈ bg, w.before [.int v1].toArray s = true := fun w h => atoms_spec (ws := Cond.code yX12_held cX12_held 1 (some .int) :: bg) B.pre w (List.mem_cons_of_mem _ h)
  have hown : s.vm.findClass RX12 = some m.cls := findClass_of_methodNamed B.named
  have hlocks := B.notSynchronized
  subst hsz
  have hD := hD0.self (sz := s.heap.size)
  generalize hAe : va_A [] s.heap.size = A at hD ⊢
  have hA : ∀ q : Nat, s.heap.size ≤ q → A q := fun q h => by rw [← hAe]; exact Or.inr h
  have hS : va_S A s.heap s.heap [] := va_S.rf
  have hl := lv_entry ([.int v1]) (n := 1) (Nat.le_of_ble_eq_true rfl)
  rw [lg_entry_eq]
  generalize (lg_sl ([.int v1]) ++ List.replicate (1 - (lg_sl ([.int v1])).length) Slot.unset).toArray = ls at hl ⊢
  change lv_has ls 1 [(0, .int v1)] at hl
  clear hD0 hAe
  refine go0 (wsP := fun H => va_P (dC, dI) vwCl [] H) hP hS ?_
  clear hP hS; intro H locs hP hS
  change va_P (dC, dI) vwCl [] H at hP
  refine lv_iconst (v := 0) hx hb dX12_held_0 (by decide) ?_
  refine lv_bipush (v := 10) hx hb dX12_held_1 (by decide) ?_
  refine lv_iload_n hx hb dX12_held_3 rfl (lv_at hl 0 rfl) ?_
  refine va_mmin hx hb (hml.trans hl.1.symm) hown (htb _ m_1250) (htb _ m_408) (htb _ m_14) (htb _ m_409) (Nat.le_of_ble_eq_true rfl) (Nat.le_of_ble_eq_true rfl) (Nat.le_of_ble_eq_true rfl) (Nat.le_of_ble_eq_true rfl) dX12_held_4 ?_
  refine lv_topi (fun x_1 ex_2 => ?_)
  refine va_mmax hx hb (hml.trans hl.1.symm) hown (htb _ m_1224) (htb _ m_436) (htb _ m_14) (htb _ m_437) (Nat.le_of_ble_eq_true rfl) (Nat.le_of_ble_eq_true rfl) (Nat.le_of_ble_eq_true rfl) (Nat.le_of_ble_eq_true rfl) dX12_held_7 ?_
  refine lv_topi (fun x_3 ex_4 => ?_)
  refine W.widen (k := 0) (n := 0) (Nat.le_of_ble_eq_true rfl) (Nat.le_of_ble_eq_true rfl) ?_
  have hP9 := hP.sub (ws' := []) [] rfl
  have hD9 := hD.sub (ws' := []) [] (by decide) rfl
  have hK9 := hK.sub (tys' := []) [] rfl
  exact W.iret (v := x_3) hx hb hr (fun t ht hW => ⟨⟨x_3, (), rfl, (lf_X12_held_0 v1 x_1 x_3 ex_2 ex_4), ⟨by rw [ht]; exact hP9, va_K.moved hW.alike hK9, hD9⟩⟩, hS.F ht⟩) hS.2.2 dX12_held_10

set_option maxHeartbeats 4000000 in
set_option maxRecDepth 100000 in
theorem kX12_one_1 (l : Launch) (dC : Nat → ClassId) (dI : Nat → Nat → Nat) (sz : Nat) : Met l yX12_one (Cond.code yX12_one cX12_one 1 (some .int) :: bg) ({ frames := 0, cells := 0, slots := 0, locals := 0 }) (pcW dC dI [.int 1] sz [] []) (va_Qi (fun (r : Int32) (u : Unit) => r = 1) (fun (u : Unit) (t : State) => va_P (dC, dI) vwCl [] t.heap ∧ va_K (dC, dI) vwCl [] t ∧ va_D (va_A [] sz) []) (va_A [] sz)) 0 0 (va_A [] sz) := by
  refine Met.ofW (cc := cX12_one) (maxL := 1) (ret := (some .int)) pnX12 rfl ?_
  intro p e s m args below meth c s₁ B hml hv
  obtain ⟨rfl, hsz, hP, hK, hD0, hN⟩ := hv
  have hx := B.exec
  have hb := B.bytes
  have hr := B.returns
  have htb : ∀ w ∈ bg, w.before [.int 1].toArray s = true := fun w h => atoms_spec (ws := Cond.code yX12_one cX12_one 1 (some .int) :: bg) B.pre w (List.mem_cons_of_mem _ h)
  have hown : s.vm.findClass RX12 = some m.cls := findClass_of_methodNamed B.named
  have hlocks := B.notSynchronized
  subst hsz
  have hD := hD0.self (sz := s.heap.size)
  generalize hAe : va_A [] s.heap.size = A at hD ⊢
  have hA : ∀ q : Nat, s.heap.size ≤ q → A q := fun q h => by rw [← hAe]; exact Or.inr h
  have hS : va_S A s.heap s.heap [] := va_S.rf
  have hl := lv_entry ([.int 1]) (n := 1) (Nat.le_of_ble_eq_true rfl)
  rw [lg_entry_eq]
  generalize (lg_sl ([.int 1]) ++ List.replicate (1 - (lg_sl ([.int 1])).length) Slot.unset).toArray = ls at hl ⊢
  change lv_has ls 1 [(0, .int 1)] at hl
  clear hD0 hAe
  refine go0 (wsP := fun H => va_P (dC, dI) vwCl [] H) hP hS ?_
  clear hP hS; intro H locs hP hS
  change va_P (dC, dI) vwCl [] H at hP
  refine lv_iload_n hx hb dX12_one_0 rfl (lv_at hl 0 rfl) ?_
  refine lv_if_eq (tgt := 8) hx hb dX12_one_1 (by decide) (fun c_1 => absurd c_1 (by decide)) ?_
  intro _
  refine lv_iconst (v := 1) hx hb dX12_one_4 (by decide) ?_
  refine lv_goto (tgt := 9) hx hb dX12_one_5 (by decide) ?_
  refine W.widen (k := 0) (n := 0) (Nat.le_of_ble_eq_true rfl) (Nat.le_of_ble_eq_true rfl) ?_
  have hP9 := hP.sub (ws' := []) [] rfl
  have hD9 := hD.sub (ws' := []) [] (by decide) rfl
  have hK9 := hK.sub (tys' := []) [] rfl
  exact W.iret (v := 1) hx hb hr (fun t ht hW => ⟨⟨1, (), rfl, (rfl), ⟨by rw [ht]; exact hP9, va_K.moved hW.alike hK9, hD9⟩⟩, hS.F ht⟩) hS.2.2 dX12_one_9

set_option maxHeartbeats 4000000 in
set_option maxRecDepth 100000 in
theorem kX12_one_0 (l : Launch) (dC : Nat → ClassId) (dI : Nat → Nat → Nat) (sz : Nat) : Met l yX12_one (Cond.code yX12_one cX12_one 1 (some .int) :: bg) ({ frames := 0, cells := 0, slots := 0, locals := 0 }) (pcW dC dI [.int 0] sz [] []) (va_Qi (fun (r : Int32) (u : Unit) => r = 0) (fun (u : Unit) (t : State) => va_P (dC, dI) vwCl [] t.heap ∧ va_K (dC, dI) vwCl [] t ∧ va_D (va_A [] sz) []) (va_A [] sz)) 0 0 (va_A [] sz) := by
  refine Met.ofW (cc := cX12_one) (maxL := 1) (ret := (some .int)) pnX12 rfl ?_
  intro p e s m args below meth c s₁ B hml hv
  obtain ⟨rfl, hsz, hP, hK, hD0, hN⟩ := hv
  have hx := B.exec
  have hb := B.bytes
  have hr := B.returns
  have htb : ∀ w ∈ bg, w.before [.int 0].toArray s = true := fun w h => atoms_spec (ws := Cond.code yX12_one cX12_one 1 (some .int) :: bg) B.pre w (List.mem_cons_of_mem _ h)
  have hown : s.vm.findClass RX12 = some m.cls := findClass_of_methodNamed B.named
  have hlocks := B.notSynchronized
  subst hsz
  have hD := hD0.self (sz := s.heap.size)
  generalize hAe : va_A [] s.heap.size = A at hD ⊢
  have hA : ∀ q : Nat, s.heap.size ≤ q → A q := fun q h => by rw [← hAe]; exact Or.inr h
  have hS : va_S A s.heap s.heap [] := va_S.rf
  have hl := lv_entry ([.int 0]) (n := 1) (Nat.le_of_ble_eq_true rfl)
  rw [lg_entry_eq]
  generalize (lg_sl ([.int 0]) ++ List.replicate (1 - (lg_sl ([.int 0])).length) Slot.unset).toArray = ls at hl ⊢
  change lv_has ls 1 [(0, .int 0)] at hl
  clear hD0 hAe
  refine go0 (wsP := fun H => va_P (dC, dI) vwCl [] H) hP hS ?_
  clear hP hS; intro H locs hP hS
  change va_P (dC, dI) vwCl [] H at hP
  refine lv_iload_n hx hb dX12_one_0 rfl (lv_at hl 0 rfl) ?_
  refine lv_if_eq (tgt := 8) hx hb dX12_one_1 (by decide) ?_ (fun c_1 => absurd (by decide) c_1)
  intro _
  refine lv_iconst (v := 0) hx hb dX12_one_8 (by decide) ?_
  refine W.widen (k := 0) (n := 0) (Nat.le_of_ble_eq_true rfl) (Nat.le_of_ble_eq_true rfl) ?_
  have hP9 := hP.sub (ws' := []) [] rfl
  have hD9 := hD.sub (ws' := []) [] (by decide) rfl
  have hK9 := hK.sub (tys' := []) [] rfl
  exact W.iret (v := 0) hx hb hr (fun t ht hW => ⟨⟨0, (), rfl, (rfl), ⟨by rw [ht]; exact hP9, va_K.moved hW.alike hK9, hD9⟩⟩, hS.F ht⟩) hS.2.2 dX12_one_9

set_option maxHeartbeats 4000000 in
set_option maxRecDepth 100000 in
theorem kX10_init (l : Launch) (dC : Nat → ClassId) (dI : Nat → Nat → Nat) (sz : Nat) (h0 : Nat) : Met l yX10_init (Cond.code yX10_init cX10_init 1 none :: bg) ({ frames := 1, cells := 8, slots := 320, locals := 12 }) (pcW dC dI [.ref h0] sz [(h0, .inr (10, [.null, .null, .null, .null, .null, .null, .null, .null, .int 0]))] []) (va_Qv (fun (u : Unit) => True) (fun (u : Unit) (t : State) => ∃ (t_to : Nat) (t_height : Nat) (t_member : Nat) (t_lengthHome : Nat) (t_runs : Nat) (t_leak : Nat) (t_vacuum : Nat) (t_reading : Nat) (k_to : ClassId) (k_height : ClassId) (k_member : ClassId) (k_lengthHome : ClassId) (k_runs : ClassId) (k_vacuum : ClassId) (k_reading : ClassId) (f_to : Nat → Int32) (f_member : Nat → Int32) (f_runs : Nat → Int32) (f_reading : Nat → Int32), f_to 0 = (-1) ∧ f_member 0 = (-1) ∧ f_runs 0 = 1 ∧ f_reading 0 = (-1) ∧ va_P (dC, dI) vwCl [(h0, .inr (10, [.ref t_to, .ref t_height, .ref t_member, .ref t_lengthHome, .ref t_runs, .ref t_leak, .ref t_vacuum, .ref t_reading, .int 1])), (t_to, .inl (k_to, 40, .inl f_to)), (t_height, .inl (k_height, 40, .inl (fun _ => 0))), (t_member, .inl (k_member, 40, .inl f_member)), (t_lengthHome, .inl (k_lengthHome, 40, .inl (fun _ => 0))), (t_runs, .inl (k_runs, 40, .inl f_runs)), (t_vacuum, .inl (k_vacuum, 40, .inl (fun _ => 0))), (t_reading, .inl (k_reading, 40, .inl f_reading))] t.heap ∧ va_K (dC, dI) vwCl [(k_to, .int), (k_height, .int), (k_member, .int), (k_lengthHome, .int), (k_runs, .boolean), (k_vacuum, .int), (k_reading, .int)] t ∧ va_D (va_A [(h0, .inr (10, [.null, .null, .null, .null, .null, .null, .null, .null, .int 0]))] sz) [(h0, .inr (10, [.ref t_to, .ref t_height, .ref t_member, .ref t_lengthHome, .ref t_runs, .ref t_leak, .ref t_vacuum, .ref t_reading, .int 1])), (t_to, .inl (k_to, 40, .inl f_to)), (t_height, .inl (k_height, 40, .inl (fun _ => 0))), (t_member, .inl (k_member, 40, .inl f_member)), (t_lengthHome, .inl (k_lengthHome, 40, .inl (fun _ => 0))), (t_runs, .inl (k_runs, 40, .inl f_runs)), (t_vacuum, .inl (k_vacuum, 40, .inl (fun _ => 0))), (t_reading, .inl (k_reading, 40, .inl f_reading))]) (va_A [(h0, .inr (10, [.null, .null, .null, .null, .null, .null, .null, .null, .int 0]))] sz)) 8 320 (va_A [(h0, .inr (10, [.null, .null, .null, .null, .null, .null, .null, .null, .int 0]))] sz) := by
  refine Met.ofW (cc := cX10_init) (maxL := 1) (ret := none) pnX10 rfl ?_
  intro p e s m args below meth c s₁ B hml hv
  obtain ⟨rfl, hsz, hP, hK, hD0, hN⟩ := hv
  have hx := B.exec
  have hb := B.bytes
  have hr := B.returns
  have htb : ∀ w ∈ bg, w.before [.ref h0].toArray s = true := fun w h => atoms_spec (ws := Cond.code yX10_init cX10_init 1 none :: bg) B.pre w (List.mem_cons_of_mem _ h)
  have hown : s.vm.findClass RX10 = some m.cls := findClass_of_methodNamed B.named
  have hlocks := B.notSynchronized
  have hin : meth.name = "<init>" := (name_of_methodNamed B.named B.method).1
  subst hsz
  have hD := hD0.self (sz := s.heap.size)
  generalize hAe : va_A [(h0, .inr (10, [.null, .null, .null, .null, .null, .null, .null, .null, .int 0]))] s.heap.size = A at hD ⊢
  have hA : ∀ q : Nat, s.heap.size ≤ q → A q := fun q h => by rw [← hAe]; exact Or.inr h
  have hS : va_S A s.heap s.heap [] := va_S.rf
  have hl := lv_entry ([.ref h0]) (n := 1) (Nat.le_of_ble_eq_true rfl)
  rw [lg_entry_eq]
  generalize (lg_sl ([.ref h0]) ++ List.replicate (1 - (lg_sl ([.ref h0])).length) Slot.unset).toArray = ls at hl ⊢
  change lv_has ls 1 [(0, .ref h0)] at hl
  clear hD0 hAe
  refine go0 (wsP := fun H => va_P (dC, dI) vwCl [(h0, .inr (10, [.null, .null, .null, .null, .null, .null, .null, .null, .int 0]))] H) hP hS ?_
  clear hP hS; intro H locs hP hS
  change va_P (dC, dI) vwCl [(h0, .inr (10, [.null, .null, .null, .null, .null, .null, .null, .null, .int 0]))] H at hP
  refine lv_aload_n hx hb dX10_init_0 rfl (lv_at hl 0 rfl) ?_
  refine W.objInit hx hb hown (htb _ m_33) (htb _ m_26) (htb _ m_27) rfl (by rw [hml]; exact hl.1) rfl dX10_init_1 (Nat.le_of_ble_eq_true rfl) (Nat.le_of_ble_eq_true rfl) ?_
  refine W.eq (g2 := F0 m 4 ls []) rfl ?_
  refine lv_aload_n hx hb dX10_init_4 rfl (lv_at hl 0 rfl) ?_
  refine lv_bipush (v := 40) hx hb dX10_init_5 (by decide) ?_
  refine va_newa (atype := .int) (a0 := (40, .inl (fun _ => 0))) (N' := 40) (ty := .int) hx hb (htb _ m_63) rfl hK hP hD hS hA (fun _ => rfl) (by decide) (by decide) (Nat.le_of_ble_eq_true rfl) (Nat.le_of_ble_eq_true rfl) (Nat.le_of_ble_eq_true rfl) dX10_init_7 ?_
  clear hP hD hS hK; intro q_1 a_2 H hK hP hD hS
  change va_P (dC, dI) vwCl [(h0, .inr (10, [.null, .null, .null, .null, .null, .null, .null, .null, .int 0])), (q_1, .inl (a_2, 40, .inl (fun _ => 0)))] H at hP
  change va_D A [(h0, .inr (10, [.null, .null, .null, .null, .null, .null, .null, .null, .int 0])), (q_1, .inl (a_2, 40, .inl (fun _ => 0)))] at hD
  change va_K (dC, dI) vwCl [(a_2, .int)] s at hK
  refine W.widen (k := 1) (n := 40) (Nat.le_of_ble_eq_true rfl) (Nat.le_of_ble_eq_true rfl) ?_
  refine va_putF (D := (dC, dI)) (ci := 10) (v := .ref q_1) (C := RX10) (T := TX10) (N := 9) hx hb htb iX10 tyX10 tyX10_ok nmX10 hown hK hP hD hS 0 rfl rfl 0 (Nat.le_of_ble_eq_true rfl) (htb _ m_34) (fun _ h9 => h9) rfl hin rfl (tyX10_ok 0 (Nat.le_of_ble_eq_true rfl)) rfl rfl (Nat.le_of_ble_eq_true rfl) dX10_init_9 ?_
  clear hP hD hS; intro H locs hP hD hS
  change va_P (dC, dI) vwCl [(h0, .inr (10, [.ref q_1, .null, .null, .null, .null, .null, .null, .null, .int 0])), (q_1, .inl (a_2, 40, .inl (fun _ => 0)))] H at hP
  change va_D A [(h0, .inr (10, [.ref q_1, .null, .null, .null, .null, .null, .null, .null, .int 0])), (q_1, .inl (a_2, 40, .inl (fun _ => 0)))] at hD
  refine lv_aload_n hx hb dX10_init_12 rfl (lv_at hl 0 rfl) ?_
  refine lv_bipush (v := 40) hx hb dX10_init_13 (by decide) ?_
  refine va_newa (atype := .int) (a0 := (40, .inl (fun _ => 0))) (N' := 40) (ty := .int) hx hb (htb _ m_63) rfl hK hP hD hS hA (fun _ => rfl) (by decide) (by decide) (Nat.le_of_ble_eq_true rfl) (Nat.le_of_ble_eq_true rfl) (Nat.le_of_ble_eq_true rfl) dX10_init_15 ?_
  clear hP hD hS hK; intro q_3 a_4 H hK hP hD hS
  change va_P (dC, dI) vwCl [(h0, .inr (10, [.ref q_1, .null, .null, .null, .null, .null, .null, .null, .int 0])), (q_1, .inl (a_2, 40, .inl (fun _ => 0))), (q_3, .inl (a_4, 40, .inl (fun _ => 0)))] H at hP
  change va_D A [(h0, .inr (10, [.ref q_1, .null, .null, .null, .null, .null, .null, .null, .int 0])), (q_1, .inl (a_2, 40, .inl (fun _ => 0))), (q_3, .inl (a_4, 40, .inl (fun _ => 0)))] at hD
  change va_K (dC, dI) vwCl [(a_2, .int), (a_4, .int)] s at hK
  refine W.widen (k := 2) (n := 80) (Nat.le_of_ble_eq_true rfl) (Nat.le_of_ble_eq_true rfl) ?_
  refine va_putF (D := (dC, dI)) (ci := 10) (v := .ref q_3) (C := RX10) (T := TX10) (N := 9) hx hb htb iX10 tyX10 tyX10_ok nmX10 hown hK hP hD hS 0 rfl rfl 1 (Nat.le_of_ble_eq_true rfl) (htb _ m_35) (fun _ h9 => h9) rfl hin rfl (tyX10_ok 1 (Nat.le_of_ble_eq_true rfl)) rfl rfl (Nat.le_of_ble_eq_true rfl) dX10_init_17 ?_
  clear hP hD hS; intro H locs hP hD hS
  change va_P (dC, dI) vwCl [(h0, .inr (10, [.ref q_1, .ref q_3, .null, .null, .null, .null, .null, .null, .int 0])), (q_1, .inl (a_2, 40, .inl (fun _ => 0))), (q_3, .inl (a_4, 40, .inl (fun _ => 0)))] H at hP
  change va_D A [(h0, .inr (10, [.ref q_1, .ref q_3, .null, .null, .null, .null, .null, .null, .int 0])), (q_1, .inl (a_2, 40, .inl (fun _ => 0))), (q_3, .inl (a_4, 40, .inl (fun _ => 0)))] at hD
  refine lv_aload_n hx hb dX10_init_20 rfl (lv_at hl 0 rfl) ?_
  refine lv_bipush (v := 40) hx hb dX10_init_21 (by decide) ?_
  refine va_newa (atype := .int) (a0 := (40, .inl (fun _ => 0))) (N' := 40) (ty := .int) hx hb (htb _ m_63) rfl hK hP hD hS hA (fun _ => rfl) (by decide) (by decide) (Nat.le_of_ble_eq_true rfl) (Nat.le_of_ble_eq_true rfl) (Nat.le_of_ble_eq_true rfl) dX10_init_23 ?_
  clear hP hD hS hK; intro q_5 a_6 H hK hP hD hS
  change va_P (dC, dI) vwCl [(h0, .inr (10, [.ref q_1, .ref q_3, .null, .null, .null, .null, .null, .null, .int 0])), (q_1, .inl (a_2, 40, .inl (fun _ => 0))), (q_3, .inl (a_4, 40, .inl (fun _ => 0))), (q_5, .inl (a_6, 40, .inl (fun _ => 0)))] H at hP
  change va_D A [(h0, .inr (10, [.ref q_1, .ref q_3, .null, .null, .null, .null, .null, .null, .int 0])), (q_1, .inl (a_2, 40, .inl (fun _ => 0))), (q_3, .inl (a_4, 40, .inl (fun _ => 0))), (q_5, .inl (a_6, 40, .inl (fun _ => 0)))] at hD
  change va_K (dC, dI) vwCl [(a_2, .int), (a_4, .int), (a_6, .int)] s at hK
  refine W.widen (k := 3) (n := 120) (Nat.le_of_ble_eq_true rfl) (Nat.le_of_ble_eq_true rfl) ?_
  refine va_putF (D := (dC, dI)) (ci := 10) (v := .ref q_5) (C := RX10) (T := TX10) (N := 9) hx hb htb iX10 tyX10 tyX10_ok nmX10 hown hK hP hD hS 0 rfl rfl 2 (Nat.le_of_ble_eq_true rfl) (htb _ m_36) (fun _ h9 => h9) rfl hin rfl (tyX10_ok 2 (Nat.le_of_ble_eq_true rfl)) rfl rfl (Nat.le_of_ble_eq_true rfl) dX10_init_25 ?_
  clear hP hD hS; intro H locs hP hD hS
  change va_P (dC, dI) vwCl [(h0, .inr (10, [.ref q_1, .ref q_3, .ref q_5, .null, .null, .null, .null, .null, .int 0])), (q_1, .inl (a_2, 40, .inl (fun _ => 0))), (q_3, .inl (a_4, 40, .inl (fun _ => 0))), (q_5, .inl (a_6, 40, .inl (fun _ => 0)))] H at hP
  change va_D A [(h0, .inr (10, [.ref q_1, .ref q_3, .ref q_5, .null, .null, .null, .null, .null, .int 0])), (q_1, .inl (a_2, 40, .inl (fun _ => 0))), (q_3, .inl (a_4, 40, .inl (fun _ => 0))), (q_5, .inl (a_6, 40, .inl (fun _ => 0)))] at hD
  refine lv_aload_n hx hb dX10_init_28 rfl (lv_at hl 0 rfl) ?_
  refine lv_bipush (v := 40) hx hb dX10_init_29 (by decide) ?_
  refine va_newa (atype := .int) (a0 := (40, .inl (fun _ => 0))) (N' := 40) (ty := .int) hx hb (htb _ m_63) rfl hK hP hD hS hA (fun _ => rfl) (by decide) (by decide) (Nat.le_of_ble_eq_true rfl) (Nat.le_of_ble_eq_true rfl) (Nat.le_of_ble_eq_true rfl) dX10_init_31 ?_
  clear hP hD hS hK; intro q_7 a_8 H hK hP hD hS
  change va_P (dC, dI) vwCl [(h0, .inr (10, [.ref q_1, .ref q_3, .ref q_5, .null, .null, .null, .null, .null, .int 0])), (q_1, .inl (a_2, 40, .inl (fun _ => 0))), (q_3, .inl (a_4, 40, .inl (fun _ => 0))), (q_5, .inl (a_6, 40, .inl (fun _ => 0))), (q_7, .inl (a_8, 40, .inl (fun _ => 0)))] H at hP
  change va_D A [(h0, .inr (10, [.ref q_1, .ref q_3, .ref q_5, .null, .null, .null, .null, .null, .int 0])), (q_1, .inl (a_2, 40, .inl (fun _ => 0))), (q_3, .inl (a_4, 40, .inl (fun _ => 0))), (q_5, .inl (a_6, 40, .inl (fun _ => 0))), (q_7, .inl (a_8, 40, .inl (fun _ => 0)))] at hD
  change va_K (dC, dI) vwCl [(a_2, .int), (a_4, .int), (a_6, .int), (a_8, .int)] s at hK
  refine W.widen (k := 4) (n := 160) (Nat.le_of_ble_eq_true rfl) (Nat.le_of_ble_eq_true rfl) ?_
  refine va_putF (D := (dC, dI)) (ci := 10) (v := .ref q_7) (C := RX10) (T := TX10) (N := 9) hx hb htb iX10 tyX10 tyX10_ok nmX10 hown hK hP hD hS 0 rfl rfl 3 (Nat.le_of_ble_eq_true rfl) (htb _ m_37) (fun _ h9 => h9) rfl hin rfl (tyX10_ok 3 (Nat.le_of_ble_eq_true rfl)) rfl rfl (Nat.le_of_ble_eq_true rfl) dX10_init_33 ?_
  clear hP hD hS; intro H locs hP hD hS
  change va_P (dC, dI) vwCl [(h0, .inr (10, [.ref q_1, .ref q_3, .ref q_5, .ref q_7, .null, .null, .null, .null, .int 0])), (q_1, .inl (a_2, 40, .inl (fun _ => 0))), (q_3, .inl (a_4, 40, .inl (fun _ => 0))), (q_5, .inl (a_6, 40, .inl (fun _ => 0))), (q_7, .inl (a_8, 40, .inl (fun _ => 0)))] H at hP
  change va_D A [(h0, .inr (10, [.ref q_1, .ref q_3, .ref q_5, .ref q_7, .null, .null, .null, .null, .int 0])), (q_1, .inl (a_2, 40, .inl (fun _ => 0))), (q_3, .inl (a_4, 40, .inl (fun _ => 0))), (q_5, .inl (a_6, 40, .inl (fun _ => 0))), (q_7, .inl (a_8, 40, .inl (fun _ => 0)))] at hD
  refine lv_aload_n hx hb dX10_init_36 rfl (lv_at hl 0 rfl) ?_
  refine lv_bipush (v := 40) hx hb dX10_init_37 (by decide) ?_
  refine va_newa (atype := .boolean) (a0 := (40, .inl (fun _ => 0))) (N' := 40) (ty := .boolean) hx hb (htb _ m_64) rfl hK hP hD hS hA (fun _ => rfl) (by decide) (by decide) (Nat.le_of_ble_eq_true rfl) (Nat.le_of_ble_eq_true rfl) (Nat.le_of_ble_eq_true rfl) dX10_init_39 ?_
  clear hP hD hS hK; intro q_9 a_10 H hK hP hD hS
  change va_P (dC, dI) vwCl [(h0, .inr (10, [.ref q_1, .ref q_3, .ref q_5, .ref q_7, .null, .null, .null, .null, .int 0])), (q_1, .inl (a_2, 40, .inl (fun _ => 0))), (q_3, .inl (a_4, 40, .inl (fun _ => 0))), (q_5, .inl (a_6, 40, .inl (fun _ => 0))), (q_7, .inl (a_8, 40, .inl (fun _ => 0))), (q_9, .inl (a_10, 40, .inl (fun _ => 0)))] H at hP
  change va_D A [(h0, .inr (10, [.ref q_1, .ref q_3, .ref q_5, .ref q_7, .null, .null, .null, .null, .int 0])), (q_1, .inl (a_2, 40, .inl (fun _ => 0))), (q_3, .inl (a_4, 40, .inl (fun _ => 0))), (q_5, .inl (a_6, 40, .inl (fun _ => 0))), (q_7, .inl (a_8, 40, .inl (fun _ => 0))), (q_9, .inl (a_10, 40, .inl (fun _ => 0)))] at hD
  change va_K (dC, dI) vwCl [(a_2, .int), (a_4, .int), (a_6, .int), (a_8, .int), (a_10, .boolean)] s at hK
  refine W.widen (k := 5) (n := 200) (Nat.le_of_ble_eq_true rfl) (Nat.le_of_ble_eq_true rfl) ?_
  refine va_putF (D := (dC, dI)) (ci := 10) (v := .ref q_9) (C := RX10) (T := TX10) (N := 9) hx hb htb iX10 tyX10 tyX10_ok nmX10 hown hK hP hD hS 0 rfl rfl 4 (Nat.le_of_ble_eq_true rfl) (htb _ m_38) (fun _ h9 => h9) rfl hin rfl (tyX10_ok 4 (Nat.le_of_ble_eq_true rfl)) rfl rfl (Nat.le_of_ble_eq_true rfl) dX10_init_41 ?_
  clear hP hD hS; intro H locs hP hD hS
  change va_P (dC, dI) vwCl [(h0, .inr (10, [.ref q_1, .ref q_3, .ref q_5, .ref q_7, .ref q_9, .null, .null, .null, .int 0])), (q_1, .inl (a_2, 40, .inl (fun _ => 0))), (q_3, .inl (a_4, 40, .inl (fun _ => 0))), (q_5, .inl (a_6, 40, .inl (fun _ => 0))), (q_7, .inl (a_8, 40, .inl (fun _ => 0))), (q_9, .inl (a_10, 40, .inl (fun _ => 0)))] H at hP
  change va_D A [(h0, .inr (10, [.ref q_1, .ref q_3, .ref q_5, .ref q_7, .ref q_9, .null, .null, .null, .int 0])), (q_1, .inl (a_2, 40, .inl (fun _ => 0))), (q_3, .inl (a_4, 40, .inl (fun _ => 0))), (q_5, .inl (a_6, 40, .inl (fun _ => 0))), (q_7, .inl (a_8, 40, .inl (fun _ => 0))), (q_9, .inl (a_10, 40, .inl (fun _ => 0)))] at hD
  refine lv_aload_n hx hb dX10_init_44 rfl (lv_at hl 0 rfl) ?_
  refine lv_bipush (v := 40) hx hb dX10_init_45 (by decide) ?_
  refine va_newa (atype := .int) (a0 := (40, .inl (fun _ => 0))) (N' := 40) (ty := .int) hx hb (htb _ m_63) rfl hK hP hD hS hA (fun _ => rfl) (by decide) (by decide) (Nat.le_of_ble_eq_true rfl) (Nat.le_of_ble_eq_true rfl) (Nat.le_of_ble_eq_true rfl) dX10_init_47 ?_
  clear hP hD hS hK; intro q_11 a_12 H hK hP hD hS
  change va_P (dC, dI) vwCl [(h0, .inr (10, [.ref q_1, .ref q_3, .ref q_5, .ref q_7, .ref q_9, .null, .null, .null, .int 0])), (q_1, .inl (a_2, 40, .inl (fun _ => 0))), (q_3, .inl (a_4, 40, .inl (fun _ => 0))), (q_5, .inl (a_6, 40, .inl (fun _ => 0))), (q_7, .inl (a_8, 40, .inl (fun _ => 0))), (q_9, .inl (a_10, 40, .inl (fun _ => 0))), (q_11, .inl (a_12, 40, .inl (fun _ => 0)))] H at hP
  change va_D A [(h0, .inr (10, [.ref q_1, .ref q_3, .ref q_5, .ref q_7, .ref q_9, .null, .null, .null, .int 0])), (q_1, .inl (a_2, 40, .inl (fun _ => 0))), (q_3, .inl (a_4, 40, .inl (fun _ => 0))), (q_5, .inl (a_6, 40, .inl (fun _ => 0))), (q_7, .inl (a_8, 40, .inl (fun _ => 0))), (q_9, .inl (a_10, 40, .inl (fun _ => 0))), (q_11, .inl (a_12, 40, .inl (fun _ => 0)))] at hD
  change va_K (dC, dI) vwCl [(a_2, .int), (a_4, .int), (a_6, .int), (a_8, .int), (a_10, .boolean), (a_12, .int)] s at hK
  refine W.widen (k := 6) (n := 240) (Nat.le_of_ble_eq_true rfl) (Nat.le_of_ble_eq_true rfl) ?_
  refine va_putF (D := (dC, dI)) (ci := 10) (v := .ref q_11) (C := RX10) (T := TX10) (N := 9) hx hb htb iX10 tyX10 tyX10_ok nmX10 hown hK hP hD hS 0 rfl rfl 5 (Nat.le_of_ble_eq_true rfl) (htb _ m_39) (fun _ h9 => h9) rfl hin rfl (tyX10_ok 5 (Nat.le_of_ble_eq_true rfl)) rfl rfl (Nat.le_of_ble_eq_true rfl) dX10_init_49 ?_
  clear hP hD hS; intro H locs hP hD hS
  change va_P (dC, dI) vwCl [(h0, .inr (10, [.ref q_1, .ref q_3, .ref q_5, .ref q_7, .ref q_9, .ref q_11, .null, .null, .int 0])), (q_1, .inl (a_2, 40, .inl (fun _ => 0))), (q_3, .inl (a_4, 40, .inl (fun _ => 0))), (q_5, .inl (a_6, 40, .inl (fun _ => 0))), (q_7, .inl (a_8, 40, .inl (fun _ => 0))), (q_9, .inl (a_10, 40, .inl (fun _ => 0))), (q_11, .inl (a_12, 40, .inl (fun _ => 0)))] H at hP
  change va_D A [(h0, .inr (10, [.ref q_1, .ref q_3, .ref q_5, .ref q_7, .ref q_9, .ref q_11, .null, .null, .int 0])), (q_1, .inl (a_2, 40, .inl (fun _ => 0))), (q_3, .inl (a_4, 40, .inl (fun _ => 0))), (q_5, .inl (a_6, 40, .inl (fun _ => 0))), (q_7, .inl (a_8, 40, .inl (fun _ => 0))), (q_9, .inl (a_10, 40, .inl (fun _ => 0))), (q_11, .inl (a_12, 40, .inl (fun _ => 0)))] at hD
  refine lv_aload_n hx hb dX10_init_52 rfl (lv_at hl 0 rfl) ?_
  refine lv_bipush (v := 40) hx hb dX10_init_53 (by decide) ?_
  refine va_newa (atype := .int) (a0 := (40, .inl (fun _ => 0))) (N' := 40) (ty := .int) hx hb (htb _ m_63) rfl hK hP hD hS hA (fun _ => rfl) (by decide) (by decide) (Nat.le_of_ble_eq_true rfl) (Nat.le_of_ble_eq_true rfl) (Nat.le_of_ble_eq_true rfl) dX10_init_55 ?_
  clear hP hD hS hK; intro q_13 a_14 H hK hP hD hS
  change va_P (dC, dI) vwCl [(h0, .inr (10, [.ref q_1, .ref q_3, .ref q_5, .ref q_7, .ref q_9, .ref q_11, .null, .null, .int 0])), (q_1, .inl (a_2, 40, .inl (fun _ => 0))), (q_3, .inl (a_4, 40, .inl (fun _ => 0))), (q_5, .inl (a_6, 40, .inl (fun _ => 0))), (q_7, .inl (a_8, 40, .inl (fun _ => 0))), (q_9, .inl (a_10, 40, .inl (fun _ => 0))), (q_11, .inl (a_12, 40, .inl (fun _ => 0))), (q_13, .inl (a_14, 40, .inl (fun _ => 0)))] H at hP
  change va_D A [(h0, .inr (10, [.ref q_1, .ref q_3, .ref q_5, .ref q_7, .ref q_9, .ref q_11, .null, .null, .int 0])), (q_1, .inl (a_2, 40, .inl (fun _ => 0))), (q_3, .inl (a_4, 40, .inl (fun _ => 0))), (q_5, .inl (a_6, 40, .inl (fun _ => 0))), (q_7, .inl (a_8, 40, .inl (fun _ => 0))), (q_9, .inl (a_10, 40, .inl (fun _ => 0))), (q_11, .inl (a_12, 40, .inl (fun _ => 0))), (q_13, .inl (a_14, 40, .inl (fun _ => 0)))] at hD
  change va_K (dC, dI) vwCl [(a_2, .int), (a_4, .int), (a_6, .int), (a_8, .int), (a_10, .boolean), (a_12, .int), (a_14, .int)] s at hK
  refine W.widen (k := 7) (n := 280) (Nat.le_of_ble_eq_true rfl) (Nat.le_of_ble_eq_true rfl) ?_
  refine va_putF (D := (dC, dI)) (ci := 10) (v := .ref q_13) (C := RX10) (T := TX10) (N := 9) hx hb htb iX10 tyX10 tyX10_ok nmX10 hown hK hP hD hS 0 rfl rfl 6 (Nat.le_of_ble_eq_true rfl) (htb _ m_40) (fun _ h9 => h9) rfl hin rfl (tyX10_ok 6 (Nat.le_of_ble_eq_true rfl)) rfl rfl (Nat.le_of_ble_eq_true rfl) dX10_init_57 ?_
  clear hP hD hS; intro H locs hP hD hS
  change va_P (dC, dI) vwCl [(h0, .inr (10, [.ref q_1, .ref q_3, .ref q_5, .ref q_7, .ref q_9, .ref q_11, .ref q_13, .null, .int 0])), (q_1, .inl (a_2, 40, .inl (fun _ => 0))), (q_3, .inl (a_4, 40, .inl (fun _ => 0))), (q_5, .inl (a_6, 40, .inl (fun _ => 0))), (q_7, .inl (a_8, 40, .inl (fun _ => 0))), (q_9, .inl (a_10, 40, .inl (fun _ => 0))), (q_11, .inl (a_12, 40, .inl (fun _ => 0))), (q_13, .inl (a_14, 40, .inl (fun _ => 0)))] H at hP
  change va_D A [(h0, .inr (10, [.ref q_1, .ref q_3, .ref q_5, .ref q_7, .ref q_9, .ref q_11, .ref q_13, .null, .int 0])), (q_1, .inl (a_2, 40, .inl (fun _ => 0))), (q_3, .inl (a_4, 40, .inl (fun _ => 0))), (q_5, .inl (a_6, 40, .inl (fun _ => 0))), (q_7, .inl (a_8, 40, .inl (fun _ => 0))), (q_9, .inl (a_10, 40, .inl (fun _ => 0))), (q_11, .inl (a_12, 40, .inl (fun _ => 0))), (q_13, .inl (a_14, 40, .inl (fun _ => 0)))] at hD
  refine lv_aload_n hx hb dX10_init_60 rfl (lv_at hl 0 rfl) ?_
  refine lv_bipush (v := 40) hx hb dX10_init_61 (by decide) ?_
  refine va_newa (atype := .int) (a0 := (40, .inl (fun _ => 0))) (N' := 40) (ty := .int) hx hb (htb _ m_63) rfl hK hP hD hS hA (fun _ => rfl) (by decide) (by decide) (Nat.le_of_ble_eq_true rfl) (Nat.le_of_ble_eq_true rfl) (Nat.le_of_ble_eq_true rfl) dX10_init_63 ?_
  clear hP hD hS hK; intro q_15 a_16 H hK hP hD hS
  change va_P (dC, dI) vwCl [(h0, .inr (10, [.ref q_1, .ref q_3, .ref q_5, .ref q_7, .ref q_9, .ref q_11, .ref q_13, .null, .int 0])), (q_1, .inl (a_2, 40, .inl (fun _ => 0))), (q_3, .inl (a_4, 40, .inl (fun _ => 0))), (q_5, .inl (a_6, 40, .inl (fun _ => 0))), (q_7, .inl (a_8, 40, .inl (fun _ => 0))), (q_9, .inl (a_10, 40, .inl (fun _ => 0))), (q_11, .inl (a_12, 40, .inl (fun _ => 0))), (q_13, .inl (a_14, 40, .inl (fun _ => 0))), (q_15, .inl (a_16, 40, .inl (fun _ => 0)))] H at hP
  change va_D A [(h0, .inr (10, [.ref q_1, .ref q_3, .ref q_5, .ref q_7, .ref q_9, .ref q_11, .ref q_13, .null, .int 0])), (q_1, .inl (a_2, 40, .inl (fun _ => 0))), (q_3, .inl (a_4, 40, .inl (fun _ => 0))), (q_5, .inl (a_6, 40, .inl (fun _ => 0))), (q_7, .inl (a_8, 40, .inl (fun _ => 0))), (q_9, .inl (a_10, 40, .inl (fun _ => 0))), (q_11, .inl (a_12, 40, .inl (fun _ => 0))), (q_13, .inl (a_14, 40, .inl (fun _ => 0))), (q_15, .inl (a_16, 40, .inl (fun _ => 0)))] at hD
  change va_K (dC, dI) vwCl [(a_2, .int), (a_4, .int), (a_6, .int), (a_8, .int), (a_10, .boolean), (a_12, .int), (a_14, .int), (a_16, .int)] s at hK
  refine W.widen (k := 8) (n := 320) (Nat.le_of_ble_eq_true rfl) (Nat.le_of_ble_eq_true rfl) ?_
  refine va_putF (D := (dC, dI)) (ci := 10) (v := .ref q_15) (C := RX10) (T := TX10) (N := 9) hx hb htb iX10 tyX10 tyX10_ok nmX10 hown hK hP hD hS 0 rfl rfl 7 (Nat.le_of_ble_eq_true rfl) (htb _ m_41) (fun _ h9 => h9) rfl hin rfl (tyX10_ok 7 (Nat.le_of_ble_eq_true rfl)) rfl rfl (Nat.le_of_ble_eq_true rfl) dX10_init_65 ?_
  clear hP hD hS; intro H locs hP hD hS
  change va_P (dC, dI) vwCl [(h0, .inr (10, [.ref q_1, .ref q_3, .ref q_5, .ref q_7, .ref q_9, .ref q_11, .ref q_13, .ref q_15, .int 0])), (q_1, .inl (a_2, 40, .inl (fun _ => 0))), (q_3, .inl (a_4, 40, .inl (fun _ => 0))), (q_5, .inl (a_6, 40, .inl (fun _ => 0))), (q_7, .inl (a_8, 40, .inl (fun _ => 0))), (q_9, .inl (a_10, 40, .inl (fun _ => 0))), (q_11, .inl (a_12, 40, .inl (fun _ => 0))), (q_13, .inl (a_14, 40, .inl (fun _ => 0))), (q_15, .inl (a_16, 40, .inl (fun _ => 0)))] H at hP
  change va_D A [(h0, .inr (10, [.ref q_1, .ref q_3, .ref q_5, .ref q_7, .ref q_9, .ref q_11, .ref q_13, .ref q_15, .int 0])), (q_1, .inl (a_2, 40, .inl (fun _ => 0))), (q_3, .inl (a_4, 40, .inl (fun _ => 0))), (q_5, .inl (a_6, 40, .inl (fun _ => 0))), (q_7, .inl (a_8, 40, .inl (fun _ => 0))), (q_9, .inl (a_10, 40, .inl (fun _ => 0))), (q_11, .inl (a_12, 40, .inl (fun _ => 0))), (q_13, .inl (a_14, 40, .inl (fun _ => 0))), (q_15, .inl (a_16, 40, .inl (fun _ => 0)))] at hD
  refine lv_aload_n hx hb dX10_init_68 rfl (lv_at hl 0 rfl) ?_
  refine lv_iconst (v := 1) hx hb dX10_init_69 (by decide) ?_
  refine va_put (D := (dC, dI)) (ci := 10) (v := .int 1) (C := RX10) (T := TX10) (N := 9) hx hb htb iX10 tyX10 tyX10_ok nmX10 hown hK hP hD hS 0 rfl rfl 8 (Nat.le_of_ble_eq_true rfl) (htb _ m_42) (fun _ h9 => h9) rfl (tyX10_ok 8 (Nat.le_of_ble_eq_true rfl)) rfl rfl (Nat.le_of_ble_eq_true rfl) dX10_init_70 ?_
  clear hP hD hS; intro H locs hP hD hS
  change va_P (dC, dI) vwCl [(h0, .inr (10, [.ref q_1, .ref q_3, .ref q_5, .ref q_7, .ref q_9, .ref q_11, .ref q_13, .ref q_15, .int 1])), (q_1, .inl (a_2, 40, .inl (fun _ => 0))), (q_3, .inl (a_4, 40, .inl (fun _ => 0))), (q_5, .inl (a_6, 40, .inl (fun _ => 0))), (q_7, .inl (a_8, 40, .inl (fun _ => 0))), (q_9, .inl (a_10, 40, .inl (fun _ => 0))), (q_11, .inl (a_12, 40, .inl (fun _ => 0))), (q_13, .inl (a_14, 40, .inl (fun _ => 0))), (q_15, .inl (a_16, 40, .inl (fun _ => 0)))] H at hP
  change va_D A [(h0, .inr (10, [.ref q_1, .ref q_3, .ref q_5, .ref q_7, .ref q_9, .ref q_11, .ref q_13, .ref q_15, .int 1])), (q_1, .inl (a_2, 40, .inl (fun _ => 0))), (q_3, .inl (a_4, 40, .inl (fun _ => 0))), (q_5, .inl (a_6, 40, .inl (fun _ => 0))), (q_7, .inl (a_8, 40, .inl (fun _ => 0))), (q_9, .inl (a_10, 40, .inl (fun _ => 0))), (q_11, .inl (a_12, 40, .inl (fun _ => 0))), (q_13, .inl (a_14, 40, .inl (fun _ => 0))), (q_15, .inl (a_16, 40, .inl (fun _ => 0)))] at hD
  refine lv_aload_n hx hb dX10_init_73 rfl (lv_at hl 0 rfl) ?_
  refine va_get (D := (dC, dI)) (ci := 10) (v := .ref q_1) (C := RX10) (T := TX10) (N := 9) hx hb htb iX10 hown hK hP 0 rfl rfl 0 (Nat.le_of_ble_eq_true rfl) (htb _ m_34) (fun _ h9 => h9) rfl dX10_init_74 ?_
  refine lv_iconst (v := 0) hx hb dX10_init_77 (by decide) ?_
  refine lv_iconst (v := (-1)) hx hb dX10_init_78 (by decide) ?_
  refine va_iast hx hb hK hP hD hS 1 0 rfl rfl (by unfold vp_in; decide) dX10_init_79 ?_
  clear hP hD hS; intro H locs hP hD hS
  change va_P (dC, dI) vwCl [(h0, .inr (10, [.ref q_1, .ref q_3, .ref q_5, .ref q_7, .ref q_9, .ref q_11, .ref q_13, .ref q_15, .int 1])), (q_1, .inl (a_2, 40, .inl (upd (fun _ => 0) (Int32.toNatClampNeg 0) (-1)))), (q_3, .inl (a_4, 40, .inl (fun _ => 0))), (q_5, .inl (a_6, 40, .inl (fun _ => 0))), (q_7, .inl (a_8, 40, .inl (fun _ => 0))), (q_9, .inl (a_10, 40, .inl (fun _ => 0))), (q_11, .inl (a_12, 40, .inl (fun _ => 0))), (q_13, .inl (a_14, 40, .inl (fun _ => 0))), (q_15, .inl (a_16, 40, .inl (fun _ => 0)))] H at hP
  change va_D A [(h0, .inr (10, [.ref q_1, .ref q_3, .ref q_5, .ref q_7, .ref q_9, .ref q_11, .ref q_13, .ref q_15, .int 1])), (q_1, .inl (a_2, 40, .inl (upd (fun _ => 0) (Int32.toNatClampNeg 0) (-1)))), (q_3, .inl (a_4, 40, .inl (fun _ => 0))), (q_5, .inl (a_6, 40, .inl (fun _ => 0))), (q_7, .inl (a_8, 40, .inl (fun _ => 0))), (q_9, .inl (a_10, 40, .inl (fun _ => 0))), (q_11, .inl (a_12, 40, .inl (fun _ => 0))), (q_13, .inl (a_14, 40, .inl (fun _ => 0))), (q_15, .inl (a_16, 40, .inl (fun _ => 0)))] at hD
  refine lv_aload_n hx hb dX10_init_80 rfl (lv_at hl 0 rfl) ?_
  refine va_get (D := (dC, dI)) (ci := 10) (v := .ref q_5) (C := RX10) (T := TX10) (N := 9) hx hb htb iX10 hown hK hP 0 rfl rfl 2 (Nat.le_of_ble_eq_true rfl) (htb _ m_36) (fun _ h9 => h9) rfl dX10_init_81 ?_
  refine lv_iconst (v := 0) hx hb dX10_init_84 (by decide) ?_
  refine lv_iconst (v := (-1)) hx hb dX10_init_85 (by decide) ?_
  refine va_iast hx hb hK hP hD hS 3 2 rfl rfl (by unfold vp_in; decide) dX10_init_86 ?_
  clear hP hD hS; intro H locs hP hD hS
  change va_P (dC, dI) vwCl [(h0, .inr (10, [.ref q_1, .ref q_3, .ref q_5, .ref q_7, .ref q_9, .ref q_11, .ref q_13, .ref q_15, .int 1])), (q_1, .inl (a_2, 40, .inl (upd (fun _ => 0) (Int32.toNatClampNeg 0) (-1)))), (q_3, .inl (a_4, 40, .inl (fun _ => 0))), (q_5, .inl (a_6, 40, .inl (upd (fun _ => 0) (Int32.toNatClampNeg 0) (-1)))), (q_7, .inl (a_8, 40, .inl (fun _ => 0))), (q_9, .inl (a_10, 40, .inl (fun _ => 0))), (q_11, .inl (a_12, 40, .inl (fun _ => 0))), (q_13, .inl (a_14, 40, .inl (fun _ => 0))), (q_15, .inl (a_16, 40, .inl (fun _ => 0)))] H at hP
  change va_D A [(h0, .inr (10, [.ref q_1, .ref q_3, .ref q_5, .ref q_7, .ref q_9, .ref q_11, .ref q_13, .ref q_15, .int 1])), (q_1, .inl (a_2, 40, .inl (upd (fun _ => 0) (Int32.toNatClampNeg 0) (-1)))), (q_3, .inl (a_4, 40, .inl (fun _ => 0))), (q_5, .inl (a_6, 40, .inl (upd (fun _ => 0) (Int32.toNatClampNeg 0) (-1)))), (q_7, .inl (a_8, 40, .inl (fun _ => 0))), (q_9, .inl (a_10, 40, .inl (fun _ => 0))), (q_11, .inl (a_12, 40, .inl (fun _ => 0))), (q_13, .inl (a_14, 40, .inl (fun _ => 0))), (q_15, .inl (a_16, 40, .inl (fun _ => 0)))] at hD
  refine lv_aload_n hx hb dX10_init_87 rfl (lv_at hl 0 rfl) ?_
  refine va_get (D := (dC, dI)) (ci := 10) (v := .ref q_15) (C := RX10) (T := TX10) (N := 9) hx hb htb iX10 hown hK hP 0 rfl rfl 7 (Nat.le_of_ble_eq_true rfl) (htb _ m_41) (fun _ h9 => h9) rfl dX10_init_88 ?_
  refine lv_iconst (v := 0) hx hb dX10_init_91 (by decide) ?_
  refine lv_iconst (v := (-1)) hx hb dX10_init_92 (by decide) ?_
  refine va_iast hx hb hK hP hD hS 8 7 rfl rfl (by unfold vp_in; decide) dX10_init_93 ?_
  clear hP hD hS; intro H locs hP hD hS
  change va_P (dC, dI) vwCl [(h0, .inr (10, [.ref q_1, .ref q_3, .ref q_5, .ref q_7, .ref q_9, .ref q_11, .ref q_13, .ref q_15, .int 1])), (q_1, .inl (a_2, 40, .inl (upd (fun _ => 0) (Int32.toNatClampNeg 0) (-1)))), (q_3, .inl (a_4, 40, .inl (fun _ => 0))), (q_5, .inl (a_6, 40, .inl (upd (fun _ => 0) (Int32.toNatClampNeg 0) (-1)))), (q_7, .inl (a_8, 40, .inl (fun _ => 0))), (q_9, .inl (a_10, 40, .inl (fun _ => 0))), (q_11, .inl (a_12, 40, .inl (fun _ => 0))), (q_13, .inl (a_14, 40, .inl (fun _ => 0))), (q_15, .inl (a_16, 40, .inl (upd (fun _ => 0) (Int32.toNatClampNeg 0) (-1))))] H at hP
  change va_D A [(h0, .inr (10, [.ref q_1, .ref q_3, .ref q_5, .ref q_7, .ref q_9, .ref q_11, .ref q_13, .ref q_15, .int 1])), (q_1, .inl (a_2, 40, .inl (upd (fun _ => 0) (Int32.toNatClampNeg 0) (-1)))), (q_3, .inl (a_4, 40, .inl (fun _ => 0))), (q_5, .inl (a_6, 40, .inl (upd (fun _ => 0) (Int32.toNatClampNeg 0) (-1)))), (q_7, .inl (a_8, 40, .inl (fun _ => 0))), (q_9, .inl (a_10, 40, .inl (fun _ => 0))), (q_11, .inl (a_12, 40, .inl (fun _ => 0))), (q_13, .inl (a_14, 40, .inl (fun _ => 0))), (q_15, .inl (a_16, 40, .inl (upd (fun _ => 0) (Int32.toNatClampNeg 0) (-1))))] at hD
  refine lv_aload_n hx hb dX10_init_94 rfl (lv_at hl 0 rfl) ?_
  refine va_get (D := (dC, dI)) (ci := 10) (v := .ref q_9) (C := RX10) (T := TX10) (N := 9) hx hb htb iX10 hown hK hP 0 rfl rfl 4 (Nat.le_of_ble_eq_true rfl) (htb _ m_38) (fun _ h9 => h9) rfl dX10_init_95 ?_
  refine lv_iconst (v := 0) hx hb dX10_init_98 (by decide) ?_
  refine lv_iconst (v := 1) hx hb dX10_init_99 (by decide) ?_
  refine va_zast hx hb hK hP hD hS 5 4 rfl rfl (by unfold vp_in; decide) dX10_init_100 ?_
  clear hP hD hS; intro H locs hP hD hS
  change va_P (dC, dI) vwCl [(h0, .inr (10, [.ref q_1, .ref q_3, .ref q_5, .ref q_7, .ref q_9, .ref q_11, .ref q_13, .ref q_15, .int 1])), (q_1, .inl (a_2, 40, .inl (upd (fun _ => 0) (Int32.toNatClampNeg 0) (-1)))), (q_3, .inl (a_4, 40, .inl (fun _ => 0))), (q_5, .inl (a_6, 40, .inl (upd (fun _ => 0) (Int32.toNatClampNeg 0) (-1)))), (q_7, .inl (a_8, 40, .inl (fun _ => 0))), (q_9, .inl (a_10, 40, .inl (upd (fun _ => 0) (Int32.toNatClampNeg 0) (vp_nar .boolean 1)))), (q_11, .inl (a_12, 40, .inl (fun _ => 0))), (q_13, .inl (a_14, 40, .inl (fun _ => 0))), (q_15, .inl (a_16, 40, .inl (upd (fun _ => 0) (Int32.toNatClampNeg 0) (-1))))] H at hP
  change va_D A [(h0, .inr (10, [.ref q_1, .ref q_3, .ref q_5, .ref q_7, .ref q_9, .ref q_11, .ref q_13, .ref q_15, .int 1])), (q_1, .inl (a_2, 40, .inl (upd (fun _ => 0) (Int32.toNatClampNeg 0) (-1)))), (q_3, .inl (a_4, 40, .inl (fun _ => 0))), (q_5, .inl (a_6, 40, .inl (upd (fun _ => 0) (Int32.toNatClampNeg 0) (-1)))), (q_7, .inl (a_8, 40, .inl (fun _ => 0))), (q_9, .inl (a_10, 40, .inl (upd (fun _ => 0) (Int32.toNatClampNeg 0) (vp_nar .boolean 1)))), (q_11, .inl (a_12, 40, .inl (fun _ => 0))), (q_13, .inl (a_14, 40, .inl (fun _ => 0))), (q_15, .inl (a_16, 40, .inl (upd (fun _ => 0) (Int32.toNatClampNeg 0) (-1))))] at hD
  refine W.widen (k := 8) (n := 320) (Nat.le_of_ble_eq_true rfl) (Nat.le_of_ble_eq_true rfl) ?_
  have hP9 := hP.sub (ws' := [(h0, .inr (10, [.ref q_1, .ref q_3, .ref q_5, .ref q_7, .ref q_9, .ref q_11, .ref q_13, .ref q_15, .int 1])), (q_1, .inl (a_2, 40, .inl (upd (fun _ => 0) (Int32.toNatClampNeg 0) (-1)))), (q_3, .inl (a_4, 40, .inl (fun _ => 0))), (q_5, .inl (a_6, 40, .inl (upd (fun _ => 0) (Int32.toNatClampNeg 0) (-1)))), (q_7, .inl (a_8, 40, .inl (fun _ => 0))), (q_9, .inl (a_10, 40, .inl (upd (fun _ => 0) (Int32.toNatClampNeg 0) (vp_nar .boolean 1)))), (q_13, .inl (a_14, 40, .inl (fun _ => 0))), (q_15, .inl (a_16, 40, .inl (upd (fun _ => 0) (Int32.toNatClampNeg 0) (-1))))]) [0, 1, 2, 3, 4, 5, 7, 8] rfl
  have hD9 := hD.sub (ws' := [(h0, .inr (10, [.ref q_1, .ref q_3, .ref q_5, .ref q_7, .ref q_9, .ref q_11, .ref q_13, .ref q_15, .int 1])), (q_1, .inl (a_2, 40, .inl (upd (fun _ => 0) (Int32.toNatClampNeg 0) (-1)))), (q_3, .inl (a_4, 40, .inl (fun _ => 0))), (q_5, .inl (a_6, 40, .inl (upd (fun _ => 0) (Int32.toNatClampNeg 0) (-1)))), (q_7, .inl (a_8, 40, .inl (fun _ => 0))), (q_9, .inl (a_10, 40, .inl (upd (fun _ => 0) (Int32.toNatClampNeg 0) (vp_nar .boolean 1)))), (q_13, .inl (a_14, 40, .inl (fun _ => 0))), (q_15, .inl (a_16, 40, .inl (upd (fun _ => 0) (Int32.toNatClampNeg 0) (-1))))]) [0, 1, 2, 3, 4, 5, 7, 8] (by decide) rfl
  have hK9 := hK.sub (tys' := [(a_2, .int), (a_4, .int), (a_6, .int), (a_8, .int), (a_10, .boolean), (a_14, .int), (a_16, .int)]) [0, 1, 2, 3, 4, 6, 7] rfl
  exact W.vret hx hb hr (fun t ht hW => ⟨⟨(), rfl, trivial, ⟨q_1, q_3, q_5, q_7, q_9, q_11, q_13, q_15, a_2, a_4, a_6, a_8, a_10, a_14, a_16, (upd (fun _ => 0) (Int32.toNatClampNeg 0) (-1)), (upd (fun _ => 0) (Int32.toNatClampNeg 0) (-1)), (upd (fun _ => 0) (Int32.toNatClampNeg 0) (vp_nar .boolean 1)), (upd (fun _ => 0) (Int32.toNatClampNeg 0) (-1)), (by first | rfl | decide | simp [upd]), (by first | rfl | decide | simp [upd]), (by first | rfl | decide | simp [upd]), (by first | rfl | decide | simp [upd]), by rw [ht]; exact hP9, va_K.moved hW.alike hK9, hD9⟩⟩, hS.F ht⟩) hS.2.2 dX10_init_101

theorem lf_X10_has_0 (v1 : Int32) (c_1 : v1 < 0) : ¬ v1 = 0 := by
  first | assumption | grind | (simp [Int32.lt_iff_toInt_lt, Int32.le_iff_toInt_le, ← Int32.toInt_inj] at *; omega)
theorem lf_X10_has_1 (v1 : Int32) (c_1 : ¬ v1 < 0) (c_2 : 1 ≤ v1) : ¬ v1 = 0 := by
  first | assumption | grind | (simp [Int32.lt_iff_toInt_lt, Int32.le_iff_toInt_le, ← Int32.toInt_inj] at *; omega)
theorem lf_X10_has_2 (v1 : Int32) (c_1 : ¬ v1 < 0) (c_2 : ¬ 1 ≤ v1) : v1 = 0 := by
  first | assumption | grind | (simp [Int32.lt_iff_toInt_lt, Int32.le_iff_toInt_le, ← Int32.toInt_inj] at *; omega)
set_option maxHeartbeats 4000000 in
set_option maxRecDepth 100000 in
theorem kX10_has (l : Launch) (dC : Nat → ClassId) (dI : Nat → Nat → Nat) (sz : Nat) (h0 : Nat) (t_to : Nat) (t_height : Nat) (t_member : Nat) (t_lengthHome : Nat) (t_runs : Nat) (t_leak : Nat) (t_vacuum : Nat) (t_reading : Nat) (v1 : Int32) : Met l yX10_has (Cond.code yX10_has cX10_has 2 (some .boolean) :: bg) ({ frames := 0, cells := 0, slots := 0, locals := 0 }) (pcW dC dI [.ref h0, .int v1] sz [(h0, .inr (10, [.ref t_to, .ref t_height, .ref t_member, .ref t_lengthHome, .ref t_runs, .ref t_leak, .ref t_vacuum, .ref t_reading, .int 1]))] []) (va_Qi (fun (r : Int32) (u : Unit) => (r = 1 ∧ v1 = 0) ∨ (r = 0 ∧ ¬ v1 = 0)) (fun (u : Unit) (t : State) => va_P (dC, dI) vwCl [(h0, .inr (10, [.ref t_to, .ref t_height, .ref t_member, .ref t_lengthHome, .ref t_runs, .ref t_leak, .ref t_vacuum, .ref t_reading, .int 1]))] t.heap ∧ va_K (dC, dI) vwCl [] t ∧ va_D (va_A [(h0, .inr (10, [.ref t_to, .ref t_height, .ref t_member, .ref t_lengthHome, .ref t_runs, .ref t_leak, .ref t_vacuum, .ref t_reading, .int 1]))] sz) [(h0, .inr (10, [.ref t_to, .ref t_height, .ref t_member, .ref t_lengthHome, .ref t_runs, .ref t_leak, .ref t_vacuum, .ref t_reading, .int 1]))]) (va_A [(h0, .inr (10, [.ref t_to, .ref t_height, .ref t_member, .ref t_lengthHome, .ref t_runs, .ref t_leak, .ref t_vacuum, .ref t_reading, .int 1]))] sz)) 0 0 (va_A [(h0, .inr (10, [.ref t_to, .ref t_height, .ref t_member, .ref t_lengthHome, .ref t_runs, .ref t_leak, .ref t_vacuum, .ref t_reading, .int 1]))] sz) := by
  refine Met.ofW (cc := cX10_has) (maxL := 2) (ret := (some .boolean)) pnX10 rfl ?_
  intro p e s m args below meth c s₁ B hml hv
  obtain ⟨rfl, hsz, hP, hK, hD0, hN⟩ := hv
  have hx := B.exec
  have hb := B.bytes
  have hr := B.returns
  have htb : ∀ w ∈ bg, w.before [.ref h0, .int v1].toArray s = true := fun w h => atoms_spec (ws := Cond.code yX10_has cX10_has 2 (some .boolean) :: bg) B.pre w (List.mem_cons_of_mem _ h)
  have hown : s.vm.findClass RX10 = some m.cls := findClass_of_methodNamed B.named
  have hlocks := B.notSynchronized
  subst hsz
  have hD := hD0.self (sz := s.heap.size)
  generalize hAe : va_A [(h0, .inr (10, [.ref t_to, .ref t_height, .ref t_member, .ref t_lengthHome, .ref t_runs, .ref t_leak, .ref t_vacuum, .ref t_reading, .int 1]))] s.heap.size = A at hD ⊢
  have hA : ∀ q : Nat, s.heap.size ≤ q → A q := fun q h => by rw [← hAe]; exact Or.inr h
  have hS : va_S A s.heap s.heap [] := va_S.rf
  have hl := lv_entry ([.ref h0, .int v1]) (n := 2) (Nat.le_of_ble_eq_true rfl)
  rw [lg_entry_eq]
  generalize (lg_sl ([.ref h0, .int v1]) ++ List.replicate (2 - (lg_sl ([.ref h0, .int v1])).length) Slot.unset).toArray = ls at hl ⊢
  change lv_has ls 2 [(0, .ref h0), (1, .int v1)] at hl
  clear hD0 hAe
  refine go0 (wsP := fun H => va_P (dC, dI) vwCl [(h0, .inr (10, [.ref t_to, .ref t_height, .ref t_member, .ref t_lengthHome, .ref t_runs, .ref t_leak, .ref t_vacuum, .ref t_reading, .int 1]))] H) hP hS ?_
  clear hP hS; intro H locs hP hS
  change va_P (dC, dI) vwCl [(h0, .inr (10, [.ref t_to, .ref t_height, .ref t_member, .ref t_lengthHome, .ref t_runs, .ref t_leak, .ref t_vacuum, .ref t_reading, .int 1]))] H at hP
  refine lv_iload_n hx hb dX10_has_0 rfl (lv_at hl 1 rfl) ?_
  refine lv_if_lt (tgt := 16) hx hb dX10_has_1 (by decide) (fun c_1 => ?_) (fun c_1 => ?_)
  · refine lv_iconst (v := 0) hx hb dX10_has_16 (by decide) ?_
    refine W.widen (k := 0) (n := 0) (Nat.le_of_ble_eq_true rfl) (Nat.le_of_ble_eq_true rfl) ?_
    have hP9 := hP.sub (ws' := [(h0, .inr (10, [.ref t_to, .ref t_height, .ref t_member, .ref t_lengthHome, .ref t_runs, .ref t_leak, .ref t_vacuum, .ref t_reading, .int 1]))]) [0] rfl
    have hD9 := hD.sub (ws' := [(h0, .inr (10, [.ref t_to, .ref t_height, .ref t_member, .ref t_lengthHome, .ref t_runs, .ref t_leak, .ref t_vacuum, .ref t_reading, .int 1]))]) [0] (by decide) rfl
    have hK9 := hK.sub (tys' := []) [] rfl
    exact W.zret (ty := .boolean) (v := 0) hx hb hr rfl (fun t ht hW => ⟨⟨0, (), rfl, (Or.inr (⟨rfl, (lf_X10_has_0 v1 c_1)⟩)), ⟨by rw [ht]; exact hP9, va_K.moved hW.alike hK9, hD9⟩⟩, hS.F ht⟩) hS.2.2 dX10_has_17
  · refine lv_iload_n hx hb dX10_has_4 rfl (lv_at hl 1 rfl) ?_
    refine lv_aload_n hx hb dX10_has_5 rfl (lv_at hl 0 rfl) ?_
    refine va_get (D := (dC, dI)) (ci := 10) (v := .int 1) (C := RX10) (T := TX10) (N := 9) hx hb htb iX10 hown hK hP 0 rfl rfl 8 (Nat.le_of_ble_eq_true rfl) (htb _ m_42) (fun _ h9 => h9) rfl dX10_has_6 ?_
    refine lv_icmp_ge (tgt := 16) hx hb dX10_has_9 (by decide) (fun c_2 => ?_) (fun c_2 => ?_)
    · refine lv_iconst (v := 0) hx hb dX10_has_16 (by decide) ?_
      refine W.widen (k := 0) (n := 0) (Nat.le_of_ble_eq_true rfl) (Nat.le_of_ble_eq_true rfl) ?_
      have hP9 := hP.sub (ws' := [(h0, .inr (10, [.ref t_to, .ref t_height, .ref t_member, .ref t_lengthHome, .ref t_runs, .ref t_leak, .ref t_vacuum, .ref t_reading, .int 1]))]) [0] rfl
      have hD9 := hD.sub (ws' := [(h0, .inr (10, [.ref t_to, .ref t_height, .ref t_member, .ref t_lengthHome, .ref t_runs, .ref t_leak, .ref t_vacuum, .ref t_reading, .int 1]))]) [0] (by decide) rfl
      have hK9 := hK.sub (tys' := []) [] rfl
      exact W.zret (ty := .boolean) (v := 0) hx hb hr rfl (fun t ht hW => ⟨⟨0, (), rfl, (Or.inr (⟨rfl, (lf_X10_has_1 v1 c_1 c_2)⟩)), ⟨by rw [ht]; exact hP9, va_K.moved hW.alike hK9, hD9⟩⟩, hS.F ht⟩) hS.2.2 dX10_has_17
    · refine lv_iconst (v := 1) hx hb dX10_has_12 (by decide) ?_
      refine lv_goto (tgt := 17) hx hb dX10_has_13 (by decide) ?_
      refine W.widen (k := 0) (n := 0) (Nat.le_of_ble_eq_true rfl) (Nat.le_of_ble_eq_true rfl) ?_
      have hP9 := hP.sub (ws' := [(h0, .inr (10, [.ref t_to, .ref t_height, .ref t_member, .ref t_lengthHome, .ref t_runs, .ref t_leak, .ref t_vacuum, .ref t_reading, .int 1]))]) [0] rfl
      have hD9 := hD.sub (ws' := [(h0, .inr (10, [.ref t_to, .ref t_height, .ref t_member, .ref t_lengthHome, .ref t_runs, .ref t_leak, .ref t_vacuum, .ref t_reading, .int 1]))]) [0] (by decide) rfl
      have hK9 := hK.sub (tys' := []) [] rfl
      exact W.zret (ty := .boolean) (v := 1) hx hb hr rfl (fun t ht hW => ⟨⟨1, (), rfl, (Or.inl ⟨rfl, (lf_X10_has_2 v1 c_1 c_2)⟩), ⟨by rw [ht]; exact hP9, va_K.moved hW.alike hK9, hD9⟩⟩, hS.F ht⟩) hS.2.2 dX10_has_17

set_option maxHeartbeats 4000000 in
set_option maxRecDepth 100000 in
theorem kX10_hasTube (l : Launch) (dC : Nat → ClassId) (dI : Nat → Nat → Nat) (sz : Nat) (h0 : Nat) (t_to : Nat) (t_height : Nat) (t_member : Nat) (t_lengthHome : Nat) (t_runs : Nat) (t_leak : Nat) (t_vacuum : Nat) (t_reading : Nat) (v1 : Int32) : Met l yX10_hasTube (Cond.code yX10_hasTube cX10_hasTube 2 (some .boolean) :: bg) ({ frames := 1, cells := 0, slots := 0, locals := 21 }) (pcW dC dI [.ref h0, .int v1] sz [(h0, .inr (10, [.ref t_to, .ref t_height, .ref t_member, .ref t_lengthHome, .ref t_runs, .ref t_leak, .ref t_vacuum, .ref t_reading, .int 1]))] []) (va_Qi (fun (r : Int32) (u : Unit) => r = 0) (fun (u : Unit) (t : State) => va_P (dC, dI) vwCl [(h0, .inr (10, [.ref t_to, .ref t_height, .ref t_member, .ref t_lengthHome, .ref t_runs, .ref t_leak, .ref t_vacuum, .ref t_reading, .int 1]))] t.heap ∧ va_K (dC, dI) vwCl [] t ∧ va_D (va_A [(h0, .inr (10, [.ref t_to, .ref t_height, .ref t_member, .ref t_lengthHome, .ref t_runs, .ref t_leak, .ref t_vacuum, .ref t_reading, .int 1]))] sz) [(h0, .inr (10, [.ref t_to, .ref t_height, .ref t_member, .ref t_lengthHome, .ref t_runs, .ref t_leak, .ref t_vacuum, .ref t_reading, .int 1]))]) (va_A [(h0, .inr (10, [.ref t_to, .ref t_height, .ref t_member, .ref t_lengthHome, .ref t_runs, .ref t_leak, .ref t_vacuum, .ref t_reading, .int 1]))] sz)) 0 0 (va_A [(h0, .inr (10, [.ref t_to, .ref t_height, .ref t_member, .ref t_lengthHome, .ref t_runs, .ref t_leak, .ref t_vacuum, .ref t_reading, .int 1]))] sz) := by
  refine Met.ofW (cc := cX10_hasTube) (maxL := 2) (ret := (some .boolean)) pnX10 rfl ?_
  intro p e s m args below meth c s₁ B hml hv
  obtain ⟨rfl, hsz, hP, hK, hD0, hN⟩ := hv
  have hx := B.exec
  have hb := B.bytes
  have hr := B.returns
  have htb : ∀ w ∈ bg, w.before [.ref h0, .int v1].toArray s = true := fun w h => atoms_spec (ws := Cond.code yX10_hasTube cX10_hasTube 2 (some .boolean) :: bg) B.pre w (List.mem_cons_of_mem _ h)
  have hown : s.vm.findClass RX10 = some m.cls := findClass_of_methodNamed B.named
  have hlocks := B.notSynchronized
  subst hsz
  have hD := hD0.self (sz := s.heap.size)
  generalize hAe : va_A [(h0, .inr (10, [.ref t_to, .ref t_height, .ref t_member, .ref t_lengthHome, .ref t_runs, .ref t_leak, .ref t_vacuum, .ref t_reading, .int 1]))] s.heap.size = A at hD ⊢
  have hA : ∀ q : Nat, s.heap.size ≤ q → A q := fun q h => by rw [← hAe]; exact Or.inr h
  have hS : va_S A s.heap s.heap [] := va_S.rf
  have hl := lv_entry ([.ref h0, .int v1]) (n := 2) (Nat.le_of_ble_eq_true rfl)
  rw [lg_entry_eq]
  generalize (lg_sl ([.ref h0, .int v1]) ++ List.replicate (2 - (lg_sl ([.ref h0, .int v1])).length) Slot.unset).toArray = ls at hl ⊢
  change lv_has ls 2 [(0, .ref h0), (1, .int v1)] at hl
  clear hD0 hAe
  refine go0 (wsP := fun H => va_P (dC, dI) vwCl [(h0, .inr (10, [.ref t_to, .ref t_height, .ref t_member, .ref t_lengthHome, .ref t_runs, .ref t_leak, .ref t_vacuum, .ref t_reading, .int 1]))] H) hP hS ?_
  clear hP hS; intro H locs hP hS
  change va_P (dC, dI) vwCl [(h0, .inr (10, [.ref t_to, .ref t_height, .ref t_member, .ref t_lengthHome, .ref t_runs, .ref t_leak, .ref t_vacuum, .ref t_reading, .int 1]))] H at hP
  refine lv_iload_n hx hb dX10_hasTube_0 rfl (lv_at hl 1 rfl) ?_
  refine lv_if_eq (tgt := 16) hx hb dX10_hasTube_1 (by decide) (fun c_1 => ?_) (fun c_1 => ?_)
  · refine lv_iconst (v := 0) hx hb dX10_hasTube_16 (by decide) ?_
    refine W.widen (k := 0) (n := 0) (Nat.le_of_ble_eq_true rfl) (Nat.le_of_ble_eq_true rfl) ?_
    have hP9 := hP.sub (ws' := [(h0, .inr (10, [.ref t_to, .ref t_height, .ref t_member, .ref t_lengthHome, .ref t_runs, .ref t_leak, .ref t_vacuum, .ref t_reading, .int 1]))]) [0] rfl
    have hD9 := hD.sub (ws' := [(h0, .inr (10, [.ref t_to, .ref t_height, .ref t_member, .ref t_lengthHome, .ref t_runs, .ref t_leak, .ref t_vacuum, .ref t_reading, .int 1]))]) [0] (by decide) rfl
    have hK9 := hK.sub (tys' := []) [] rfl
    exact W.zret (ty := .boolean) (v := 0) hx hb hr rfl (fun t ht hW => ⟨⟨0, (), rfl, (rfl), ⟨by rw [ht]; exact hP9, va_K.moved hW.alike hK9, hD9⟩⟩, hS.F ht⟩) hS.2.2 dX10_hasTube_17
  · refine lv_aload_n hx hb dX10_hasTube_4 rfl (lv_at hl 0 rfl) ?_
    refine lv_iload_n hx hb dX10_hasTube_5 rfl (lv_at hl 1 rfl) ?_
    have hPc := hP.sub (ws' := [(h0, .inr (10, [.ref t_to, .ref t_height, .ref t_member, .ref t_lengthHome, .ref t_runs, .ref t_leak, .ref t_vacuum, .ref t_reading, .int 1]))]) [0] rfl
    have hDc := hD.sub (ws' := [(h0, .inr (10, [.ref t_to, .ref t_height, .ref t_member, .ref t_lengthHome, .ref t_runs, .ref t_leak, .ref t_vacuum, .ref t_reading, .int 1]))]) [0] (by decide) rfl
    have hKc := hK.sub (tys' := []) [] rfl
    have hFc := va_free (wc := [(h0, .inr (10, [.ref t_to, .ref t_height, .ref t_member, .ref t_lengthHome, .ref t_runs, .ref t_leak, .ref t_vacuum, .ref t_reading, .int 1]))]) hD hS hA [0] rfl
    refine va_calli (va_runV (C := RX10) (As := [.int v1]) (rest := []) ⟨hx, hb, hml, hown, htb⟩ (kX10_has l dC dI H.size h0 t_to t_height t_member t_lengthHome t_runs t_leak t_vacuum t_reading v1 ) ⟨callB_of 1 htb (gd_c m_352) rfl rfl rfl (htb _ m_2) (htb _ m_363) hdX10_has ⟨(Nat.le_of_ble_eq_true rfl), (Nat.le_of_ble_eq_true rfl)⟩, htb _ m_350, htb _ m_351⟩ ⟨pcW_blind, va_recv hKc hPc (ci := 10) (q0 := 0) rfl rfl, pcW_at hPc hKc hDc hN⟩ rfl rfl hl.1 rfl (lv_room (Nat.le_of_ble_eq_true rfl)) dX10_hasTube_6 ⟨(Nat.le_of_ble_eq_true rfl), (Nat.le_of_ble_eq_true rfl)⟩) hS (fun q _ h => hFc q h) hFc (fun r_2 u t H1 locs1 ht hvm h_3 hB hz1 hk1 hS1 => ?_)
    obtain ⟨hP1, hK1, hD1⟩ := hB
    rw [ht] at hP1
    obtain ⟨hPn, hDn⟩ := va_join (wr := []) (w1 := [(h0, .inr (10, [.ref t_to, .ref t_height, .ref t_member, .ref t_lengthHome, .ref t_runs, .ref t_leak, .ref t_vacuum, .ref t_reading, .int 1]))]) hP hD [0] [] rfl rfl (by decide) (by decide) hk1 hFc hP1 hD1
    clear hP1 hD1 hK1
    clear hP hD hS hPc hDc hKc hFc hk1 hz1 ht hvm
    clear t
    revert hS1 hPn hDn; generalize H1 = H; generalize locs1 = locs; intro hS hP hD
    change va_P (dC, dI) vwCl [(h0, .inr (10, [.ref t_to, .ref t_height, .ref t_member, .ref t_lengthHome, .ref t_runs, .ref t_leak, .ref t_vacuum, .ref t_reading, .int 1]))] H at hP
    change va_D A [(h0, .inr (10, [.ref t_to, .ref t_height, .ref t_member, .ref t_lengthHome, .ref t_runs, .ref t_leak, .ref t_vacuum, .ref t_reading, .int 1]))] at hD
    rcases h_3 with ⟨rfl, h_3⟩ | ⟨rfl, h_3⟩
    · exact absurd h_3 c_1
    · refine lv_if_eq (tgt := 16) hx hb dX10_hasTube_9 (by decide) ?_ (fun c_4 => absurd (by decide) c_4)
      intro _
      refine lv_iconst (v := 0) hx hb dX10_hasTube_16 (by decide) ?_
      refine W.widen (k := 0) (n := 0) (Nat.le_of_ble_eq_true rfl) (Nat.le_of_ble_eq_true rfl) ?_
      have hP9 := hP.sub (ws' := [(h0, .inr (10, [.ref t_to, .ref t_height, .ref t_member, .ref t_lengthHome, .ref t_runs, .ref t_leak, .ref t_vacuum, .ref t_reading, .int 1]))]) [0] rfl
      have hD9 := hD.sub (ws' := [(h0, .inr (10, [.ref t_to, .ref t_height, .ref t_member, .ref t_lengthHome, .ref t_runs, .ref t_leak, .ref t_vacuum, .ref t_reading, .int 1]))]) [0] (by decide) rfl
      have hK9 := hK.sub (tys' := []) [] rfl
      exact W.zret (ty := .boolean) (v := 0) hx hb hr rfl (fun t ht hW => ⟨⟨0, (), rfl, (rfl), ⟨by rw [ht]; exact hP9, va_K.moved hW.alike hK9, hD9⟩⟩, hS.F ht⟩) hS.2.2 dX10_hasTube_17

set_option maxHeartbeats 4000000 in
set_option maxRecDepth 100000 in
theorem kX10_add (l : Launch) (dC : Nat → ClassId) (dI : Nat → Nat → Nat) (sz : Nat) (h0 : Nat) (t_to : Nat) (t_height : Nat) (t_member : Nat) (t_lengthHome : Nat) (t_runs : Nat) (t_leak : Nat) (t_vacuum : Nat) (t_reading : Nat) (k_to : ClassId) (k_height : ClassId) (k_member : ClassId) (k_lengthHome : ClassId) (k_runs : ClassId) (k_vacuum : ClassId) (k_reading : ClassId) (f_to : Nat → Int32) (f_member : Nat → Int32) (f_runs : Nat → Int32) (f_reading : Nat → Int32) (v2 : Int32) (v3 : Int32) (v4 : Int32) (e_to : f_to 0 = (-1)) (e_member : f_member 0 = (-1)) (e_runs : f_runs 0 = 1) (e_reading : f_reading 0 = (-1)) : Met l yX10_add (Cond.code yX10_add cX10_add 6 (some .int) :: bg) ({ frames := 1, cells := 0, slots := 0, locals := 21 }) (pcW dC dI [.ref h0, .int 0, .int v2, .int v3, .int v4] sz [(h0, .inr (10, [.ref t_to, .ref t_height, .ref t_member, .ref t_lengthHome, .ref t_runs, .ref t_leak, .ref t_vacuum, .ref t_reading, .int 1])), (t_to, .inl (k_to, 40, .inl f_to)), (t_height, .inl (k_height, 40, .inl (fun _ => 0))), (t_member, .inl (k_member, 40, .inl f_member)), (t_lengthHome, .inl (k_lengthHome, 40, .inl (fun _ => 0))), (t_runs, .inl (k_runs, 40, .inl f_runs)), (t_vacuum, .inl (k_vacuum, 40, .inl (fun _ => 0))), (t_reading, .inl (k_reading, 40, .inl f_reading))] [(k_to, .int), (k_height, .int), (k_member, .int), (k_lengthHome, .int), (k_runs, .boolean), (k_vacuum, .int), (k_reading, .int)]) (va_Qi (fun (r : Int32) (u : Unit) => r = 1) (fun (u : Unit) (t : State) => True) (va_A [(h0, .inr (10, [.ref t_to, .ref t_height, .ref t_member, .ref t_lengthHome, .ref t_runs, .ref t_leak, .ref t_vacuum, .ref t_reading, .int 1])), (t_to, .inl (k_to, 40, .inl f_to)), (t_height, .inl (k_height, 40, .inl (fun _ => 0))), (t_member, .inl (k_member, 40, .inl f_member)), (t_lengthHome, .inl (k_lengthHome, 40, .inl (fun _ => 0))), (t_runs, .inl (k_runs, 40, .inl f_runs)), (t_vacuum, .inl (k_vacuum, 40, .inl (fun _ => 0))), (t_reading, .inl (k_reading, 40, .inl f_reading))] sz)) 0 0 (va_A [(h0, .inr (10, [.ref t_to, .ref t_height, .ref t_member, .ref t_lengthHome, .ref t_runs, .ref t_leak, .ref t_vacuum, .ref t_reading, .int 1])), (t_to, .inl (k_to, 40, .inl f_to)), (t_height, .inl (k_height, 40, .inl (fun _ => 0))), (t_member, .inl (k_member, 40, .inl f_member)), (t_lengthHome, .inl (k_lengthHome, 40, .inl (fun _ => 0))), (t_runs, .inl (k_runs, 40, .inl f_runs)), (t_vacuum, .inl (k_vacuum, 40, .inl (fun _ => 0))), (t_reading, .inl (k_reading, 40, .inl f_reading))] sz) := by
  refine Met.ofW (cc := cX10_add) (maxL := 6) (ret := (some .int)) pnX10 rfl ?_
  intro p e s m args below meth c s₁ B hml hv
  obtain ⟨rfl, hsz, hP, hK, hD0, hN⟩ := hv
  have hx := B.exec
  have hb := B.bytes
  have hr := B.returns
  have htb : ∀ w ∈ bg, w.before [.ref h0, .int 0, .int v2, .int v3, .int v4].toArray s = true := fun w h => atoms_spec (ws := Cond.code yX10_add cX10_add 6 (some .int) :: bg) B.pre w (List.mem_cons_of_mem _ h)
  have hown : s.vm.findClass RX10 = some m.cls := findClass_of_methodNamed B.named
  have hlocks := B.notSynchronized
  subst hsz
  have hD := hD0.self (sz := s.heap.size)
  generalize hAe : va_A [(h0, .inr (10, [.ref t_to, .ref t_height, .ref t_member, .ref t_lengthHome, .ref t_runs, .ref t_leak, .ref t_vacuum, .ref t_reading, .int 1])), (t_to, .inl (k_to, 40, .inl f_to)), (t_height, .inl (k_height, 40, .inl (fun _ => 0))), (t_member, .inl (k_member, 40, .inl f_member)), (t_lengthHome, .inl (k_lengthHome, 40, .inl (fun _ => 0))), (t_runs, .inl (k_runs, 40, .inl f_runs)), (t_vacuum, .inl (k_vacuum, 40, .inl (fun _ => 0))), (t_reading, .inl (k_reading, 40, .inl f_reading))] s.heap.size = A at hD ⊢
  have hA : ∀ q : Nat, s.heap.size ≤ q → A q := fun q h => by rw [← hAe]; exact Or.inr h
  have hS : va_S A s.heap s.heap [] := va_S.rf
  have hl := lv_entry ([.ref h0, .int 0, .int v2, .int v3, .int v4]) (n := 6) (Nat.le_of_ble_eq_true rfl)
  rw [lg_entry_eq]
  generalize (lg_sl ([.ref h0, .int 0, .int v2, .int v3, .int v4]) ++ List.replicate (6 - (lg_sl ([.ref h0, .int 0, .int v2, .int v3, .int v4])).length) Slot.unset).toArray = ls at hl ⊢
  change lv_has ls 6 [(0, .ref h0), (1, .int 0), (2, .int v2), (3, .int v3), (4, .int v4)] at hl
  clear hD0 hAe
  refine go0 (wsP := fun H => va_P (dC, dI) vwCl [(h0, .inr (10, [.ref t_to, .ref t_height, .ref t_member, .ref t_lengthHome, .ref t_runs, .ref t_leak, .ref t_vacuum, .ref t_reading, .int 1])), (t_to, .inl (k_to, 40, .inl f_to)), (t_height, .inl (k_height, 40, .inl (fun _ => 0))), (t_member, .inl (k_member, 40, .inl f_member)), (t_lengthHome, .inl (k_lengthHome, 40, .inl (fun _ => 0))), (t_runs, .inl (k_runs, 40, .inl f_runs)), (t_vacuum, .inl (k_vacuum, 40, .inl (fun _ => 0))), (t_reading, .inl (k_reading, 40, .inl f_reading))] H) hP hS ?_
  clear hP hS; intro H locs hP hS
  change va_P (dC, dI) vwCl [(h0, .inr (10, [.ref t_to, .ref t_height, .ref t_member, .ref t_lengthHome, .ref t_runs, .ref t_leak, .ref t_vacuum, .ref t_reading, .int 1])), (t_to, .inl (k_to, 40, .inl f_to)), (t_height, .inl (k_height, 40, .inl (fun _ => 0))), (t_member, .inl (k_member, 40, .inl f_member)), (t_lengthHome, .inl (k_lengthHome, 40, .inl (fun _ => 0))), (t_runs, .inl (k_runs, 40, .inl f_runs)), (t_vacuum, .inl (k_vacuum, 40, .inl (fun _ => 0))), (t_reading, .inl (k_reading, 40, .inl f_reading))] H at hP
  refine lv_aload_n hx hb dX10_add_0 rfl (lv_at hl 0 rfl) ?_
  refine va_get (D := (dC, dI)) (ci := 10) (v := .int 1) (C := RX10) (T := TX10) (N := 9) hx hb htb iX10 hown hK hP 0 rfl rfl 8 (Nat.le_of_ble_eq_true rfl) (htb _ m_42) (fun _ h9 => h9) rfl dX10_add_1 ?_
  refine lv_bipush (v := 40) hx hb dX10_add_4 (by decide) ?_
  refine lv_icmp_ge (tgt := 17) hx hb dX10_add_6 (by decide) (fun c_1 => absurd c_1 (by decide)) ?_
  intro _
  refine lv_aload_n hx hb dX10_add_9 rfl (lv_at hl 0 rfl) ?_
  refine lv_iload_n hx hb dX10_add_10 rfl (lv_at hl 1 rfl) ?_
  have hPc := hP.sub (ws' := [(h0, .inr (10, [.ref t_to, .ref t_height, .ref t_member, .ref t_lengthHome, .ref t_runs, .ref t_leak, .ref t_vacuum, .ref t_reading, .int 1]))]) [0] rfl
  have hDc := hD.sub (ws' := [(h0, .inr (10, [.ref t_to, .ref t_height, .ref t_member, .ref t_lengthHome, .ref t_runs, .ref t_leak, .ref t_vacuum, .ref t_reading, .int 1]))]) [0] (by decide) rfl
  have hKc := hK.sub (tys' := []) [] rfl
  have hFc := va_free (wc := [(h0, .inr (10, [.ref t_to, .ref t_height, .ref t_member, .ref t_lengthHome, .ref t_runs, .ref t_leak, .ref t_vacuum, .ref t_reading, .int 1]))]) hD hS hA [0] rfl
  refine va_calli (va_runV (C := RX10) (As := [.int 0]) (rest := []) ⟨hx, hb, hml, hown, htb⟩ (kX10_has l dC dI H.size h0 t_to t_height t_member t_lengthHome t_runs t_leak t_vacuum t_reading 0 ) ⟨callB_of 1 htb (gd_c m_352) rfl rfl rfl (htb _ m_2) (htb _ m_363) hdX10_has ⟨(Nat.le_of_ble_eq_true rfl), (Nat.le_of_ble_eq_true rfl)⟩, htb _ m_350, htb _ m_351⟩ ⟨pcW_blind, va_recv hKc hPc (ci := 10) (q0 := 0) rfl rfl, pcW_at hPc hKc hDc hN⟩ rfl rfl hl.1 rfl (lv_room (Nat.le_of_ble_eq_true rfl)) dX10_add_11 ⟨(Nat.le_of_ble_eq_true rfl), (Nat.le_of_ble_eq_true rfl)⟩) hS (fun q _ h => hFc q h) hFc (fun r_2 u t H1 locs1 ht hvm h_3 hB hz1 hk1 hS1 => ?_)
  obtain ⟨hP1, hK1, hD1⟩ := hB
  rw [ht] at hP1
  obtain ⟨hPn, hDn⟩ := va_join (wr := [(t_to, .inl (k_to, 40, .inl f_to)), (t_height, .inl (k_height, 40, .inl (fun _ => 0))), (t_member, .inl (k_member, 40, .inl f_member)), (t_lengthHome, .inl (k_lengthHome, 40, .inl (fun _ => 0))), (t_runs, .inl (k_runs, 40, .inl f_runs)), (t_vacuum, .inl (k_vacuum, 40, .inl (fun _ => 0))), (t_reading, .inl (k_reading, 40, .inl f_reading))]) (w1 := [(h0, .inr (10, [.ref t_to, .ref t_height, .ref t_member, .ref t_lengthHome, .ref t_runs, .ref t_leak, .ref t_vacuum, .ref t_reading, .int 1]))]) hP hD [0] [1, 2, 3, 4, 5, 6, 7] rfl rfl (by decide) (by decide) hk1 hFc hP1 hD1
  clear hP1 hD1 hK1
  clear hP hD hS hPc hDc hKc hFc hk1 hz1 ht hvm
  clear t
  revert hS1 hPn hDn; generalize H1 = H; generalize locs1 = locs; intro hS hP hD
  change va_P (dC, dI) vwCl [(t_to, .inl (k_to, 40, .inl f_to)), (t_height, .inl (k_height, 40, .inl (fun _ => 0))), (t_member, .inl (k_member, 40, .inl f_member)), (t_lengthHome, .inl (k_lengthHome, 40, .inl (fun _ => 0))), (t_runs, .inl (k_runs, 40, .inl f_runs)), (t_vacuum, .inl (k_vacuum, 40, .inl (fun _ => 0))), (t_reading, .inl (k_reading, 40, .inl f_reading)), (h0, .inr (10, [.ref t_to, .ref t_height, .ref t_member, .ref t_lengthHome, .ref t_runs, .ref t_leak, .ref t_vacuum, .ref t_reading, .int 1]))] H at hP
  change va_D A [(t_to, .inl (k_to, 40, .inl f_to)), (t_height, .inl (k_height, 40, .inl (fun _ => 0))), (t_member, .inl (k_member, 40, .inl f_member)), (t_lengthHome, .inl (k_lengthHome, 40, .inl (fun _ => 0))), (t_runs, .inl (k_runs, 40, .inl f_runs)), (t_vacuum, .inl (k_vacuum, 40, .inl (fun _ => 0))), (t_reading, .inl (k_reading, 40, .inl f_reading)), (h0, .inr (10, [.ref t_to, .ref t_height, .ref t_member, .ref t_lengthHome, .ref t_runs, .ref t_leak, .ref t_vacuum, .ref t_reading, .int 1]))] at hD
  rcases h_3 with ⟨rfl, h_3⟩ | ⟨rfl, h_3⟩
  · refine lv_if_ne (tgt := 19) hx hb dX10_add_14 (by decide) ?_ (fun c_4 => absurd c_4 (by decide))
    intro _
    refine lv_aload_n hx hb dX10_add_19 rfl (lv_at hl 0 rfl) ?_
    refine va_get (D := (dC, dI)) (ci := 10) (v := .int 1) (C := RX10) (T := TX10) (N := 9) hx hb htb iX10 hown hK hP 7 rfl rfl 8 (Nat.le_of_ble_eq_true rfl) (htb _ m_42) (fun _ h9 => h9) rfl dX10_add_20 ?_
    refine lv_istore (lv' := [(5, .int 1), (0, .ref h0), (1, .int 0), (2, .int v2), (3, .int v3), (4, .int v4)]) hx hb dX10_add_23 hl (by decide) rfl ?_
    clear hl; intro ls hl
    refine lv_aload_n hx hb dX10_add_25 rfl (lv_at hl 1 rfl) ?_
    refine lv_dup hx hb dX10_add_26 rfl ?_
    refine va_get (D := (dC, dI)) (ci := 10) (v := .int 1) (C := RX10) (T := TX10) (N := 9) hx hb htb iX10 hown hK hP 7 rfl rfl 8 (Nat.le_of_ble_eq_true rfl) (htb _ m_42) (fun _ h9 => h9) rfl dX10_add_27 ?_
    refine lv_iconst (v := 1) hx hb dX10_add_30 (by decide) ?_
    refine lv_iadd hx hb dX10_add_31 ?_
    refine lv_tope (y := 2) (by decide) ?_
    refine va_put (D := (dC, dI)) (ci := 10) (v := .int 2) (C := RX10) (T := TX10) (N := 9) hx hb htb iX10 tyX10 tyX10_ok nmX10 hown hK hP hD hS 7 rfl rfl 8 (Nat.le_of_ble_eq_true rfl) (htb _ m_42) (fun _ h9 => h9) rfl (tyX10_ok 8 (Nat.le_of_ble_eq_true rfl)) rfl rfl (Nat.le_of_ble_eq_true rfl) dX10_add_32 ?_
    clear hP hD hS; intro H locs hP hD hS
    change va_P (dC, dI) vwCl [(t_to, .inl (k_to, 40, .inl f_to)), (t_height, .inl (k_height, 40, .inl (fun _ => 0))), (t_member, .inl (k_member, 40, .inl f_member)), (t_lengthHome, .inl (k_lengthHome, 40, .inl (fun _ => 0))), (t_runs, .inl (k_runs, 40, .inl f_runs)), (t_vacuum, .inl (k_vacuum, 40, .inl (fun _ => 0))), (t_reading, .inl (k_reading, 40, .inl f_reading)), (h0, .inr (10, [.ref t_to, .ref t_height, .ref t_member, .ref t_lengthHome, .ref t_runs, .ref t_leak, .ref t_vacuum, .ref t_reading, .int 2]))] H at hP
    change va_D A [(t_to, .inl (k_to, 40, .inl f_to)), (t_height, .inl (k_height, 40, .inl (fun _ => 0))), (t_member, .inl (k_member, 40, .inl f_member)), (t_lengthHome, .inl (k_lengthHome, 40, .inl (fun _ => 0))), (t_runs, .inl (k_runs, 40, .inl f_runs)), (t_vacuum, .inl (k_vacuum, 40, .inl (fun _ => 0))), (t_reading, .inl (k_reading, 40, .inl f_reading)), (h0, .inr (10, [.ref t_to, .ref t_height, .ref t_member, .ref t_lengthHome, .ref t_runs, .ref t_leak, .ref t_vacuum, .ref t_reading, .int 2]))] at hD
    refine lv_aload_n hx hb dX10_add_35 rfl (lv_at hl 1 rfl) ?_
    refine va_get (D := (dC, dI)) (ci := 10) (v := .ref t_to) (C := RX10) (T := TX10) (N := 9) hx hb htb iX10 hown hK hP 7 rfl rfl 0 (Nat.le_of_ble_eq_true rfl) (htb _ m_34) (fun _ h9 => h9) rfl dX10_add_36 ?_
    refine lv_iload hx hb dX10_add_39 (lv_at hl 0 rfl) ?_
    refine lv_iload_n hx hb dX10_add_41 rfl (lv_at hl 2 rfl) ?_
    refine va_iast hx hb hK hP hD hS 0 0 rfl rfl (by unfold vp_in; decide) dX10_add_42 ?_
    clear hP hD hS; intro H locs hP hD hS
    change va_P (dC, dI) vwCl [(t_to, .inl (k_to, 40, .inl (upd f_to (Int32.toNatClampNeg 1) 0))), (t_height, .inl (k_height, 40, .inl (fun _ => 0))), (t_member, .inl (k_member, 40, .inl f_member)), (t_lengthHome, .inl (k_lengthHome, 40, .inl (fun _ => 0))), (t_runs, .inl (k_runs, 40, .inl f_runs)), (t_vacuum, .inl (k_vacuum, 40, .inl (fun _ => 0))), (t_reading, .inl (k_reading, 40, .inl f_reading)), (h0, .inr (10, [.ref t_to, .ref t_height, .ref t_member, .ref t_lengthHome, .ref t_runs, .ref t_leak, .ref t_vacuum, .ref t_reading, .int 2]))] H at hP
    change va_D A [(t_to, .inl (k_to, 40, .inl (upd f_to (Int32.toNatClampNeg 1) 0))), (t_height, .inl (k_height, 40, .inl (fun _ => 0))), (t_member, .inl (k_member, 40, .inl f_member)), (t_lengthHome, .inl (k_lengthHome, 40, .inl (fun _ => 0))), (t_runs, .inl (k_runs, 40, .inl f_runs)), (t_vacuum, .inl (k_vacuum, 40, .inl (fun _ => 0))), (t_reading, .inl (k_reading, 40, .inl f_reading)), (h0, .inr (10, [.ref t_to, .ref t_height, .ref t_member, .ref t_lengthHome, .ref t_runs, .ref t_leak, .ref t_vacuum, .ref t_reading, .int 2]))] at hD
    refine lv_aload_n hx hb dX10_add_43 rfl (lv_at hl 1 rfl) ?_
    refine va_get (D := (dC, dI)) (ci := 10) (v := .ref t_height) (C := RX10) (T := TX10) (N := 9) hx hb htb iX10 hown hK hP 7 rfl rfl 1 (Nat.le_of_ble_eq_true rfl) (htb _ m_35) (fun _ h9 => h9) rfl dX10_add_44 ?_
    refine lv_iload hx hb dX10_add_47 (lv_at hl 0 rfl) ?_
    refine lv_iload_n hx hb dX10_add_49 rfl (lv_at hl 4 rfl) ?_
    refine va_iast hx hb hK hP hD hS 1 1 rfl rfl (by unfold vp_in; decide) dX10_add_50 ?_
    clear hP hD hS; intro H locs hP hD hS
    change va_P (dC, dI) vwCl [(t_to, .inl (k_to, 40, .inl (upd f_to (Int32.toNatClampNeg 1) 0))), (t_height, .inl (k_height, 40, .inl (upd (fun _ => 0) (Int32.toNatClampNeg 1) v3))), (t_member, .inl (k_member, 40, .inl f_member)), (t_lengthHome, .inl (k_lengthHome, 40, .inl (fun _ => 0))), (t_runs, .inl (k_runs, 40, .inl f_runs)), (t_vacuum, .inl (k_vacuum, 40, .inl (fun _ => 0))), (t_reading, .inl (k_reading, 40, .inl f_reading)), (h0, .inr (10, [.ref t_to, .ref t_height, .ref t_member, .ref t_lengthHome, .ref t_runs, .ref t_leak, .ref t_vacuum, .ref t_reading, .int 2]))] H at hP
    change va_D A [(t_to, .inl (k_to, 40, .inl (upd f_to (Int32.toNatClampNeg 1) 0))), (t_height, .inl (k_height, 40, .inl (upd (fun _ => 0) (Int32.toNatClampNeg 1) v3))), (t_member, .inl (k_member, 40, .inl f_member)), (t_lengthHome, .inl (k_lengthHome, 40, .inl (fun _ => 0))), (t_runs, .inl (k_runs, 40, .inl f_runs)), (t_vacuum, .inl (k_vacuum, 40, .inl (fun _ => 0))), (t_reading, .inl (k_reading, 40, .inl f_reading)), (h0, .inr (10, [.ref t_to, .ref t_height, .ref t_member, .ref t_lengthHome, .ref t_runs, .ref t_leak, .ref t_vacuum, .ref t_reading, .int 2]))] at hD
    refine lv_aload_n hx hb dX10_add_51 rfl (lv_at hl 1 rfl) ?_
    refine va_get (D := (dC, dI)) (ci := 10) (v := .ref t_member) (C := RX10) (T := TX10) (N := 9) hx hb htb iX10 hown hK hP 7 rfl rfl 2 (Nat.le_of_ble_eq_true rfl) (htb _ m_36) (fun _ h9 => h9) rfl dX10_add_52 ?_
    refine lv_iload hx hb dX10_add_55 (lv_at hl 0 rfl) ?_
    refine lv_iload hx hb dX10_add_57 (lv_at hl 5 rfl) ?_
    refine va_iast hx hb hK hP hD hS 2 2 rfl rfl (by unfold vp_in; decide) dX10_add_59 ?_
    clear hP hD hS; intro H locs hP hD hS
    change va_P (dC, dI) vwCl [(t_to, .inl (k_to, 40, .inl (upd f_to (Int32.toNatClampNeg 1) 0))), (t_height, .inl (k_height, 40, .inl (upd (fun _ => 0) (Int32.toNatClampNeg 1) v3))), (t_member, .inl (k_member, 40, .inl (upd f_member (Int32.toNatClampNeg 1) v4))), (t_lengthHome, .inl (k_lengthHome, 40, .inl (fun _ => 0))), (t_runs, .inl (k_runs, 40, .inl f_runs)), (t_vacuum, .inl (k_vacuum, 40, .inl (fun _ => 0))), (t_reading, .inl (k_reading, 40, .inl f_reading)), (h0, .inr (10, [.ref t_to, .ref t_height, .ref t_member, .ref t_lengthHome, .ref t_runs, .ref t_leak, .ref t_vacuum, .ref t_reading, .int 2]))] H at hP
    change va_D A [(t_to, .inl (k_to, 40, .inl (upd f_to (Int32.toNatClampNeg 1) 0))), (t_height, .inl (k_height, 40, .inl (upd (fun _ => 0) (Int32.toNatClampNeg 1) v3))), (t_member, .inl (k_member, 40, .inl (upd f_member (Int32.toNatClampNeg 1) v4))), (t_lengthHome, .inl (k_lengthHome, 40, .inl (fun _ => 0))), (t_runs, .inl (k_runs, 40, .inl f_runs)), (t_vacuum, .inl (k_vacuum, 40, .inl (fun _ => 0))), (t_reading, .inl (k_reading, 40, .inl f_reading)), (h0, .inr (10, [.ref t_to, .ref t_height, .ref t_member, .ref t_lengthHome, .ref t_runs, .ref t_leak, .ref t_vacuum, .ref t_reading, .int 2]))] at hD
    refine lv_aload_n hx hb dX10_add_60 rfl (lv_at hl 1 rfl) ?_
    refine va_get (D := (dC, dI)) (ci := 10) (v := .ref t_lengthHome) (C := RX10) (T := TX10) (N := 9) hx hb htb iX10 hown hK hP 7 rfl rfl 3 (Nat.le_of_ble_eq_true rfl) (htb _ m_37) (fun _ h9 => h9) rfl dX10_add_61 ?_
    refine lv_iload hx hb dX10_add_64 (lv_at hl 0 rfl) ?_
    refine lv_aload_n hx hb dX10_add_66 rfl (lv_at hl 1 rfl) ?_
    refine va_get (D := (dC, dI)) (ci := 10) (v := .ref t_lengthHome) (C := RX10) (T := TX10) (N := 9) hx hb htb iX10 hown hK hP 7 rfl rfl 3 (Nat.le_of_ble_eq_true rfl) (htb _ m_37) (fun _ h9 => h9) rfl dX10_add_67 ?_
    refine lv_iload_n hx hb dX10_add_70 rfl (lv_at hl 2 rfl) ?_
    refine va_iald hx hb hK hP 3 3 rfl rfl (by unfold vp_in; decide) dX10_add_71 ?_
    refine lv_tope (y := 0) rfl ?_
    refine lv_iload_n hx hb dX10_add_72 rfl (lv_at hl 3 rfl) ?_
    refine lv_iadd hx hb dX10_add_73 ?_
    refine lv_topi (fun x_5 ex_6 => ?_)
    refine va_iast hx hb hK hP hD hS 3 3 rfl rfl (by unfold vp_in; decide) dX10_add_74 ?_
    clear hP hD hS; intro H locs hP hD hS
    change va_P (dC, dI) vwCl [(t_to, .inl (k_to, 40, .inl (upd f_to (Int32.toNatClampNeg 1) 0))), (t_height, .inl (k_height, 40, .inl (upd (fun _ => 0) (Int32.toNatClampNeg 1) v3))), (t_member, .inl (k_member, 40, .inl (upd f_member (Int32.toNatClampNeg 1) v4))), (t_lengthHome, .inl (k_lengthHome, 40, .inl (upd (fun _ => 0) (Int32.toNatClampNeg 1) x_5))), (t_runs, .inl (k_runs, 40, .inl f_runs)), (t_vacuum, .inl (k_vacuum, 40, .inl (fun _ => 0))), (t_reading, .inl (k_reading, 40, .inl f_reading)), (h0, .inr (10, [.ref t_to, .ref t_height, .ref t_member, .ref t_lengthHome, .ref t_runs, .ref t_leak, .ref t_vacuum, .ref t_reading, .int 2]))] H at hP
    change va_D A [(t_to, .inl (k_to, 40, .inl (upd f_to (Int32.toNatClampNeg 1) 0))), (t_height, .inl (k_height, 40, .inl (upd (fun _ => 0) (Int32.toNatClampNeg 1) v3))), (t_member, .inl (k_member, 40, .inl (upd f_member (Int32.toNatClampNeg 1) v4))), (t_lengthHome, .inl (k_lengthHome, 40, .inl (upd (fun _ => 0) (Int32.toNatClampNeg 1) x_5))), (t_runs, .inl (k_runs, 40, .inl f_runs)), (t_vacuum, .inl (k_vacuum, 40, .inl (fun _ => 0))), (t_reading, .inl (k_reading, 40, .inl f_reading)), (h0, .inr (10, [.ref t_to, .ref t_height, .ref t_member, .ref t_lengthHome, .ref t_runs, .ref t_leak, .ref t_vacuum, .ref t_reading, .int 2]))] at hD
    refine lv_aload_n hx hb dX10_add_75 rfl (lv_at hl 1 rfl) ?_
    refine va_get (D := (dC, dI)) (ci := 10) (v := .ref t_runs) (C := RX10) (T := TX10) (N := 9) hx hb htb iX10 hown hK hP 7 rfl rfl 4 (Nat.le_of_ble_eq_true rfl) (htb _ m_38) (fun _ h9 => h9) rfl dX10_add_76 ?_
    refine lv_iload hx hb dX10_add_79 (lv_at hl 0 rfl) ?_
    refine lv_aload_n hx hb dX10_add_81 rfl (lv_at hl 1 rfl) ?_
    refine va_get (D := (dC, dI)) (ci := 10) (v := .ref t_runs) (C := RX10) (T := TX10) (N := 9) hx hb htb iX10 hown hK hP 7 rfl rfl 4 (Nat.le_of_ble_eq_true rfl) (htb _ m_38) (fun _ h9 => h9) rfl dX10_add_82 ?_
    refine lv_iload_n hx hb dX10_add_85 rfl (lv_at hl 2 rfl) ?_
    refine va_zald hx hb hK hP 4 4 rfl rfl (by unfold vp_in; decide) dX10_add_86 ?_
    refine lv_tope (y := 1) (by rw [show Int32.toNatClampNeg 0 = 0 from by decide]; exact e_runs) ?_
    refine lv_if_eq (tgt := 104) hx hb dX10_add_87 (by decide) (fun c_7 => absurd c_7 (by decide)) ?_
    intro _
    refine lv_iload_n hx hb dX10_add_90 rfl (lv_at hl 4 rfl) ?_
    refine lv_aload_n hx hb dX10_add_91 rfl (lv_at hl 1 rfl) ?_
    refine va_get (D := (dC, dI)) (ci := 10) (v := .ref t_height) (C := RX10) (T := TX10) (N := 9) hx hb htb iX10 hown hK hP 7 rfl rfl 1 (Nat.le_of_ble_eq_true rfl) (htb _ m_35) (fun _ h9 => h9) rfl dX10_add_92 ?_
    refine lv_iload_n hx hb dX10_add_95 rfl (lv_at hl 2 rfl) ?_
    refine va_iald hx hb hK hP 1 1 rfl rfl (by unfold vp_in; decide) dX10_add_96 ?_
    refine lv_topi (fun x_8 ex_9 => ?_)
    refine lv_icmp_le (tgt := 104) hx hb dX10_add_97 (by decide) (fun c_10 => ?_) (fun c_10 => ?_)
    · refine lv_iconst (v := 0) hx hb dX10_add_104 (by decide) ?_
      refine va_zast hx hb hK hP hD hS 4 4 rfl rfl (by unfold vp_in; decide) dX10_add_105 ?_
      clear hP hD hS; intro H locs hP hD hS
      change va_P (dC, dI) vwCl [(t_to, .inl (k_to, 40, .inl (upd f_to (Int32.toNatClampNeg 1) 0))), (t_height, .inl (k_height, 40, .inl (upd (fun _ => 0) (Int32.toNatClampNeg 1) v3))), (t_member, .inl (k_member, 40, .inl (upd f_member (Int32.toNatClampNeg 1) v4))), (t_lengthHome, .inl (k_lengthHome, 40, .inl (upd (fun _ => 0) (Int32.toNatClampNeg 1) x_5))), (t_runs, .inl (k_runs, 40, .inl (upd f_runs (Int32.toNatClampNeg 1) (vp_nar .boolean 0)))), (t_vacuum, .inl (k_vacuum, 40, .inl (fun _ => 0))), (t_reading, .inl (k_reading, 40, .inl f_reading)), (h0, .inr (10, [.ref t_to, .ref t_height, .ref t_member, .ref t_lengthHome, .ref t_runs, .ref t_leak, .ref t_vacuum, .ref t_reading, .int 2]))] H at hP
      change va_D A [(t_to, .inl (k_to, 40, .inl (upd f_to (Int32.toNatClampNeg 1) 0))), (t_height, .inl (k_height, 40, .inl (upd (fun _ => 0) (Int32.toNatClampNeg 1) v3))), (t_member, .inl (k_member, 40, .inl (upd f_member (Int32.toNatClampNeg 1) v4))), (t_lengthHome, .inl (k_lengthHome, 40, .inl (upd (fun _ => 0) (Int32.toNatClampNeg 1) x_5))), (t_runs, .inl (k_runs, 40, .inl (upd f_runs (Int32.toNatClampNeg 1) (vp_nar .boolean 0)))), (t_vacuum, .inl (k_vacuum, 40, .inl (fun _ => 0))), (t_reading, .inl (k_reading, 40, .inl f_reading)), (h0, .inr (10, [.ref t_to, .ref t_height, .ref t_member, .ref t_lengthHome, .ref t_runs, .ref t_leak, .ref t_vacuum, .ref t_reading, .int 2]))] at hD
      refine lv_aload_n hx hb dX10_add_106 rfl (lv_at hl 1 rfl) ?_
      refine va_get (D := (dC, dI)) (ci := 10) (v := .ref t_vacuum) (C := RX10) (T := TX10) (N := 9) hx hb htb iX10 hown hK hP 7 rfl rfl 6 (Nat.le_of_ble_eq_true rfl) (htb _ m_40) (fun _ h9 => h9) rfl dX10_add_107 ?_
      refine lv_iload hx hb dX10_add_110 (lv_at hl 0 rfl) ?_
      refine lv_aload_n hx hb dX10_add_112 rfl (lv_at hl 1 rfl) ?_
      refine va_get (D := (dC, dI)) (ci := 10) (v := .ref t_vacuum) (C := RX10) (T := TX10) (N := 9) hx hb htb iX10 hown hK hP 7 rfl rfl 6 (Nat.le_of_ble_eq_true rfl) (htb _ m_40) (fun _ h9 => h9) rfl dX10_add_113 ?_
      refine lv_iload_n hx hb dX10_add_116 rfl (lv_at hl 2 rfl) ?_
      refine va_iald hx hb hK hP 5 5 rfl rfl (by unfold vp_in; decide) dX10_add_117 ?_
      refine lv_tope (y := 0) rfl ?_
      refine va_iast hx hb hK hP hD hS 5 5 rfl rfl (by unfold vp_in; decide) dX10_add_118 ?_
      clear hP hD hS; intro H locs hP hD hS
      change va_P (dC, dI) vwCl [(t_to, .inl (k_to, 40, .inl (upd f_to (Int32.toNatClampNeg 1) 0))), (t_height, .inl (k_height, 40, .inl (upd (fun _ => 0) (Int32.toNatClampNeg 1) v3))), (t_member, .inl (k_member, 40, .inl (upd f_member (Int32.toNatClampNeg 1) v4))), (t_lengthHome, .inl (k_lengthHome, 40, .inl (upd (fun _ => 0) (Int32.toNatClampNeg 1) x_5))), (t_runs, .inl (k_runs, 40, .inl (upd f_runs (Int32.toNatClampNeg 1) (vp_nar .boolean 0)))), (t_vacuum, .inl (k_vacuum, 40, .inl (upd (fun _ => 0) (Int32.toNatClampNeg 1) 0))), (t_reading, .inl (k_reading, 40, .inl f_reading)), (h0, .inr (10, [.ref t_to, .ref t_height, .ref t_member, .ref t_lengthHome, .ref t_runs, .ref t_leak, .ref t_vacuum, .ref t_reading, .int 2]))] H at hP
      change va_D A [(t_to, .inl (k_to, 40, .inl (upd f_to (Int32.toNatClampNeg 1) 0))), (t_height, .inl (k_height, 40, .inl (upd (fun _ => 0) (Int32.toNatClampNeg 1) v3))), (t_member, .inl (k_member, 40, .inl (upd f_member (Int32.toNatClampNeg 1) v4))), (t_lengthHome, .inl (k_lengthHome, 40, .inl (upd (fun _ => 0) (Int32.toNatClampNeg 1) x_5))), (t_runs, .inl (k_runs, 40, .inl (upd f_runs (Int32.toNatClampNeg 1) (vp_nar .boolean 0)))), (t_vacuum, .inl (k_vacuum, 40, .inl (upd (fun _ => 0) (Int32.toNatClampNeg 1) 0))), (t_reading, .inl (k_reading, 40, .inl f_reading)), (h0, .inr (10, [.ref t_to, .ref t_height, .ref t_member, .ref t_lengthHome, .ref t_runs, .ref t_leak, .ref t_vacuum, .ref t_reading, .int 2]))] at hD
      refine lv_aload_n hx hb dX10_add_119 rfl (lv_at hl 1 rfl) ?_
      refine va_get (D := (dC, dI)) (ci := 10) (v := .ref t_reading) (C := RX10) (T := TX10) (N := 9) hx hb htb iX10 hown hK hP 7 rfl rfl 7 (Nat.le_of_ble_eq_true rfl) (htb _ m_41) (fun _ h9 => h9) rfl dX10_add_120 ?_
      refine lv_iload hx hb dX10_add_123 (lv_at hl 0 rfl) ?_
      refine lv_iconst (v := (-1)) hx hb dX10_add_125 (by decide) ?_
      refine va_iast hx hb hK hP hD hS 6 6 rfl rfl (by unfold vp_in; decide) dX10_add_126 ?_
      clear hP hD hS; intro H locs hP hD hS
      change va_P (dC, dI) vwCl [(t_to, .inl (k_to, 40, .inl (upd f_to (Int32.toNatClampNeg 1) 0))), (t_height, .inl (k_height, 40, .inl (upd (fun _ => 0) (Int32.toNatClampNeg 1) v3))), (t_member, .inl (k_member, 40, .inl (upd f_member (Int32.toNatClampNeg 1) v4))), (t_lengthHome, .inl (k_lengthHome, 40, .inl (upd (fun _ => 0) (Int32.toNatClampNeg 1) x_5))), (t_runs, .inl (k_runs, 40, .inl (upd f_runs (Int32.toNatClampNeg 1) (vp_nar .boolean 0)))), (t_vacuum, .inl (k_vacuum, 40, .inl (upd (fun _ => 0) (Int32.toNatClampNeg 1) 0))), (t_reading, .inl (k_reading, 40, .inl (upd f_reading (Int32.toNatClampNeg 1) (-1)))), (h0, .inr (10, [.ref t_to, .ref t_height, .ref t_member, .ref t_lengthHome, .ref t_runs, .ref t_leak, .ref t_vacuum, .ref t_reading, .int 2]))] H at hP
      change va_D A [(t_to, .inl (k_to, 40, .inl (upd f_to (Int32.toNatClampNeg 1) 0))), (t_height, .inl (k_height, 40, .inl (upd (fun _ => 0) (Int32.toNatClampNeg 1) v3))), (t_member, .inl (k_member, 40, .inl (upd f_member (Int32.toNatClampNeg 1) v4))), (t_lengthHome, .inl (k_lengthHome, 40, .inl (upd (fun _ => 0) (Int32.toNatClampNeg 1) x_5))), (t_runs, .inl (k_runs, 40, .inl (upd f_runs (Int32.toNatClampNeg 1) (vp_nar .boolean 0)))), (t_vacuum, .inl (k_vacuum, 40, .inl (upd (fun _ => 0) (Int32.toNatClampNeg 1) 0))), (t_reading, .inl (k_reading, 40, .inl (upd f_reading (Int32.toNatClampNeg 1) (-1)))), (h0, .inr (10, [.ref t_to, .ref t_height, .ref t_member, .ref t_lengthHome, .ref t_runs, .ref t_leak, .ref t_vacuum, .ref t_reading, .int 2]))] at hD
      refine lv_iload hx hb dX10_add_127 (lv_at hl 0 rfl) ?_
      refine W.widen (k := 0) (n := 0) (Nat.le_of_ble_eq_true rfl) (Nat.le_of_ble_eq_true rfl) ?_
      exact W.iret (v := 1) hx hb hr (fun t ht hW => ⟨⟨1, (), rfl, (rfl), trivial⟩, hS.F ht⟩) hS.2.2 dX10_add_129
    · refine lv_iconst (v := 1) hx hb dX10_add_100 (by decide) ?_
      refine lv_goto (tgt := 105) hx hb dX10_add_101 (by decide) ?_
      refine va_zast hx hb hK hP hD hS 4 4 rfl rfl (by unfold vp_in; decide) dX10_add_105 ?_
      clear hP hD hS; intro H locs hP hD hS
      change va_P (dC, dI) vwCl [(t_to, .inl (k_to, 40, .inl (upd f_to (Int32.toNatClampNeg 1) 0))), (t_height, .inl (k_height, 40, .inl (upd (fun _ => 0) (Int32.toNatClampNeg 1) v3))), (t_member, .inl (k_member, 40, .inl (upd f_member (Int32.toNatClampNeg 1) v4))), (t_lengthHome, .inl (k_lengthHome, 40, .inl (upd (fun _ => 0) (Int32.toNatClampNeg 1) x_5))), (t_runs, .inl (k_runs, 40, .inl (upd f_runs (Int32.toNatClampNeg 1) (vp_nar .boolean 1)))), (t_vacuum, .inl (k_vacuum, 40, .inl (fun _ => 0))), (t_reading, .inl (k_reading, 40, .inl f_reading)), (h0, .inr (10, [.ref t_to, .ref t_height, .ref t_member, .ref t_lengthHome, .ref t_runs, .ref t_leak, .ref t_vacuum, .ref t_reading, .int 2]))] H at hP
      change va_D A [(t_to, .inl (k_to, 40, .inl (upd f_to (Int32.toNatClampNeg 1) 0))), (t_height, .inl (k_height, 40, .inl (upd (fun _ => 0) (Int32.toNatClampNeg 1) v3))), (t_member, .inl (k_member, 40, .inl (upd f_member (Int32.toNatClampNeg 1) v4))), (t_lengthHome, .inl (k_lengthHome, 40, .inl (upd (fun _ => 0) (Int32.toNatClampNeg 1) x_5))), (t_runs, .inl (k_runs, 40, .inl (upd f_runs (Int32.toNatClampNeg 1) (vp_nar .boolean 1)))), (t_vacuum, .inl (k_vacuum, 40, .inl (fun _ => 0))), (t_reading, .inl (k_reading, 40, .inl f_reading)), (h0, .inr (10, [.ref t_to, .ref t_height, .ref t_member, .ref t_lengthHome, .ref t_runs, .ref t_leak, .ref t_vacuum, .ref t_reading, .int 2]))] at hD
      refine lv_aload_n hx hb dX10_add_106 rfl (lv_at hl 1 rfl) ?_
      refine va_get (D := (dC, dI)) (ci := 10) (v := .ref t_vacuum) (C := RX10) (T := TX10) (N := 9) hx hb htb iX10 hown hK hP 7 rfl rfl 6 (Nat.le_of_ble_eq_true rfl) (htb _ m_40) (fun _ h9 => h9) rfl dX10_add_107 ?_
      refine lv_iload hx hb dX10_add_110 (lv_at hl 0 rfl) ?_
      refine lv_aload_n hx hb dX10_add_112 rfl (lv_at hl 1 rfl) ?_
      refine va_get (D := (dC, dI)) (ci := 10) (v := .ref t_vacuum) (C := RX10) (T := TX10) (N := 9) hx hb htb iX10 hown hK hP 7 rfl rfl 6 (Nat.le_of_ble_eq_true rfl) (htb _ m_40) (fun _ h9 => h9) rfl dX10_add_113 ?_
      refine lv_iload_n hx hb dX10_add_116 rfl (lv_at hl 2 rfl) ?_
      refine va_iald hx hb hK hP 5 5 rfl rfl (by unfold vp_in; decide) dX10_add_117 ?_
      refine lv_tope (y := 0) rfl ?_
      refine va_iast hx hb hK hP hD hS 5 5 rfl rfl (by unfold vp_in; decide) dX10_add_118 ?_
      clear hP hD hS; intro H locs hP hD hS
      change va_P (dC, dI) vwCl [(t_to, .inl (k_to, 40, .inl (upd f_to (Int32.toNatClampNeg 1) 0))), (t_height, .inl (k_height, 40, .inl (upd (fun _ => 0) (Int32.toNatClampNeg 1) v3))), (t_member, .inl (k_member, 40, .inl (upd f_member (Int32.toNatClampNeg 1) v4))), (t_lengthHome, .inl (k_lengthHome, 40, .inl (upd (fun _ => 0) (Int32.toNatClampNeg 1) x_5))), (t_runs, .inl (k_runs, 40, .inl (upd f_runs (Int32.toNatClampNeg 1) (vp_nar .boolean 1)))), (t_vacuum, .inl (k_vacuum, 40, .inl (upd (fun _ => 0) (Int32.toNatClampNeg 1) 0))), (t_reading, .inl (k_reading, 40, .inl f_reading)), (h0, .inr (10, [.ref t_to, .ref t_height, .ref t_member, .ref t_lengthHome, .ref t_runs, .ref t_leak, .ref t_vacuum, .ref t_reading, .int 2]))] H at hP
      change va_D A [(t_to, .inl (k_to, 40, .inl (upd f_to (Int32.toNatClampNeg 1) 0))), (t_height, .inl (k_height, 40, .inl (upd (fun _ => 0) (Int32.toNatClampNeg 1) v3))), (t_member, .inl (k_member, 40, .inl (upd f_member (Int32.toNatClampNeg 1) v4))), (t_lengthHome, .inl (k_lengthHome, 40, .inl (upd (fun _ => 0) (Int32.toNatClampNeg 1) x_5))), (t_runs, .inl (k_runs, 40, .inl (upd f_runs (Int32.toNatClampNeg 1) (vp_nar .boolean 1)))), (t_vacuum, .inl (k_vacuum, 40, .inl (upd (fun _ => 0) (Int32.toNatClampNeg 1) 0))), (t_reading, .inl (k_reading, 40, .inl f_reading)), (h0, .inr (10, [.ref t_to, .ref t_height, .ref t_member, .ref t_lengthHome, .ref t_runs, .ref t_leak, .ref t_vacuum, .ref t_reading, .int 2]))] at hD
      refine lv_aload_n hx hb dX10_add_119 rfl (lv_at hl 1 rfl) ?_
      refine va_get (D := (dC, dI)) (ci := 10) (v := .ref t_reading) (C := RX10) (T := TX10) (N := 9) hx hb htb iX10 hown hK hP 7 rfl rfl 7 (Nat.le_of_ble_eq_true rfl) (htb _ m_41) (fun _ h9 => h9) rfl dX10_add_120 ?_
      refine lv_iload hx hb dX10_add_123 (lv_at hl 0 rfl) ?_
      refine lv_iconst (v := (-1)) hx hb dX10_add_125 (by decide) ?_
      refine va_iast hx hb hK hP hD hS 6 6 rfl rfl (by unfold vp_in; decide) dX10_add_126 ?_
      clear hP hD hS; intro H locs hP hD hS
      change va_P (dC, dI) vwCl [(t_to, .inl (k_to, 40, .inl (upd f_to (Int32.toNatClampNeg 1) 0))), (t_height, .inl (k_height, 40, .inl (upd (fun _ => 0) (Int32.toNatClampNeg 1) v3))), (t_member, .inl (k_member, 40, .inl (upd f_member (Int32.toNatClampNeg 1) v4))), (t_lengthHome, .inl (k_lengthHome, 40, .inl (upd (fun _ => 0) (Int32.toNatClampNeg 1) x_5))), (t_runs, .inl (k_runs, 40, .inl (upd f_runs (Int32.toNatClampNeg 1) (vp_nar .boolean 1)))), (t_vacuum, .inl (k_vacuum, 40, .inl (upd (fun _ => 0) (Int32.toNatClampNeg 1) 0))), (t_reading, .inl (k_reading, 40, .inl (upd f_reading (Int32.toNatClampNeg 1) (-1)))), (h0, .inr (10, [.ref t_to, .ref t_height, .ref t_member, .ref t_lengthHome, .ref t_runs, .ref t_leak, .ref t_vacuum, .ref t_reading, .int 2]))] H at hP
      change va_D A [(t_to, .inl (k_to, 40, .inl (upd f_to (Int32.toNatClampNeg 1) 0))), (t_height, .inl (k_height, 40, .inl (upd (fun _ => 0) (Int32.toNatClampNeg 1) v3))), (t_member, .inl (k_member, 40, .inl (upd f_member (Int32.toNatClampNeg 1) v4))), (t_lengthHome, .inl (k_lengthHome, 40, .inl (upd (fun _ => 0) (Int32.toNatClampNeg 1) x_5))), (t_runs, .inl (k_runs, 40, .inl (upd f_runs (Int32.toNatClampNeg 1) (vp_nar .boolean 1)))), (t_vacuum, .inl (k_vacuum, 40, .inl (upd (fun _ => 0) (Int32.toNatClampNeg 1) 0))), (t_reading, .inl (k_reading, 40, .inl (upd f_reading (Int32.toNatClampNeg 1) (-1)))), (h0, .inr (10, [.ref t_to, .ref t_height, .ref t_member, .ref t_lengthHome, .ref t_runs, .ref t_leak, .ref t_vacuum, .ref t_reading, .int 2]))] at hD
      refine lv_iload hx hb dX10_add_127 (lv_at hl 0 rfl) ?_
      refine W.widen (k := 0) (n := 0) (Nat.le_of_ble_eq_true rfl) (Nat.le_of_ble_eq_true rfl) ?_
      exact W.iret (v := 1) hx hb hr (fun t ht hW => ⟨⟨1, (), rfl, (rfl), trivial⟩, hS.F ht⟩) hS.2.2 dX10_add_129
  · exact absurd h_3 (by decide)

set_option maxHeartbeats 4000000 in
set_option maxRecDepth 100000 in
theorem kX10_settleVacuum (l : Launch) (dC : Nat → ClassId) (dI : Nat → Nat → Nat) (sz : Nat) (h0 : Nat) (t_to : Nat) (t_height : Nat) (t_member : Nat) (t_lengthHome : Nat) (t_runs : Nat) (t_leak : Nat) (t_vacuum : Nat) (t_reading : Nat) : Met l yX10_settleVacuum (Cond.code yX10_settleVacuum cX10_settleVacuum 2 none :: bg) ({ frames := 0, cells := 0, slots := 0, locals := 0 }) (pcW dC dI [.ref h0] sz [(h0, .inr (10, [.ref t_to, .ref t_height, .ref t_member, .ref t_lengthHome, .ref t_runs, .ref t_leak, .ref t_vacuum, .ref t_reading, .int 1]))] []) (va_Qv (fun (u : Unit) => True) (fun (u : Unit) (t : State) => va_P (dC, dI) vwCl [(h0, .inr (10, [.ref t_to, .ref t_height, .ref t_member, .ref t_lengthHome, .ref t_runs, .ref t_leak, .ref t_vacuum, .ref t_reading, .int 1]))] t.heap ∧ va_K (dC, dI) vwCl [] t ∧ va_D (va_A [(h0, .inr (10, [.ref t_to, .ref t_height, .ref t_member, .ref t_lengthHome, .ref t_runs, .ref t_leak, .ref t_vacuum, .ref t_reading, .int 1]))] sz) [(h0, .inr (10, [.ref t_to, .ref t_height, .ref t_member, .ref t_lengthHome, .ref t_runs, .ref t_leak, .ref t_vacuum, .ref t_reading, .int 1]))]) (va_A [(h0, .inr (10, [.ref t_to, .ref t_height, .ref t_member, .ref t_lengthHome, .ref t_runs, .ref t_leak, .ref t_vacuum, .ref t_reading, .int 1]))] sz)) 0 0 (va_A [(h0, .inr (10, [.ref t_to, .ref t_height, .ref t_member, .ref t_lengthHome, .ref t_runs, .ref t_leak, .ref t_vacuum, .ref t_reading, .int 1]))] sz) := by
  refine Met.ofW (cc := cX10_settleVacuum) (maxL := 2) (ret := none) pnX10 rfl ?_
  intro p e s m args below meth c s₁ B hml hv
  obtain ⟨rfl, hsz, hP, hK, hD0, hN⟩ := hv
  have hx := B.exec
  have hb := B.bytes
  have hr := B.returns
  have htb : ∀ w ∈ bg, w.before [.ref h0].toArray s = true := fun w h => atoms_spec (ws := Cond.code yX10_settleVacuum cX10_settleVacuum 2 none :: bg) B.pre w (List.mem_cons_of_mem _ h)
  have hown : s.vm.findClass RX10 = some m.cls := findClass_of_methodNamed B.named
  have hlocks := B.notSynchronized
  subst hsz
  have hD := hD0.self (sz := s.heap.size)
  generalize hAe : va_A [(h0, .inr (10, [.ref t_to, .ref t_height, .ref t_member, .ref t_lengthHome, .ref t_runs, .ref t_leak, .ref t_vacuum, .ref t_reading, .int 1]))] s.heap.size = A at hD ⊢
  have hA : ∀ q : Nat, s.heap.size ≤ q → A q := fun q h => by rw [← hAe]; exact Or.inr h
  have hS : va_S A s.heap s.heap [] := va_S.rf
  have hl := lv_entry ([.ref h0]) (n := 2) (Nat.le_of_ble_eq_true rfl)
  rw [lg_entry_eq]
  generalize (lg_sl ([.ref h0]) ++ List.replicate (2 - (lg_sl ([.ref h0])).length) Slot.unset).toArray = ls at hl ⊢
  change lv_has ls 2 [(0, .ref h0)] at hl
  clear hD0 hAe
  refine go0 (wsP := fun H => va_P (dC, dI) vwCl [(h0, .inr (10, [.ref t_to, .ref t_height, .ref t_member, .ref t_lengthHome, .ref t_runs, .ref t_leak, .ref t_vacuum, .ref t_reading, .int 1]))] H) hP hS ?_
  clear hP hS; intro H locs hP hS
  change va_P (dC, dI) vwCl [(h0, .inr (10, [.ref t_to, .ref t_height, .ref t_member, .ref t_lengthHome, .ref t_runs, .ref t_leak, .ref t_vacuum, .ref t_reading, .int 1]))] H at hP
  refine lv_iconst (v := 1) hx hb dX10_settleVacuum_0 (by decide) ?_
  refine lv_istore_n (lv' := [(1, .int 1), (0, .ref h0)]) hx hb dX10_settleVacuum_1 rfl hl (by decide) rfl ?_
  clear hl; intro ls hl
  refine lv_iload_n hx hb dX10_settleVacuum_2 rfl (lv_at hl 0 rfl) ?_
  refine lv_aload_n hx hb dX10_settleVacuum_3 rfl (lv_at hl 1 rfl) ?_
  refine va_get (D := (dC, dI)) (ci := 10) (v := .int 1) (C := RX10) (T := TX10) (N := 9) hx hb htb iX10 hown hK hP 0 rfl rfl 8 (Nat.le_of_ble_eq_true rfl) (htb _ m_42) (fun _ h9 => h9) rfl dX10_settleVacuum_4 ?_
  refine lv_icmp_ge (tgt := 43) hx hb dX10_settleVacuum_7 (by decide) ?_ (fun c_1 => absurd (by decide) c_1)
  intro _
  refine W.widen (k := 0) (n := 0) (Nat.le_of_ble_eq_true rfl) (Nat.le_of_ble_eq_true rfl) ?_
  have hP9 := hP.sub (ws' := [(h0, .inr (10, [.ref t_to, .ref t_height, .ref t_member, .ref t_lengthHome, .ref t_runs, .ref t_leak, .ref t_vacuum, .ref t_reading, .int 1]))]) [0] rfl
  have hD9 := hD.sub (ws' := [(h0, .inr (10, [.ref t_to, .ref t_height, .ref t_member, .ref t_lengthHome, .ref t_runs, .ref t_leak, .ref t_vacuum, .ref t_reading, .int 1]))]) [0] (by decide) rfl
  have hK9 := hK.sub (tys' := []) [] rfl
  exact W.vret hx hb hr (fun t ht hW => ⟨⟨(), rfl, trivial, ⟨by rw [ht]; exact hP9, va_K.moved hW.alike hK9, hD9⟩⟩, hS.F ht⟩) hS.2.2 dX10_settleVacuum_43

set_option maxHeartbeats 4000000 in
set_option maxRecDepth 100000 in
theorem kX10_setHouseVacuum (l : Launch) (dC : Nat → ClassId) (dI : Nat → Nat → Nat) (sz : Nat) (h0 : Nat) (t_to : Nat) (t_height : Nat) (t_member : Nat) (t_lengthHome : Nat) (t_runs : Nat) (t_leak : Nat) (t_vacuum : Nat) (t_reading : Nat) (k_vacuum : ClassId) (f_vacuum : Nat → Int32) (v1 : Int32) : Met l yX10_setHouseVacuum (Cond.code yX10_setHouseVacuum cX10_setHouseVacuum 2 none :: bg) ({ frames := 1, cells := 0, slots := 0, locals := 21 }) (pcW dC dI [.ref h0, .int v1] sz [(h0, .inr (10, [.ref t_to, .ref t_height, .ref t_member, .ref t_lengthHome, .ref t_runs, .ref t_leak, .ref t_vacuum, .ref t_reading, .int 1])), (t_vacuum, .inl (k_vacuum, 40, .inl f_vacuum))] [(k_vacuum, .int)]) (va_Qv (fun (u : Unit) => True) (fun (u : Unit) (t : State) => True) (va_A [(h0, .inr (10, [.ref t_to, .ref t_height, .ref t_member, .ref t_lengthHome, .ref t_runs, .ref t_leak, .ref t_vacuum, .ref t_reading, .int 1])), (t_vacuum, .inl (k_vacuum, 40, .inl f_vacuum))] sz)) 0 0 (va_A [(h0, .inr (10, [.ref t_to, .ref t_height, .ref t_member, .ref t_lengthHome, .ref t_runs, .ref t_leak, .ref t_vacuum, .ref t_reading, .int 1])), (t_vacuum, .inl (k_vacuum, 40, .inl f_vacuum))] sz) := by
  refine Met.ofW (cc := cX10_setHouseVacuum) (maxL := 2) (ret := none) pnX10 rfl ?_
  intro p e s m args below meth c s₁ B hml hv
  obtain ⟨rfl, hsz, hP, hK, hD0, hN⟩ := hv
  have hx := B.exec
  have hb := B.bytes
  have hr := B.returns
  have htb : ∀ w ∈ bg, w.before [.ref h0, .int v1].toArray s = true := fun w h => atoms_spec (ws := Cond.code yX10_setHouseVacuum cX10_setHouseVacuum 2 none :: bg) B.pre w (List.mem_cons_of_mem _ h)
  have hown : s.vm.findClass RX10 = some m.cls := findClass_of_methodNamed B.named
  have hlocks := B.notSynchronized
  subst hsz
  have hD := hD0.self (sz := s.heap.size)
  generalize hAe : va_A [(h0, .inr (10, [.ref t_to, .ref t_height, .ref t_member, .ref t_lengthHome, .ref t_runs, .ref t_leak, .ref t_vacuum, .ref t_reading, .int 1])), (t_vacuum, .inl (k_vacuum, 40, .inl f_vacuum))] s.heap.size = A at hD ⊢
  have hA : ∀ q : Nat, s.heap.size ≤ q → A q := fun q h => by rw [← hAe]; exact Or.inr h
  have hS : va_S A s.heap s.heap [] := va_S.rf
  have hl := lv_entry ([.ref h0, .int v1]) (n := 2) (Nat.le_of_ble_eq_true rfl)
  rw [lg_entry_eq]
  generalize (lg_sl ([.ref h0, .int v1]) ++ List.replicate (2 - (lg_sl ([.ref h0, .int v1])).length) Slot.unset).toArray = ls at hl ⊢
  change lv_has ls 2 [(0, .ref h0), (1, .int v1)] at hl
  clear hD0 hAe
  refine go0 (wsP := fun H => va_P (dC, dI) vwCl [(h0, .inr (10, [.ref t_to, .ref t_height, .ref t_member, .ref t_lengthHome, .ref t_runs, .ref t_leak, .ref t_vacuum, .ref t_reading, .int 1])), (t_vacuum, .inl (k_vacuum, 40, .inl f_vacuum))] H) hP hS ?_
  clear hP hS; intro H locs hP hS
  change va_P (dC, dI) vwCl [(h0, .inr (10, [.ref t_to, .ref t_height, .ref t_member, .ref t_lengthHome, .ref t_runs, .ref t_leak, .ref t_vacuum, .ref t_reading, .int 1])), (t_vacuum, .inl (k_vacuum, 40, .inl f_vacuum))] H at hP
  refine lv_aload_n hx hb dX10_setHouseVacuum_0 rfl (lv_at hl 0 rfl) ?_
  refine va_get (D := (dC, dI)) (ci := 10) (v := .ref t_vacuum) (C := RX10) (T := TX10) (N := 9) hx hb htb iX10 hown hK hP 0 rfl rfl 6 (Nat.le_of_ble_eq_true rfl) (htb _ m_40) (fun _ h9 => h9) rfl dX10_setHouseVacuum_1 ?_
  refine lv_iconst (v := 0) hx hb dX10_setHouseVacuum_4 (by decide) ?_
  refine lv_iload_n hx hb dX10_setHouseVacuum_5 rfl (lv_at hl 1 rfl) ?_
  refine va_iast hx hb hK hP hD hS 1 0 rfl rfl (by unfold vp_in; decide) dX10_setHouseVacuum_6 ?_
  clear hP hD hS; intro H locs hP hD hS
  change va_P (dC, dI) vwCl [(h0, .inr (10, [.ref t_to, .ref t_height, .ref t_member, .ref t_lengthHome, .ref t_runs, .ref t_leak, .ref t_vacuum, .ref t_reading, .int 1])), (t_vacuum, .inl (k_vacuum, 40, .inl (upd f_vacuum (Int32.toNatClampNeg 0) v1)))] H at hP
  change va_D A [(h0, .inr (10, [.ref t_to, .ref t_height, .ref t_member, .ref t_lengthHome, .ref t_runs, .ref t_leak, .ref t_vacuum, .ref t_reading, .int 1])), (t_vacuum, .inl (k_vacuum, 40, .inl (upd f_vacuum (Int32.toNatClampNeg 0) v1)))] at hD
  refine lv_aload_n hx hb dX10_setHouseVacuum_7 rfl (lv_at hl 0 rfl) ?_
  have hPc := hP.sub (ws' := [(h0, .inr (10, [.ref t_to, .ref t_height, .ref t_member, .ref t_lengthHome, .ref t_runs, .ref t_leak, .ref t_vacuum, .ref t_reading, .int 1]))]) [0] rfl
  have hDc := hD.sub (ws' := [(h0, .inr (10, [.ref t_to, .ref t_height, .ref t_member, .ref t_lengthHome, .ref t_runs, .ref t_leak, .ref t_vacuum, .ref t_reading, .int 1]))]) [0] (by decide) rfl
  have hKc := hK.sub (tys' := []) [] rfl
  have hFc := va_free (wc := [(h0, .inr (10, [.ref t_to, .ref t_height, .ref t_member, .ref t_lengthHome, .ref t_runs, .ref t_leak, .ref t_vacuum, .ref t_reading, .int 1]))]) hD hS hA [0] rfl
  refine va_callv (va_runV (C := RX10) (As := []) (rest := []) ⟨hx, hb, hml, hown, htb⟩ (kX10_settleVacuum l dC dI H.size h0 t_to t_height t_member t_lengthHome t_runs t_leak t_vacuum t_reading ) ⟨callB_of 0 htb (gd_c m_430) rfl rfl rfl (htb _ m_2) (htb _ m_427) hdX10_settleVacuum ⟨(Nat.le_of_ble_eq_true rfl), (Nat.le_of_ble_eq_true rfl)⟩, htb _ m_429, htb _ ms_0⟩ ⟨pcW_blind, va_recv hKc hPc (ci := 10) (q0 := 0) rfl rfl, pcW_at hPc hKc hDc hN⟩ rfl rfl hl.1 rfl (lv_room (Nat.le_of_ble_eq_true rfl)) dX10_setHouseVacuum_8 ⟨(Nat.le_of_ble_eq_true rfl), (Nat.le_of_ble_eq_true rfl)⟩) hS (fun q _ h => hFc q h) hFc (fun u t H1 locs1 ht hvm h_2 hB hz1 hk1 hS1 => ?_)
  obtain ⟨hP1, hK1, hD1⟩ := hB
  rw [ht] at hP1
  obtain ⟨hPn, hDn⟩ := va_join (wr := [(t_vacuum, .inl (k_vacuum, 40, .inl (upd f_vacuum (Int32.toNatClampNeg 0) v1)))]) (w1 := [(h0, .inr (10, [.ref t_to, .ref t_height, .ref t_member, .ref t_lengthHome, .ref t_runs, .ref t_leak, .ref t_vacuum, .ref t_reading, .int 1]))]) hP hD [0] [1] rfl rfl (by decide) (by decide) hk1 hFc hP1 hD1
  clear hP1 hD1 hK1
  clear hP hD hS hPc hDc hKc hFc hk1 hz1 ht hvm
  clear t
  revert hS1 hPn hDn; generalize H1 = H; generalize locs1 = locs; intro hS hP hD
  change va_P (dC, dI) vwCl [(t_vacuum, .inl (k_vacuum, 40, .inl (upd f_vacuum (Int32.toNatClampNeg 0) v1))), (h0, .inr (10, [.ref t_to, .ref t_height, .ref t_member, .ref t_lengthHome, .ref t_runs, .ref t_leak, .ref t_vacuum, .ref t_reading, .int 1]))] H at hP
  change va_D A [(t_vacuum, .inl (k_vacuum, 40, .inl (upd f_vacuum (Int32.toNatClampNeg 0) v1))), (h0, .inr (10, [.ref t_to, .ref t_height, .ref t_member, .ref t_lengthHome, .ref t_runs, .ref t_leak, .ref t_vacuum, .ref t_reading, .int 1]))] at hD
  refine W.widen (k := 0) (n := 0) (Nat.le_of_ble_eq_true rfl) (Nat.le_of_ble_eq_true rfl) ?_
  exact W.vret hx hb hr (fun t ht hW => ⟨⟨(), rfl, trivial, trivial⟩, hS.F ht⟩) hS.2.2 dX10_setHouseVacuum_11

set_option maxHeartbeats 4000000 in
set_option maxRecDepth 100000 in
theorem kX10_suspectBy (l : Launch) (dC : Nat → ClassId) (dI : Nat → Nat → Nat) (sz : Nat) (h0 : Nat) (t_to : Nat) (t_height : Nat) (t_member : Nat) (t_lengthHome : Nat) (t_runs : Nat) (t_leak : Nat) (t_vacuum : Nat) (t_reading : Nat) : Met l yX10_suspectBy (Cond.code yX10_suspectBy cX10_suspectBy 2 (some .int) :: bg) ({ frames := 2, cells := 0, slots := 0, locals := 42 }) (pcW dC dI [.ref h0, .int 0] sz [(h0, .inr (10, [.ref t_to, .ref t_height, .ref t_member, .ref t_lengthHome, .ref t_runs, .ref t_leak, .ref t_vacuum, .ref t_reading, .int 1]))] []) (va_Qi (fun (r : Int32) (u : Unit) => r = 0) (fun (u : Unit) (t : State) => va_P (dC, dI) vwCl [(h0, .inr (10, [.ref t_to, .ref t_height, .ref t_member, .ref t_lengthHome, .ref t_runs, .ref t_leak, .ref t_vacuum, .ref t_reading, .int 1]))] t.heap ∧ va_K (dC, dI) vwCl [] t ∧ va_D (va_A [(h0, .inr (10, [.ref t_to, .ref t_height, .ref t_member, .ref t_lengthHome, .ref t_runs, .ref t_leak, .ref t_vacuum, .ref t_reading, .int 1]))] sz) [(h0, .inr (10, [.ref t_to, .ref t_height, .ref t_member, .ref t_lengthHome, .ref t_runs, .ref t_leak, .ref t_vacuum, .ref t_reading, .int 1]))]) (va_A [(h0, .inr (10, [.ref t_to, .ref t_height, .ref t_member, .ref t_lengthHome, .ref t_runs, .ref t_leak, .ref t_vacuum, .ref t_reading, .int 1]))] sz)) 0 0 (va_A [(h0, .inr (10, [.ref t_to, .ref t_height, .ref t_member, .ref t_lengthHome, .ref t_runs, .ref t_leak, .ref t_vacuum, .ref t_reading, .int 1]))] sz) := by
  refine Met.ofW (cc := cX10_suspectBy) (maxL := 2) (ret := (some .int)) pnX10 rfl ?_
  intro p e s m args below meth c s₁ B hml hv
  obtain ⟨rfl, hsz, hP, hK, hD0, hN⟩ := hv
  have hx := B.exec
  have hb := B.bytes
  have hr := B.returns
  have htb : ∀ w ∈ bg, w.before [.ref h0, .int 0].toArray s = true := fun w h => atoms_spec (ws := Cond.code yX10_suspectBy cX10_suspectBy 2 (some .int) :: bg) B.pre w (List.mem_cons_of_mem _ h)
  have hown : s.vm.findClass RX10 = some m.cls := findClass_of_methodNamed B.named
  have hlocks := B.notSynchronized
  subst hsz
  have hD := hD0.self (sz := s.heap.size)
  generalize hAe : va_A [(h0, .inr (10, [.ref t_to, .ref t_height, .ref t_member, .ref t_lengthHome, .ref t_runs, .ref t_leak, .ref t_vacuum, .ref t_reading, .int 1]))] s.heap.size = A at hD ⊢
  have hA : ∀ q : Nat, s.heap.size ≤ q → A q := fun q h => by rw [← hAe]; exact Or.inr h
  have hS : va_S A s.heap s.heap [] := va_S.rf
  have hl := lv_entry ([.ref h0, .int 0]) (n := 2) (Nat.le_of_ble_eq_true rfl)
  rw [lg_entry_eq]
  generalize (lg_sl ([.ref h0, .int 0]) ++ List.replicate (2 - (lg_sl ([.ref h0, .int 0])).length) Slot.unset).toArray = ls at hl ⊢
  change lv_has ls 2 [(0, .ref h0), (1, .int 0)] at hl
  clear hD0 hAe
  refine go0 (wsP := fun H => va_P (dC, dI) vwCl [(h0, .inr (10, [.ref t_to, .ref t_height, .ref t_member, .ref t_lengthHome, .ref t_runs, .ref t_leak, .ref t_vacuum, .ref t_reading, .int 1]))] H) hP hS ?_
  clear hP hS; intro H locs hP hS
  change va_P (dC, dI) vwCl [(h0, .inr (10, [.ref t_to, .ref t_height, .ref t_member, .ref t_lengthHome, .ref t_runs, .ref t_leak, .ref t_vacuum, .ref t_reading, .int 1]))] H at hP
  refine lv_aload_n hx hb dX10_suspectBy_0 rfl (lv_at hl 0 rfl) ?_
  refine lv_iload_n hx hb dX10_suspectBy_1 rfl (lv_at hl 1 rfl) ?_
  have hPc := hP.sub (ws' := [(h0, .inr (10, [.ref t_to, .ref t_height, .ref t_member, .ref t_lengthHome, .ref t_runs, .ref t_leak, .ref t_vacuum, .ref t_reading, .int 1]))]) [0] rfl
  have hDc := hD.sub (ws' := [(h0, .inr (10, [.ref t_to, .ref t_height, .ref t_member, .ref t_lengthHome, .ref t_runs, .ref t_leak, .ref t_vacuum, .ref t_reading, .int 1]))]) [0] (by decide) rfl
  have hKc := hK.sub (tys' := []) [] rfl
  have hFc := va_free (wc := [(h0, .inr (10, [.ref t_to, .ref t_height, .ref t_member, .ref t_lengthHome, .ref t_runs, .ref t_leak, .ref t_vacuum, .ref t_reading, .int 1]))]) hD hS hA [0] rfl
  refine va_calli (va_runV (C := RX10) (As := [.int 0]) (rest := []) ⟨hx, hb, hml, hown, htb⟩ (kX10_hasTube l dC dI H.size h0 t_to t_height t_member t_lengthHome t_runs t_leak t_vacuum t_reading 0 ) ⟨callB_of 1 htb (gd_c m_371) rfl rfl rfl (htb _ m_2) (htb _ m_426) hdX10_hasTube ⟨(Nat.le_of_ble_eq_true rfl), (Nat.le_of_ble_eq_true rfl)⟩, htb _ m_369, htb _ m_370⟩ ⟨pcW_blind, va_recv hKc hPc (ci := 10) (q0 := 0) rfl rfl, pcW_at hPc hKc hDc hN⟩ rfl rfl hl.1 rfl (lv_room (Nat.le_of_ble_eq_true rfl)) dX10_suspectBy_2 ⟨(Nat.le_of_ble_eq_true rfl), (Nat.le_of_ble_eq_true rfl)⟩) hS (fun q _ h => hFc q h) hFc (fun r_1 u t H1 locs1 ht hvm h_2 hB hz1 hk1 hS1 => ?_)
  obtain ⟨hP1, hK1, hD1⟩ := hB
  rw [ht] at hP1
  obtain ⟨hPn, hDn⟩ := va_join (wr := []) (w1 := [(h0, .inr (10, [.ref t_to, .ref t_height, .ref t_member, .ref t_lengthHome, .ref t_runs, .ref t_leak, .ref t_vacuum, .ref t_reading, .int 1]))]) hP hD [0] [] rfl rfl (by decide) (by decide) hk1 hFc hP1 hD1
  clear hP1 hD1 hK1
  clear hP hD hS hPc hDc hKc hFc hk1 hz1 ht hvm
  clear t
  revert hS1 hPn hDn; generalize H1 = H; generalize locs1 = locs; intro hS hP hD
  change va_P (dC, dI) vwCl [(h0, .inr (10, [.ref t_to, .ref t_height, .ref t_member, .ref t_lengthHome, .ref t_runs, .ref t_leak, .ref t_vacuum, .ref t_reading, .int 1]))] H at hP
  change va_D A [(h0, .inr (10, [.ref t_to, .ref t_height, .ref t_member, .ref t_lengthHome, .ref t_runs, .ref t_leak, .ref t_vacuum, .ref t_reading, .int 1]))] at hD
  subst h_2
  refine lv_if_eq (tgt := 18) hx hb dX10_suspectBy_5 (by decide) ?_ (fun c_3 => absurd (by decide) c_3)
  intro _
  refine lv_iconst (v := 0) hx hb dX10_suspectBy_18 (by decide) ?_
  refine W.widen (k := 0) (n := 0) (Nat.le_of_ble_eq_true rfl) (Nat.le_of_ble_eq_true rfl) ?_
  have hP9 := hP.sub (ws' := [(h0, .inr (10, [.ref t_to, .ref t_height, .ref t_member, .ref t_lengthHome, .ref t_runs, .ref t_leak, .ref t_vacuum, .ref t_reading, .int 1]))]) [0] rfl
  have hD9 := hD.sub (ws' := [(h0, .inr (10, [.ref t_to, .ref t_height, .ref t_member, .ref t_lengthHome, .ref t_runs, .ref t_leak, .ref t_vacuum, .ref t_reading, .int 1]))]) [0] (by decide) rfl
  have hK9 := hK.sub (tys' := []) [] rfl
  exact W.iret (v := 0) hx hb hr (fun t ht hW => ⟨⟨0, (), rfl, (rfl), ⟨by rw [ht]; exact hP9, va_K.moved hW.alike hK9, hD9⟩⟩, hS.F ht⟩) hS.2.2 dX10_suspectBy_19

theorem lf_X10_tell_0 (f_to : Nat → Int32) (f_member : Nat → Int32) (f_runs : Nat → Int32) (f_reading : Nat → Int32) (v2 : Int32) (e_to : f_to 0 = (-1)) (e_member : f_member 0 = (-1)) (e_runs : f_runs 0 = 1) (e_reading : f_reading 0 = (-1)) (e_4 : v2 = 0) : (-1) = sp_tell v2 := by
  first | (simp_all [sp_tell]; done) | grind [sp_tell]
theorem lf_X10_tell_1 (f_to : Nat → Int32) (f_member : Nat → Int32) (f_runs : Nat → Int32) (f_reading : Nat → Int32) (v2 : Int32) (e_to : f_to 0 = (-1)) (e_member : f_member 0 = (-1)) (e_runs : f_runs 0 = 1) (e_reading : f_reading 0 = (-1)) (e_4 : ¬ v2 = 0) (e_5 : v2 = 1) : 0 = sp_tell v2 := by
  first | (simp_all [sp_tell]; done) | grind [sp_tell]
theorem lf_X10_tell_2 (f_to : Nat → Int32) (f_member : Nat → Int32) (f_runs : Nat → Int32) (f_reading : Nat → Int32) (v2 : Int32) (e_to : f_to 0 = (-1)) (e_member : f_member 0 = (-1)) (e_runs : f_runs 0 = 1) (e_reading : f_reading 0 = (-1)) (e_4 : ¬ v2 = 0) (e_5 : ¬ v2 = 1) (e_6 : v2 = 2) : 1 = sp_tell v2 := by
  first | (simp_all [sp_tell]; done) | grind [sp_tell]
theorem lf_X10_tell_3 (f_to : Nat → Int32) (f_member : Nat → Int32) (f_runs : Nat → Int32) (f_reading : Nat → Int32) (v2 : Int32) (e_to : f_to 0 = (-1)) (e_member : f_member 0 = (-1)) (e_runs : f_runs 0 = 1) (e_reading : f_reading 0 = (-1)) (e_4 : ¬ v2 = 0) (e_5 : ¬ v2 = 1) (e_6 : ¬ v2 = 2) (e_8 : v2 = 3) : 0 = sp_tell v2 := by
  first | (simp_all [sp_tell]; done) | grind [sp_tell]
theorem lf_X10_tell_4 (f_to : Nat → Int32) (f_member : Nat → Int32) (f_runs : Nat → Int32) (f_reading : Nat → Int32) (v2 : Int32) (e_to : f_to 0 = (-1)) (e_member : f_member 0 = (-1)) (e_runs : f_runs 0 = 1) (e_reading : f_reading 0 = (-1)) (e_4 : ¬ v2 = 0) (e_5 : ¬ v2 = 1) (e_6 : ¬ v2 = 2) (e_8 : ¬ v2 = 3) (e_9 : v2 = 4) : (-1) = sp_tell v2 := by
  first | (simp_all [sp_tell]; done) | grind [sp_tell]
theorem lf_X10_tell_5 (f_to : Nat → Int32) (f_member : Nat → Int32) (f_runs : Nat → Int32) (f_reading : Nat → Int32) (v2 : Int32) (e_to : f_to 0 = (-1)) (e_member : f_member 0 = (-1)) (e_runs : f_runs 0 = 1) (e_reading : f_reading 0 = (-1)) (e_4 : ¬ v2 = 0) (e_5 : ¬ v2 = 1) (e_6 : ¬ v2 = 2) (e_8 : ¬ v2 = 3) (e_9 : ¬ v2 = 4) (e_10 : v2 = 5) : 0 = sp_tell v2 := by
  first | (simp_all [sp_tell]; done) | grind [sp_tell]
theorem lf_X10_tell_6 (f_to : Nat → Int32) (f_member : Nat → Int32) (f_runs : Nat → Int32) (f_reading : Nat → Int32) (v2 : Int32) (e_to : f_to 0 = (-1)) (e_member : f_member 0 = (-1)) (e_runs : f_runs 0 = 1) (e_reading : f_reading 0 = (-1)) (e_4 : ¬ v2 = 0) (e_5 : ¬ v2 = 1) (e_6 : ¬ v2 = 2) (e_8 : ¬ v2 = 3) (e_9 : ¬ v2 = 4) (e_10 : ¬ v2 = 5) (e_13 : v2 = 6) : (-1) = sp_tell v2 := by
  first | (simp_all [sp_tell]; done) | grind [sp_tell]
theorem lf_X10_tell_7 (f_to : Nat → Int32) (f_member : Nat → Int32) (f_runs : Nat → Int32) (f_reading : Nat → Int32) (v2 : Int32) (e_to : f_to 0 = (-1)) (e_member : f_member 0 = (-1)) (e_runs : f_runs 0 = 1) (e_reading : f_reading 0 = (-1)) (e_4 : ¬ v2 = 0) (e_5 : ¬ v2 = 1) (e_6 : ¬ v2 = 2) (e_8 : ¬ v2 = 3) (e_9 : ¬ v2 = 4) (e_10 : ¬ v2 = 5) (e_13 : ¬ v2 = 6) (e_14 : v2 = 7) : (-1) = sp_tell v2 := by
  first | (simp_all [sp_tell]; done) | grind [sp_tell]
theorem lf_X10_tell_8 (f_to : Nat → Int32) (f_member : Nat → Int32) (f_runs : Nat → Int32) (f_reading : Nat → Int32) (v2 : Int32) (e_to : f_to 0 = (-1)) (e_member : f_member 0 = (-1)) (e_runs : f_runs 0 = 1) (e_reading : f_reading 0 = (-1)) (e_4 : ¬ v2 = 0) (e_5 : ¬ v2 = 1) (e_6 : ¬ v2 = 2) (e_8 : ¬ v2 = 3) (e_9 : ¬ v2 = 4) (e_10 : ¬ v2 = 5) (e_13 : ¬ v2 = 6) (e_14 : ¬ v2 = 7) (e_15 : v2 = 8) : 0 = sp_tell v2 := by
  first | (simp_all [sp_tell]; done) | grind [sp_tell]
theorem lf_X10_tell_9 (f_to : Nat → Int32) (f_member : Nat → Int32) (f_runs : Nat → Int32) (f_reading : Nat → Int32) (v2 : Int32) (e_to : f_to 0 = (-1)) (e_member : f_member 0 = (-1)) (e_runs : f_runs 0 = 1) (e_reading : f_reading 0 = (-1)) (e_4 : ¬ v2 = 0) (e_5 : ¬ v2 = 1) (e_6 : ¬ v2 = 2) (e_8 : ¬ v2 = 3) (e_9 : ¬ v2 = 4) (e_10 : ¬ v2 = 5) (e_13 : ¬ v2 = 6) (e_14 : ¬ v2 = 7) (e_15 : ¬ v2 = 8) : (-1) = sp_tell v2 := by
  first | (simp_all [sp_tell]; done) | grind [sp_tell]
set_option maxHeartbeats 4000000 in
set_option maxRecDepth 100000 in
theorem kX10_tell (l : Launch) (dC : Nat → ClassId) (dI : Nat → Nat → Nat) (sz : Nat) (h0 : Nat) (t_to : Nat) (t_height : Nat) (t_member : Nat) (t_lengthHome : Nat) (t_runs : Nat) (t_leak : Nat) (t_vacuum : Nat) (t_reading : Nat) (k_to : ClassId) (k_height : ClassId) (k_member : ClassId) (k_lengthHome : ClassId) (k_runs : ClassId) (k_vacuum : ClassId) (k_reading : ClassId) (f_to : Nat → Int32) (f_member : Nat → Int32) (f_runs : Nat → Int32) (f_reading : Nat → Int32) (v2 : Int32) (e_to : f_to 0 = (-1)) (e_member : f_member 0 = (-1)) (e_runs : f_runs 0 = 1) (e_reading : f_reading 0 = (-1)) : Met l yX10_tell (Cond.code yX10_tell cX10_tell 3 (some .int) :: bg) ({ frames := 3, cells := 0, slots := 0, locals := 63 }) (pcW dC dI [.ref h0, .int 0, .int v2] sz [(h0, .inr (10, [.ref t_to, .ref t_height, .ref t_member, .ref t_lengthHome, .ref t_runs, .ref t_leak, .ref t_vacuum, .ref t_reading, .int 1])), (t_to, .inl (k_to, 40, .inl f_to)), (t_height, .inl (k_height, 40, .inl (fun _ => 0))), (t_member, .inl (k_member, 40, .inl f_member)), (t_lengthHome, .inl (k_lengthHome, 40, .inl (fun _ => 0))), (t_runs, .inl (k_runs, 40, .inl f_runs)), (t_vacuum, .inl (k_vacuum, 40, .inl (fun _ => 0))), (t_reading, .inl (k_reading, 40, .inl f_reading))] [(k_to, .int), (k_height, .int), (k_member, .int), (k_lengthHome, .int), (k_runs, .boolean), (k_vacuum, .int), (k_reading, .int)]) (va_Qi (fun (r : Int32) (u : Unit) => r = sp_tell v2) (fun (u : Unit) (t : State) => True) (va_A [(h0, .inr (10, [.ref t_to, .ref t_height, .ref t_member, .ref t_lengthHome, .ref t_runs, .ref t_leak, .ref t_vacuum, .ref t_reading, .int 1])), (t_to, .inl (k_to, 40, .inl f_to)), (t_height, .inl (k_height, 40, .inl (fun _ => 0))), (t_member, .inl (k_member, 40, .inl f_member)), (t_lengthHome, .inl (k_lengthHome, 40, .inl (fun _ => 0))), (t_runs, .inl (k_runs, 40, .inl f_runs)), (t_vacuum, .inl (k_vacuum, 40, .inl (fun _ => 0))), (t_reading, .inl (k_reading, 40, .inl f_reading))] sz)) 0 0 (va_A [(h0, .inr (10, [.ref t_to, .ref t_height, .ref t_member, .ref t_lengthHome, .ref t_runs, .ref t_leak, .ref t_vacuum, .ref t_reading, .int 1])), (t_to, .inl (k_to, 40, .inl f_to)), (t_height, .inl (k_height, 40, .inl (fun _ => 0))), (t_member, .inl (k_member, 40, .inl f_member)), (t_lengthHome, .inl (k_lengthHome, 40, .inl (fun _ => 0))), (t_runs, .inl (k_runs, 40, .inl f_runs)), (t_vacuum, .inl (k_vacuum, 40, .inl (fun _ => 0))), (t_reading, .inl (k_reading, 40, .inl f_reading))] sz) := by
  refine Met.ofW (cc := cX10_tell) (maxL := 3) (ret := (some .int)) pnX10 rfl ?_
  intro p e s m args below meth c s₁ B hml hv
  obtain ⟨rfl, hsz, hP, hK, hD0, hN⟩ := hv
  have hx := B.exec
  have hb := B.bytes
  have hr := B.returns
  have htb : ∀ w ∈ bg, w.before [.ref h0, .int 0, .int v2].toArray s = true := fun w h => atoms_spec (ws := Cond.code yX10_tell cX10_tell 3 (some .int) :: bg) B.pre w (List.mem_cons_of_mem _ h)
  have hown : s.vm.findClass RX10 = some m.cls := findClass_of_methodNamed B.named
  have hlocks := B.notSynchronized
  subst hsz
  have hD := hD0.self (sz := s.heap.size)
  generalize hAe : va_A [(h0, .inr (10, [.ref t_to, .ref t_height, .ref t_member, .ref t_lengthHome, .ref t_runs, .ref t_leak, .ref t_vacuum, .ref t_reading, .int 1])), (t_to, .inl (k_to, 40, .inl f_to)), (t_height, .inl (k_height, 40, .inl (fun _ => 0))), (t_member, .inl (k_member, 40, .inl f_member)), (t_lengthHome, .inl (k_lengthHome, 40, .inl (fun _ => 0))), (t_runs, .inl (k_runs, 40, .inl f_runs)), (t_vacuum, .inl (k_vacuum, 40, .inl (fun _ => 0))), (t_reading, .inl (k_reading, 40, .inl f_reading))] s.heap.size = A at hD ⊢
  have hA : ∀ q : Nat, s.heap.size ≤ q → A q := fun q h => by rw [← hAe]; exact Or.inr h
  have hS : va_S A s.heap s.heap [] := va_S.rf
  have hl := lv_entry ([.ref h0, .int 0, .int v2]) (n := 3) (Nat.le_of_ble_eq_true rfl)
  rw [lg_entry_eq]
  generalize (lg_sl ([.ref h0, .int 0, .int v2]) ++ List.replicate (3 - (lg_sl ([.ref h0, .int 0, .int v2])).length) Slot.unset).toArray = ls at hl ⊢
  change lv_has ls 3 [(0, .ref h0), (1, .int 0), (2, .int v2)] at hl
  clear hD0 hAe
  refine go0 (wsP := fun H => va_P (dC, dI) vwCl [(h0, .inr (10, [.ref t_to, .ref t_height, .ref t_member, .ref t_lengthHome, .ref t_runs, .ref t_leak, .ref t_vacuum, .ref t_reading, .int 1])), (t_to, .inl (k_to, 40, .inl f_to)), (t_height, .inl (k_height, 40, .inl (fun _ => 0))), (t_member, .inl (k_member, 40, .inl f_member)), (t_lengthHome, .inl (k_lengthHome, 40, .inl (fun _ => 0))), (t_runs, .inl (k_runs, 40, .inl f_runs)), (t_vacuum, .inl (k_vacuum, 40, .inl (fun _ => 0))), (t_reading, .inl (k_reading, 40, .inl f_reading))] H) hP hS ?_
  clear hP hS; intro H locs hP hS
  change va_P (dC, dI) vwCl [(h0, .inr (10, [.ref t_to, .ref t_height, .ref t_member, .ref t_lengthHome, .ref t_runs, .ref t_leak, .ref t_vacuum, .ref t_reading, .int 1])), (t_to, .inl (k_to, 40, .inl f_to)), (t_height, .inl (k_height, 40, .inl (fun _ => 0))), (t_member, .inl (k_member, 40, .inl f_member)), (t_lengthHome, .inl (k_lengthHome, 40, .inl (fun _ => 0))), (t_runs, .inl (k_runs, 40, .inl f_runs)), (t_vacuum, .inl (k_vacuum, 40, .inl (fun _ => 0))), (t_reading, .inl (k_reading, 40, .inl f_reading))] H at hP
  refine lv_aload_n hx hb dX10_tell_0 rfl (lv_at hl 0 rfl) ?_
  refine lv_iload_n hx hb dX10_tell_1 rfl (lv_at hl 1 rfl) ?_
  have hPc := hP.sub (ws' := [(h0, .inr (10, [.ref t_to, .ref t_height, .ref t_member, .ref t_lengthHome, .ref t_runs, .ref t_leak, .ref t_vacuum, .ref t_reading, .int 1]))]) [0] rfl
  have hDc := hD.sub (ws' := [(h0, .inr (10, [.ref t_to, .ref t_height, .ref t_member, .ref t_lengthHome, .ref t_runs, .ref t_leak, .ref t_vacuum, .ref t_reading, .int 1]))]) [0] (by decide) rfl
  have hKc := hK.sub (tys' := []) [] rfl
  have hFc := va_free (wc := [(h0, .inr (10, [.ref t_to, .ref t_height, .ref t_member, .ref t_lengthHome, .ref t_runs, .ref t_leak, .ref t_vacuum, .ref t_reading, .int 1]))]) hD hS hA [0] rfl
  refine va_calli (va_runV (C := RX10) (As := [.int 0]) (rest := []) ⟨hx, hb, hml, hown, htb⟩ (kX10_has l dC dI H.size h0 t_to t_height t_member t_lengthHome t_runs t_leak t_vacuum t_reading 0 ) ⟨callB_of 1 htb (gd_c m_352) rfl rfl rfl (htb _ m_2) (htb _ m_363) hdX10_has ⟨(Nat.le_of_ble_eq_true rfl), (Nat.le_of_ble_eq_true rfl)⟩, htb _ m_350, htb _ m_351⟩ ⟨pcW_blind, va_recv hKc hPc (ci := 10) (q0 := 0) rfl rfl, pcW_at hPc hKc hDc hN⟩ rfl rfl hl.1 rfl (lv_room (Nat.le_of_ble_eq_true rfl)) dX10_tell_2 ⟨(Nat.le_of_ble_eq_true rfl), (Nat.le_of_ble_eq_true rfl)⟩) hS (fun q _ h => hFc q h) hFc (fun r_1 u t H1 locs1 ht hvm h_2 hB hz1 hk1 hS1 => ?_)
  obtain ⟨hP1, hK1, hD1⟩ := hB
  rw [ht] at hP1
  obtain ⟨hPn, hDn⟩ := va_join (wr := [(t_to, .inl (k_to, 40, .inl f_to)), (t_height, .inl (k_height, 40, .inl (fun _ => 0))), (t_member, .inl (k_member, 40, .inl f_member)), (t_lengthHome, .inl (k_lengthHome, 40, .inl (fun _ => 0))), (t_runs, .inl (k_runs, 40, .inl f_runs)), (t_vacuum, .inl (k_vacuum, 40, .inl (fun _ => 0))), (t_reading, .inl (k_reading, 40, .inl f_reading))]) (w1 := [(h0, .inr (10, [.ref t_to, .ref t_height, .ref t_member, .ref t_lengthHome, .ref t_runs, .ref t_leak, .ref t_vacuum, .ref t_reading, .int 1]))]) hP hD [0] [1, 2, 3, 4, 5, 6, 7] rfl rfl (by decide) (by decide) hk1 hFc hP1 hD1
  clear hP1 hD1 hK1
  clear hP hD hS hPc hDc hKc hFc hk1 hz1 ht hvm
  clear t
  revert hS1 hPn hDn; generalize H1 = H; generalize locs1 = locs; intro hS hP hD
  change va_P (dC, dI) vwCl [(t_to, .inl (k_to, 40, .inl f_to)), (t_height, .inl (k_height, 40, .inl (fun _ => 0))), (t_member, .inl (k_member, 40, .inl f_member)), (t_lengthHome, .inl (k_lengthHome, 40, .inl (fun _ => 0))), (t_runs, .inl (k_runs, 40, .inl f_runs)), (t_vacuum, .inl (k_vacuum, 40, .inl (fun _ => 0))), (t_reading, .inl (k_reading, 40, .inl f_reading)), (h0, .inr (10, [.ref t_to, .ref t_height, .ref t_member, .ref t_lengthHome, .ref t_runs, .ref t_leak, .ref t_vacuum, .ref t_reading, .int 1]))] H at hP
  change va_D A [(t_to, .inl (k_to, 40, .inl f_to)), (t_height, .inl (k_height, 40, .inl (fun _ => 0))), (t_member, .inl (k_member, 40, .inl f_member)), (t_lengthHome, .inl (k_lengthHome, 40, .inl (fun _ => 0))), (t_runs, .inl (k_runs, 40, .inl f_runs)), (t_vacuum, .inl (k_vacuum, 40, .inl (fun _ => 0))), (t_reading, .inl (k_reading, 40, .inl f_reading)), (h0, .inr (10, [.ref t_to, .ref t_height, .ref t_member, .ref t_lengthHome, .ref t_runs, .ref t_leak, .ref t_vacuum, .ref t_reading, .int 1]))] at hD
  rcases h_2 with ⟨rfl, h_2⟩ | ⟨rfl, h_2⟩
  · refine lv_if_ne (tgt := 10) hx hb dX10_tell_5 (by decide) ?_ (fun c_3 => absurd c_3 (by decide))
    intro _
    refine lv_iload_n hx hb dX10_tell_10 rfl (lv_at hl 2 rfl) ?_
    by_cases e_4 : v2 = 0
    · refine lv_tableIn (tgt := 60) (off := 49) hx hb dX10_tell_11 (by rw [e_4]; decide) (by rw [e_4]; decide) (by rw [e_4]; rfl) (by decide) ?_
      refine lv_aload_n hx hb dX10_tell_60 rfl (lv_at hl 0 rfl) ?_
      refine va_get (D := (dC, dI)) (ci := 10) (v := .ref t_to) (C := RX10) (T := TX10) (N := 9) hx hb htb iX10 hown hK hP 7 rfl rfl 0 (Nat.le_of_ble_eq_true rfl) (htb _ m_34) (fun _ h9 => h9) rfl dX10_tell_61 ?_
      refine lv_iload_n hx hb dX10_tell_64 rfl (lv_at hl 1 rfl) ?_
      refine va_iald hx hb hK hP 0 0 rfl rfl (by unfold vp_in; decide) dX10_tell_65 ?_
      refine lv_tope (y := (-1)) (by rw [show Int32.toNatClampNeg 0 = 0 from by decide]; exact e_to) ?_
      refine W.widen (k := 0) (n := 0) (Nat.le_of_ble_eq_true rfl) (Nat.le_of_ble_eq_true rfl) ?_
      exact W.iret (v := (-1)) hx hb hr (fun t ht hW => ⟨⟨(-1), (), rfl, (lf_X10_tell_0 f_to f_member f_runs f_reading v2 e_to e_member e_runs e_reading e_4), trivial⟩, hS.F ht⟩) hS.2.2 dX10_tell_66
    by_cases e_5 : v2 = 1
    · refine lv_tableIn (tgt := 67) (off := 56) hx hb dX10_tell_11 (by rw [e_5]; decide) (by rw [e_5]; decide) (by rw [e_5]; rfl) (by decide) ?_
      refine lv_aload_n hx hb dX10_tell_67 rfl (lv_at hl 0 rfl) ?_
      refine va_get (D := (dC, dI)) (ci := 10) (v := .ref t_height) (C := RX10) (T := TX10) (N := 9) hx hb htb iX10 hown hK hP 7 rfl rfl 1 (Nat.le_of_ble_eq_true rfl) (htb _ m_35) (fun _ h9 => h9) rfl dX10_tell_68 ?_
      refine lv_iload_n hx hb dX10_tell_71 rfl (lv_at hl 1 rfl) ?_
      refine va_iald hx hb hK hP 1 1 rfl rfl (by unfold vp_in; decide) dX10_tell_72 ?_
      refine lv_tope (y := 0) rfl ?_
      refine W.widen (k := 0) (n := 0) (Nat.le_of_ble_eq_true rfl) (Nat.le_of_ble_eq_true rfl) ?_
      exact W.iret (v := 0) hx hb hr (fun t ht hW => ⟨⟨0, (), rfl, (lf_X10_tell_1 f_to f_member f_runs f_reading v2 e_to e_member e_runs e_reading e_4 e_5), trivial⟩, hS.F ht⟩) hS.2.2 dX10_tell_73
    by_cases e_6 : v2 = 2
    · refine lv_tableIn (tgt := 74) (off := 63) hx hb dX10_tell_11 (by rw [e_6]; decide) (by rw [e_6]; decide) (by rw [e_6]; rfl) (by decide) ?_
      refine lv_aload_n hx hb dX10_tell_74 rfl (lv_at hl 0 rfl) ?_
      refine va_get (D := (dC, dI)) (ci := 10) (v := .ref t_runs) (C := RX10) (T := TX10) (N := 9) hx hb htb iX10 hown hK hP 7 rfl rfl 4 (Nat.le_of_ble_eq_true rfl) (htb _ m_38) (fun _ h9 => h9) rfl dX10_tell_75 ?_
      refine lv_iload_n hx hb dX10_tell_78 rfl (lv_at hl 1 rfl) ?_
      refine va_zald hx hb hK hP 4 4 rfl rfl (by unfold vp_in; decide) dX10_tell_79 ?_
      refine lv_tope (y := 1) (by rw [show Int32.toNatClampNeg 0 = 0 from by decide]; exact e_runs) ?_
      refine lv_if_eq (tgt := 87) hx hb dX10_tell_80 (by decide) (fun c_7 => absurd c_7 (by decide)) ?_
      intro _
      refine lv_iconst (v := 1) hx hb dX10_tell_83 (by decide) ?_
      refine lv_goto (tgt := 88) hx hb dX10_tell_84 (by decide) ?_
      refine W.widen (k := 0) (n := 0) (Nat.le_of_ble_eq_true rfl) (Nat.le_of_ble_eq_true rfl) ?_
      exact W.iret (v := 1) hx hb hr (fun t ht hW => ⟨⟨1, (), rfl, (lf_X10_tell_2 f_to f_member f_runs f_reading v2 e_to e_member e_runs e_reading e_4 e_5 e_6), trivial⟩, hS.F ht⟩) hS.2.2 dX10_tell_88
    by_cases e_8 : v2 = 3
    · refine lv_tableIn (tgt := 89) (off := 78) hx hb dX10_tell_11 (by rw [e_8]; decide) (by rw [e_8]; decide) (by rw [e_8]; rfl) (by decide) ?_
      refine lv_aload_n hx hb dX10_tell_89 rfl (lv_at hl 0 rfl) ?_
      refine va_get (D := (dC, dI)) (ci := 10) (v := .ref t_vacuum) (C := RX10) (T := TX10) (N := 9) hx hb htb iX10 hown hK hP 7 rfl rfl 6 (Nat.le_of_ble_eq_true rfl) (htb _ m_40) (fun _ h9 => h9) rfl dX10_tell_90 ?_
      refine lv_iload_n hx hb dX10_tell_93 rfl (lv_at hl 1 rfl) ?_
      refine va_iald hx hb hK hP 5 5 rfl rfl (by unfold vp_in; decide) dX10_tell_94 ?_
      refine lv_tope (y := 0) rfl ?_
      refine W.widen (k := 0) (n := 0) (Nat.le_of_ble_eq_true rfl) (Nat.le_of_ble_eq_true rfl) ?_
      exact W.iret (v := 0) hx hb hr (fun t ht hW => ⟨⟨0, (), rfl, (lf_X10_tell_3 f_to f_member f_runs f_reading v2 e_to e_member e_runs e_reading e_4 e_5 e_6 e_8), trivial⟩, hS.F ht⟩) hS.2.2 dX10_tell_95
    by_cases e_9 : v2 = 4
    · refine lv_tableIn (tgt := 96) (off := 85) hx hb dX10_tell_11 (by rw [e_9]; decide) (by rw [e_9]; decide) (by rw [e_9]; rfl) (by decide) ?_
      refine lv_aload_n hx hb dX10_tell_96 rfl (lv_at hl 0 rfl) ?_
      refine va_get (D := (dC, dI)) (ci := 10) (v := .ref t_reading) (C := RX10) (T := TX10) (N := 9) hx hb htb iX10 hown hK hP 7 rfl rfl 7 (Nat.le_of_ble_eq_true rfl) (htb _ m_41) (fun _ h9 => h9) rfl dX10_tell_97 ?_
      refine lv_iload_n hx hb dX10_tell_100 rfl (lv_at hl 1 rfl) ?_
      refine va_iald hx hb hK hP 6 6 rfl rfl (by unfold vp_in; decide) dX10_tell_101 ?_
      refine lv_tope (y := (-1)) (by rw [show Int32.toNatClampNeg 0 = 0 from by decide]; exact e_reading) ?_
      refine W.widen (k := 0) (n := 0) (Nat.le_of_ble_eq_true rfl) (Nat.le_of_ble_eq_true rfl) ?_
      exact W.iret (v := (-1)) hx hb hr (fun t ht hW => ⟨⟨(-1), (), rfl, (lf_X10_tell_4 f_to f_member f_runs f_reading v2 e_to e_member e_runs e_reading e_4 e_5 e_6 e_8 e_9), trivial⟩, hS.F ht⟩) hS.2.2 dX10_tell_102
    by_cases e_10 : v2 = 5
    · refine lv_tableIn (tgt := 103) (off := 92) hx hb dX10_tell_11 (by rw [e_10]; decide) (by rw [e_10]; decide) (by rw [e_10]; rfl) (by decide) ?_
      refine lv_aload_n hx hb dX10_tell_103 rfl (lv_at hl 0 rfl) ?_
      refine lv_iload_n hx hb dX10_tell_104 rfl (lv_at hl 1 rfl) ?_
      have hPc := hP.sub (ws' := [(h0, .inr (10, [.ref t_to, .ref t_height, .ref t_member, .ref t_lengthHome, .ref t_runs, .ref t_leak, .ref t_vacuum, .ref t_reading, .int 1]))]) [7] rfl
      have hDc := hD.sub (ws' := [(h0, .inr (10, [.ref t_to, .ref t_height, .ref t_member, .ref t_lengthHome, .ref t_runs, .ref t_leak, .ref t_vacuum, .ref t_reading, .int 1]))]) [7] (by decide) rfl
      have hKc := hK.sub (tys' := []) [] rfl
      have hFc := va_free (wc := [(h0, .inr (10, [.ref t_to, .ref t_height, .ref t_member, .ref t_lengthHome, .ref t_runs, .ref t_leak, .ref t_vacuum, .ref t_reading, .int 1]))]) hD hS hA [7] rfl
      refine va_calli (va_runV (C := RX10) (As := [.int 0]) (rest := []) ⟨hx, hb, hml, hown, htb⟩ (kX10_suspectBy l dC dI H.size h0 t_to t_height t_member t_lengthHome t_runs t_leak t_vacuum t_reading ) ⟨callB_of 1 htb (gd_c m_469) rfl rfl rfl (htb _ m_2) (htb _ m_466) hdX10_suspectBy ⟨(Nat.le_of_ble_eq_true rfl), (Nat.le_of_ble_eq_true rfl)⟩, htb _ m_468, htb _ ms_1⟩ ⟨pcW_blind, va_recv hKc hPc (ci := 10) (q0 := 0) rfl rfl, pcW_at hPc hKc hDc hN⟩ rfl rfl hl.1 rfl (lv_room (Nat.le_of_ble_eq_true rfl)) dX10_tell_105 ⟨(Nat.le_of_ble_eq_true rfl), (Nat.le_of_ble_eq_true rfl)⟩) hS (fun q _ h => hFc q h) hFc (fun r_11 u t H1 locs1 ht hvm h_12 hB hz1 hk1 hS1 => ?_)
      obtain ⟨hP1, hK1, hD1⟩ := hB
      rw [ht] at hP1
      obtain ⟨hPn, hDn⟩ := va_join (wr := [(t_to, .inl (k_to, 40, .inl f_to)), (t_height, .inl (k_height, 40, .inl (fun _ => 0))), (t_member, .inl (k_member, 40, .inl f_member)), (t_lengthHome, .inl (k_lengthHome, 40, .inl (fun _ => 0))), (t_runs, .inl (k_runs, 40, .inl f_runs)), (t_vacuum, .inl (k_vacuum, 40, .inl (fun _ => 0))), (t_reading, .inl (k_reading, 40, .inl f_reading))]) (w1 := [(h0, .inr (10, [.ref t_to, .ref t_height, .ref t_member, .ref t_lengthHome, .ref t_runs, .ref t_leak, .ref t_vacuum, .ref t_reading, .int 1]))]) hP hD [7] [0, 1, 2, 3, 4, 5, 6] rfl rfl (by decide) (by decide) hk1 hFc hP1 hD1
      clear hP1 hD1 hK1
      clear hP hD hS hPc hDc hKc hFc hk1 hz1 ht hvm
      clear t
      revert hS1 hPn hDn; generalize H1 = H; generalize locs1 = locs; intro hS hP hD
      change va_P (dC, dI) vwCl [(t_to, .inl (k_to, 40, .inl f_to)), (t_height, .inl (k_height, 40, .inl (fun _ => 0))), (t_member, .inl (k_member, 40, .inl f_member)), (t_lengthHome, .inl (k_lengthHome, 40, .inl (fun _ => 0))), (t_runs, .inl (k_runs, 40, .inl f_runs)), (t_vacuum, .inl (k_vacuum, 40, .inl (fun _ => 0))), (t_reading, .inl (k_reading, 40, .inl f_reading)), (h0, .inr (10, [.ref t_to, .ref t_height, .ref t_member, .ref t_lengthHome, .ref t_runs, .ref t_leak, .ref t_vacuum, .ref t_reading, .int 1]))] H at hP
      change va_D A [(t_to, .inl (k_to, 40, .inl f_to)), (t_height, .inl (k_height, 40, .inl (fun _ => 0))), (t_member, .inl (k_member, 40, .inl f_member)), (t_lengthHome, .inl (k_lengthHome, 40, .inl (fun _ => 0))), (t_runs, .inl (k_runs, 40, .inl f_runs)), (t_vacuum, .inl (k_vacuum, 40, .inl (fun _ => 0))), (t_reading, .inl (k_reading, 40, .inl f_reading)), (h0, .inr (10, [.ref t_to, .ref t_height, .ref t_member, .ref t_lengthHome, .ref t_runs, .ref t_leak, .ref t_vacuum, .ref t_reading, .int 1]))] at hD
      subst h_12
      refine W.widen (k := 0) (n := 0) (Nat.le_of_ble_eq_true rfl) (Nat.le_of_ble_eq_true rfl) ?_
      exact W.iret (v := 0) hx hb hr (fun t ht hW => ⟨⟨0, (), rfl, (lf_X10_tell_5 f_to f_member f_runs f_reading v2 e_to e_member e_runs e_reading e_4 e_5 e_6 e_8 e_9 e_10), trivial⟩, hS.F ht⟩) hS.2.2 dX10_tell_108
    by_cases e_13 : v2 = 6
    · refine lv_tableIn (tgt := 123) (off := 112) hx hb dX10_tell_11 (by rw [e_13]; decide) (by rw [e_13]; decide) (by rw [e_13]; rfl) (by decide) ?_
      refine lv_iconst (v := (-1)) hx hb dX10_tell_123 (by decide) ?_
      refine W.widen (k := 0) (n := 0) (Nat.le_of_ble_eq_true rfl) (Nat.le_of_ble_eq_true rfl) ?_
      exact W.iret (v := (-1)) hx hb hr (fun t ht hW => ⟨⟨(-1), (), rfl, (lf_X10_tell_6 f_to f_member f_runs f_reading v2 e_to e_member e_runs e_reading e_4 e_5 e_6 e_8 e_9 e_10 e_13), trivial⟩, hS.F ht⟩) hS.2.2 dX10_tell_124
    by_cases e_14 : v2 = 7
    · refine lv_tableIn (tgt := 109) (off := 98) hx hb dX10_tell_11 (by rw [e_14]; decide) (by rw [e_14]; decide) (by rw [e_14]; rfl) (by decide) ?_
      refine lv_aload_n hx hb dX10_tell_109 rfl (lv_at hl 0 rfl) ?_
      refine va_get (D := (dC, dI)) (ci := 10) (v := .ref t_member) (C := RX10) (T := TX10) (N := 9) hx hb htb iX10 hown hK hP 7 rfl rfl 2 (Nat.le_of_ble_eq_true rfl) (htb _ m_36) (fun _ h9 => h9) rfl dX10_tell_110 ?_
      refine lv_iload_n hx hb dX10_tell_113 rfl (lv_at hl 1 rfl) ?_
      refine va_iald hx hb hK hP 2 2 rfl rfl (by unfold vp_in; decide) dX10_tell_114 ?_
      refine lv_tope (y := (-1)) (by rw [show Int32.toNatClampNeg 0 = 0 from by decide]; exact e_member) ?_
      refine W.widen (k := 0) (n := 0) (Nat.le_of_ble_eq_true rfl) (Nat.le_of_ble_eq_true rfl) ?_
      exact W.iret (v := (-1)) hx hb hr (fun t ht hW => ⟨⟨(-1), (), rfl, (lf_X10_tell_7 f_to f_member f_runs f_reading v2 e_to e_member e_runs e_reading e_4 e_5 e_6 e_8 e_9 e_10 e_13 e_14), trivial⟩, hS.F ht⟩) hS.2.2 dX10_tell_115
    by_cases e_15 : v2 = 8
    · refine lv_tableIn (tgt := 116) (off := 105) hx hb dX10_tell_11 (by rw [e_15]; decide) (by rw [e_15]; decide) (by rw [e_15]; rfl) (by decide) ?_
      refine lv_aload_n hx hb dX10_tell_116 rfl (lv_at hl 0 rfl) ?_
      refine va_get (D := (dC, dI)) (ci := 10) (v := .ref t_lengthHome) (C := RX10) (T := TX10) (N := 9) hx hb htb iX10 hown hK hP 7 rfl rfl 3 (Nat.le_of_ble_eq_true rfl) (htb _ m_37) (fun _ h9 => h9) rfl dX10_tell_117 ?_
      refine lv_iload_n hx hb dX10_tell_120 rfl (lv_at hl 1 rfl) ?_
      refine va_iald hx hb hK hP 3 3 rfl rfl (by unfold vp_in; decide) dX10_tell_121 ?_
      refine lv_tope (y := 0) rfl ?_
      refine W.widen (k := 0) (n := 0) (Nat.le_of_ble_eq_true rfl) (Nat.le_of_ble_eq_true rfl) ?_
      exact W.iret (v := 0) hx hb hr (fun t ht hW => ⟨⟨0, (), rfl, (lf_X10_tell_8 f_to f_member f_runs f_reading v2 e_to e_member e_runs e_reading e_4 e_5 e_6 e_8 e_9 e_10 e_13 e_14 e_15), trivial⟩, hS.F ht⟩) hS.2.2 dX10_tell_122
    refine lv_tableOut (tgt := 123) hx hb dX10_tell_11 (by have := lv_neT e_4 (a := 0) (by decide); have := lv_neT e_5 (a := 1) (by decide); have := lv_neT e_6 (a := 2) (by decide); have := lv_neT e_8 (a := 3) (by decide); have := lv_neT e_9 (a := 4) (by decide); have := lv_neT e_10 (a := 5) (by decide); have := lv_neT e_13 (a := 6) (by decide); have := lv_neT e_14 (a := 7) (by decide); have := lv_neT e_15 (a := 8) (by decide); omega) (by decide) ?_
    refine lv_iconst (v := (-1)) hx hb dX10_tell_123 (by decide) ?_
    refine W.widen (k := 0) (n := 0) (Nat.le_of_ble_eq_true rfl) (Nat.le_of_ble_eq_true rfl) ?_
    exact W.iret (v := (-1)) hx hb hr (fun t ht hW => ⟨⟨(-1), (), rfl, (lf_X10_tell_9 f_to f_member f_runs f_reading v2 e_to e_member e_runs e_reading e_4 e_5 e_6 e_8 e_9 e_10 e_13 e_14 e_15), trivial⟩, hS.F ht⟩) hS.2.2 dX10_tell_124
  · exact absurd h_2 (by decide)

set_option maxHeartbeats 4000000 in
set_option maxRecDepth 100000 in
theorem kX2_init (l : Launch) (dC : Nat → ClassId) (dI : Nat → Nat → Nat) (sz : Nat) (h0 : Nat) : Met l yX2_init (Cond.code yX2_init cX2_init 1 none :: bg) ({ frames := 1, cells := 6, slots := 1080, locals := 12 }) (pcW dC dI [.ref h0] sz [(h0, .inr (2, [.null, .null, .null, .null, .null, .null, .int 0, .int 0]))] []) (va_Qv (fun (u : Unit) => True) (fun (u : Unit) (t : State) => ∃ (g_node : Nat) (g_girth : Nat) (g_gave : Nat) (g_holeTree : Nat) (g_holeAngle : Nat) (g_holeYear : Nat) (k_gave : ClassId), va_P (dC, dI) vwCl [(h0, .inr (2, [.ref g_node, .ref g_girth, .ref g_gave, .ref g_holeTree, .ref g_holeAngle, .ref g_holeYear, .int 0, .int 0])), (g_gave, .inl (k_gave, 60, .inl (fun _ => 0)))] t.heap ∧ va_K (dC, dI) vwCl [(k_gave, .int)] t ∧ va_D (va_A [(h0, .inr (2, [.null, .null, .null, .null, .null, .null, .int 0, .int 0]))] sz) [(h0, .inr (2, [.ref g_node, .ref g_girth, .ref g_gave, .ref g_holeTree, .ref g_holeAngle, .ref g_holeYear, .int 0, .int 0])), (g_gave, .inl (k_gave, 60, .inl (fun _ => 0)))]) (va_A [(h0, .inr (2, [.null, .null, .null, .null, .null, .null, .int 0, .int 0]))] sz)) 6 1080 (va_A [(h0, .inr (2, [.null, .null, .null, .null, .null, .null, .int 0, .int 0]))] sz) := by
  refine Met.ofW (cc := cX2_init) (maxL := 1) (ret := none) pnX2 rfl ?_
  intro p e s m args below meth c s₁ B hml hv
  obtain ⟨rfl, hsz, hP, hK, hD0, hN⟩ := hv
  have hx := B.exec
  have hb := B.bytes
  have hr := B.returns
  have htb : ∀ w ∈ bg, w.before [.ref h0].toArray s = true := fun w h => atoms_spec (ws := Cond.code yX2_init cX2_init 1 none :: bg) B.pre w (List.mem_cons_of_mem _ h)
  have hown : s.vm.findClass RX2 = some m.cls := findClass_of_methodNamed B.named
  have hlocks := B.notSynchronized
  have hin : meth.name = "<init>" := (name_of_methodNamed B.named B.method).1
  subst hsz
  have hD := hD0.self (sz := s.heap.size)
  generalize hAe : va_A [(h0, .inr (2, [.null, .null, .null, .null, .null, .null, .int 0, .int 0]))] s.heap.size = A at hD ⊢
  have hA : ∀ q : Nat, s.heap.size ≤ q → A q := fun q h => by rw [← hAe]; exact Or.inr h
  have hS : va_S A s.heap s.heap [] := va_S.rf
  have hl := lv_entry ([.ref h0]) (n := 1) (Nat.le_of_ble_eq_true rfl)
  rw [lg_entry_eq]
  generalize (lg_sl ([.ref h0]) ++ List.replicate (1 - (lg_sl ([.ref h0])).length) Slot.unset).toArray = ls at hl ⊢
  change lv_has ls 1 [(0, .ref h0)] at hl
  clear hD0 hAe
  refine go0 (wsP := fun H => va_P (dC, dI) vwCl [(h0, .inr (2, [.null, .null, .null, .null, .null, .null, .int 0, .int 0]))] H) hP hS ?_
  clear hP hS; intro H locs hP hS
  change va_P (dC, dI) vwCl [(h0, .inr (2, [.null, .null, .null, .null, .null, .null, .int 0, .int 0]))] H at hP
  refine lv_aload_n hx hb dX2_init_0 rfl (lv_at hl 0 rfl) ?_
  refine W.objInit hx hb hown (htb _ m_70) (htb _ m_26) (htb _ m_27) rfl (by rw [hml]; exact hl.1) rfl dX2_init_1 (Nat.le_of_ble_eq_true rfl) (Nat.le_of_ble_eq_true rfl) ?_
  refine W.eq (g2 := F0 m 4 ls []) rfl ?_
  refine lv_aload_n hx hb dX2_init_4 rfl (lv_at hl 0 rfl) ?_
  refine lv_bipush (v := 60) hx hb dX2_init_5 (by decide) ?_
  refine va_newa (atype := .int) (a0 := (60, .inl (fun _ => 0))) (N' := 60) (ty := .int) hx hb (htb _ m_63) rfl hK hP hD hS hA (fun _ => rfl) (by decide) (by decide) (Nat.le_of_ble_eq_true rfl) (Nat.le_of_ble_eq_true rfl) (Nat.le_of_ble_eq_true rfl) dX2_init_7 ?_
  clear hP hD hS hK; intro q_1 a_2 H hK hP hD hS
  change va_P (dC, dI) vwCl [(h0, .inr (2, [.null, .null, .null, .null, .null, .null, .int 0, .int 0])), (q_1, .inl (a_2, 60, .inl (fun _ => 0)))] H at hP
  change va_D A [(h0, .inr (2, [.null, .null, .null, .null, .null, .null, .int 0, .int 0])), (q_1, .inl (a_2, 60, .inl (fun _ => 0)))] at hD
  change va_K (dC, dI) vwCl [(a_2, .int)] s at hK
  refine W.widen (k := 1) (n := 60) (Nat.le_of_ble_eq_true rfl) (Nat.le_of_ble_eq_true rfl) ?_
  refine va_putF (D := (dC, dI)) (ci := 2) (v := .ref q_1) (C := RX2) (T := TX2) (N := 8) hx hb htb iX2 tyX2 tyX2_ok nmX2 hown hK hP hD hS 0 rfl rfl 0 (Nat.le_of_ble_eq_true rfl) (htb _ m_71) (fun _ h9 => h9) rfl hin rfl (tyX2_ok 0 (Nat.le_of_ble_eq_true rfl)) rfl rfl (Nat.le_of_ble_eq_true rfl) dX2_init_9 ?_
  clear hP hD hS; intro H locs hP hD hS
  change va_P (dC, dI) vwCl [(h0, .inr (2, [.ref q_1, .null, .null, .null, .null, .null, .int 0, .int 0])), (q_1, .inl (a_2, 60, .inl (fun _ => 0)))] H at hP
  change va_D A [(h0, .inr (2, [.ref q_1, .null, .null, .null, .null, .null, .int 0, .int 0])), (q_1, .inl (a_2, 60, .inl (fun _ => 0)))] at hD
  refine lv_aload_n hx hb dX2_init_12 rfl (lv_at hl 0 rfl) ?_
  refine lv_bipush (v := 60) hx hb dX2_init_13 (by decide) ?_
  refine va_newa (atype := .int) (a0 := (60, .inl (fun _ => 0))) (N' := 60) (ty := .int) hx hb (htb _ m_63) rfl hK hP hD hS hA (fun _ => rfl) (by decide) (by decide) (Nat.le_of_ble_eq_true rfl) (Nat.le_of_ble_eq_true rfl) (Nat.le_of_ble_eq_true rfl) dX2_init_15 ?_
  clear hP hD hS hK; intro q_3 a_4 H hK hP hD hS
  change va_P (dC, dI) vwCl [(h0, .inr (2, [.ref q_1, .null, .null, .null, .null, .null, .int 0, .int 0])), (q_1, .inl (a_2, 60, .inl (fun _ => 0))), (q_3, .inl (a_4, 60, .inl (fun _ => 0)))] H at hP
  change va_D A [(h0, .inr (2, [.ref q_1, .null, .null, .null, .null, .null, .int 0, .int 0])), (q_1, .inl (a_2, 60, .inl (fun _ => 0))), (q_3, .inl (a_4, 60, .inl (fun _ => 0)))] at hD
  change va_K (dC, dI) vwCl [(a_2, .int), (a_4, .int)] s at hK
  refine W.widen (k := 2) (n := 120) (Nat.le_of_ble_eq_true rfl) (Nat.le_of_ble_eq_true rfl) ?_
  refine va_putF (D := (dC, dI)) (ci := 2) (v := .ref q_3) (C := RX2) (T := TX2) (N := 8) hx hb htb iX2 tyX2 tyX2_ok nmX2 hown hK hP hD hS 0 rfl rfl 1 (Nat.le_of_ble_eq_true rfl) (htb _ m_72) (fun _ h9 => h9) rfl hin rfl (tyX2_ok 1 (Nat.le_of_ble_eq_true rfl)) rfl rfl (Nat.le_of_ble_eq_true rfl) dX2_init_17 ?_
  clear hP hD hS; intro H locs hP hD hS
  change va_P (dC, dI) vwCl [(h0, .inr (2, [.ref q_1, .ref q_3, .null, .null, .null, .null, .int 0, .int 0])), (q_1, .inl (a_2, 60, .inl (fun _ => 0))), (q_3, .inl (a_4, 60, .inl (fun _ => 0)))] H at hP
  change va_D A [(h0, .inr (2, [.ref q_1, .ref q_3, .null, .null, .null, .null, .int 0, .int 0])), (q_1, .inl (a_2, 60, .inl (fun _ => 0))), (q_3, .inl (a_4, 60, .inl (fun _ => 0)))] at hD
  refine lv_aload_n hx hb dX2_init_20 rfl (lv_at hl 0 rfl) ?_
  refine lv_bipush (v := 60) hx hb dX2_init_21 (by decide) ?_
  refine va_newa (atype := .int) (a0 := (60, .inl (fun _ => 0))) (N' := 60) (ty := .int) hx hb (htb _ m_63) rfl hK hP hD hS hA (fun _ => rfl) (by decide) (by decide) (Nat.le_of_ble_eq_true rfl) (Nat.le_of_ble_eq_true rfl) (Nat.le_of_ble_eq_true rfl) dX2_init_23 ?_
  clear hP hD hS hK; intro q_5 a_6 H hK hP hD hS
  change va_P (dC, dI) vwCl [(h0, .inr (2, [.ref q_1, .ref q_3, .null, .null, .null, .null, .int 0, .int 0])), (q_1, .inl (a_2, 60, .inl (fun _ => 0))), (q_3, .inl (a_4, 60, .inl (fun _ => 0))), (q_5, .inl (a_6, 60, .inl (fun _ => 0)))] H at hP
  change va_D A [(h0, .inr (2, [.ref q_1, .ref q_3, .null, .null, .null, .null, .int 0, .int 0])), (q_1, .inl (a_2, 60, .inl (fun _ => 0))), (q_3, .inl (a_4, 60, .inl (fun _ => 0))), (q_5, .inl (a_6, 60, .inl (fun _ => 0)))] at hD
  change va_K (dC, dI) vwCl [(a_2, .int), (a_4, .int), (a_6, .int)] s at hK
  refine W.widen (k := 3) (n := 180) (Nat.le_of_ble_eq_true rfl) (Nat.le_of_ble_eq_true rfl) ?_
  refine va_putF (D := (dC, dI)) (ci := 2) (v := .ref q_5) (C := RX2) (T := TX2) (N := 8) hx hb htb iX2 tyX2 tyX2_ok nmX2 hown hK hP hD hS 0 rfl rfl 2 (Nat.le_of_ble_eq_true rfl) (htb _ m_73) (fun _ h9 => h9) rfl hin rfl (tyX2_ok 2 (Nat.le_of_ble_eq_true rfl)) rfl rfl (Nat.le_of_ble_eq_true rfl) dX2_init_25 ?_
  clear hP hD hS; intro H locs hP hD hS
  change va_P (dC, dI) vwCl [(h0, .inr (2, [.ref q_1, .ref q_3, .ref q_5, .null, .null, .null, .int 0, .int 0])), (q_1, .inl (a_2, 60, .inl (fun _ => 0))), (q_3, .inl (a_4, 60, .inl (fun _ => 0))), (q_5, .inl (a_6, 60, .inl (fun _ => 0)))] H at hP
  change va_D A [(h0, .inr (2, [.ref q_1, .ref q_3, .ref q_5, .null, .null, .null, .int 0, .int 0])), (q_1, .inl (a_2, 60, .inl (fun _ => 0))), (q_3, .inl (a_4, 60, .inl (fun _ => 0))), (q_5, .inl (a_6, 60, .inl (fun _ => 0)))] at hD
  refine lv_aload_n hx hb dX2_init_28 rfl (lv_at hl 0 rfl) ?_
  refine lv_sipush (v := 300) hx hb dX2_init_29 (by decide) ?_
  refine va_newa (atype := .int) (a0 := (300, .inl (fun _ => 0))) (N' := 300) (ty := .int) hx hb (htb _ m_63) rfl hK hP hD hS hA (fun _ => rfl) (by decide) (by decide) (Nat.le_of_ble_eq_true rfl) (Nat.le_of_ble_eq_true rfl) (Nat.le_of_ble_eq_true rfl) dX2_init_32 ?_
  clear hP hD hS hK; intro q_7 a_8 H hK hP hD hS
  change va_P (dC, dI) vwCl [(h0, .inr (2, [.ref q_1, .ref q_3, .ref q_5, .null, .null, .null, .int 0, .int 0])), (q_1, .inl (a_2, 60, .inl (fun _ => 0))), (q_3, .inl (a_4, 60, .inl (fun _ => 0))), (q_5, .inl (a_6, 60, .inl (fun _ => 0))), (q_7, .inl (a_8, 300, .inl (fun _ => 0)))] H at hP
  change va_D A [(h0, .inr (2, [.ref q_1, .ref q_3, .ref q_5, .null, .null, .null, .int 0, .int 0])), (q_1, .inl (a_2, 60, .inl (fun _ => 0))), (q_3, .inl (a_4, 60, .inl (fun _ => 0))), (q_5, .inl (a_6, 60, .inl (fun _ => 0))), (q_7, .inl (a_8, 300, .inl (fun _ => 0)))] at hD
  change va_K (dC, dI) vwCl [(a_2, .int), (a_4, .int), (a_6, .int), (a_8, .int)] s at hK
  refine W.widen (k := 4) (n := 480) (Nat.le_of_ble_eq_true rfl) (Nat.le_of_ble_eq_true rfl) ?_
  refine va_putF (D := (dC, dI)) (ci := 2) (v := .ref q_7) (C := RX2) (T := TX2) (N := 8) hx hb htb iX2 tyX2 tyX2_ok nmX2 hown hK hP hD hS 0 rfl rfl 3 (Nat.le_of_ble_eq_true rfl) (htb _ m_74) (fun _ h9 => h9) rfl hin rfl (tyX2_ok 3 (Nat.le_of_ble_eq_true rfl)) rfl rfl (Nat.le_of_ble_eq_true rfl) dX2_init_34 ?_
  clear hP hD hS; intro H locs hP hD hS
  change va_P (dC, dI) vwCl [(h0, .inr (2, [.ref q_1, .ref q_3, .ref q_5, .ref q_7, .null, .null, .int 0, .int 0])), (q_1, .inl (a_2, 60, .inl (fun _ => 0))), (q_3, .inl (a_4, 60, .inl (fun _ => 0))), (q_5, .inl (a_6, 60, .inl (fun _ => 0))), (q_7, .inl (a_8, 300, .inl (fun _ => 0)))] H at hP
  change va_D A [(h0, .inr (2, [.ref q_1, .ref q_3, .ref q_5, .ref q_7, .null, .null, .int 0, .int 0])), (q_1, .inl (a_2, 60, .inl (fun _ => 0))), (q_3, .inl (a_4, 60, .inl (fun _ => 0))), (q_5, .inl (a_6, 60, .inl (fun _ => 0))), (q_7, .inl (a_8, 300, .inl (fun _ => 0)))] at hD
  refine lv_aload_n hx hb dX2_init_37 rfl (lv_at hl 0 rfl) ?_
  refine lv_sipush (v := 300) hx hb dX2_init_38 (by decide) ?_
  refine va_newa (atype := .int) (a0 := (300, .inl (fun _ => 0))) (N' := 300) (ty := .int) hx hb (htb _ m_63) rfl hK hP hD hS hA (fun _ => rfl) (by decide) (by decide) (Nat.le_of_ble_eq_true rfl) (Nat.le_of_ble_eq_true rfl) (Nat.le_of_ble_eq_true rfl) dX2_init_41 ?_
  clear hP hD hS hK; intro q_9 a_10 H hK hP hD hS
  change va_P (dC, dI) vwCl [(h0, .inr (2, [.ref q_1, .ref q_3, .ref q_5, .ref q_7, .null, .null, .int 0, .int 0])), (q_1, .inl (a_2, 60, .inl (fun _ => 0))), (q_3, .inl (a_4, 60, .inl (fun _ => 0))), (q_5, .inl (a_6, 60, .inl (fun _ => 0))), (q_7, .inl (a_8, 300, .inl (fun _ => 0))), (q_9, .inl (a_10, 300, .inl (fun _ => 0)))] H at hP
  change va_D A [(h0, .inr (2, [.ref q_1, .ref q_3, .ref q_5, .ref q_7, .null, .null, .int 0, .int 0])), (q_1, .inl (a_2, 60, .inl (fun _ => 0))), (q_3, .inl (a_4, 60, .inl (fun _ => 0))), (q_5, .inl (a_6, 60, .inl (fun _ => 0))), (q_7, .inl (a_8, 300, .inl (fun _ => 0))), (q_9, .inl (a_10, 300, .inl (fun _ => 0)))] at hD
  change va_K (dC, dI) vwCl [(a_2, .int), (a_4, .int), (a_6, .int), (a_8, .int), (a_10, .int)] s at hK
  refine W.widen (k := 5) (n := 780) (Nat.le_of_ble_eq_true rfl) (Nat.le_of_ble_eq_true rfl) ?_
  refine va_putF (D := (dC, dI)) (ci := 2) (v := .ref q_9) (C := RX2) (T := TX2) (N := 8) hx hb htb iX2 tyX2 tyX2_ok nmX2 hown hK hP hD hS 0 rfl rfl 4 (Nat.le_of_ble_eq_true rfl) (htb _ m_75) (fun _ h9 => h9) rfl hin rfl (tyX2_ok 4 (Nat.le_of_ble_eq_true rfl)) rfl rfl (Nat.le_of_ble_eq_true rfl) dX2_init_43 ?_
  clear hP hD hS; intro H locs hP hD hS
  change va_P (dC, dI) vwCl [(h0, .inr (2, [.ref q_1, .ref q_3, .ref q_5, .ref q_7, .ref q_9, .null, .int 0, .int 0])), (q_1, .inl (a_2, 60, .inl (fun _ => 0))), (q_3, .inl (a_4, 60, .inl (fun _ => 0))), (q_5, .inl (a_6, 60, .inl (fun _ => 0))), (q_7, .inl (a_8, 300, .inl (fun _ => 0))), (q_9, .inl (a_10, 300, .inl (fun _ => 0)))] H at hP
  change va_D A [(h0, .inr (2, [.ref q_1, .ref q_3, .ref q_5, .ref q_7, .ref q_9, .null, .int 0, .int 0])), (q_1, .inl (a_2, 60, .inl (fun _ => 0))), (q_3, .inl (a_4, 60, .inl (fun _ => 0))), (q_5, .inl (a_6, 60, .inl (fun _ => 0))), (q_7, .inl (a_8, 300, .inl (fun _ => 0))), (q_9, .inl (a_10, 300, .inl (fun _ => 0)))] at hD
  refine lv_aload_n hx hb dX2_init_46 rfl (lv_at hl 0 rfl) ?_
  refine lv_sipush (v := 300) hx hb dX2_init_47 (by decide) ?_
  refine va_newa (atype := .int) (a0 := (300, .inl (fun _ => 0))) (N' := 300) (ty := .int) hx hb (htb _ m_63) rfl hK hP hD hS hA (fun _ => rfl) (by decide) (by decide) (Nat.le_of_ble_eq_true rfl) (Nat.le_of_ble_eq_true rfl) (Nat.le_of_ble_eq_true rfl) dX2_init_50 ?_
  clear hP hD hS hK; intro q_11 a_12 H hK hP hD hS
  change va_P (dC, dI) vwCl [(h0, .inr (2, [.ref q_1, .ref q_3, .ref q_5, .ref q_7, .ref q_9, .null, .int 0, .int 0])), (q_1, .inl (a_2, 60, .inl (fun _ => 0))), (q_3, .inl (a_4, 60, .inl (fun _ => 0))), (q_5, .inl (a_6, 60, .inl (fun _ => 0))), (q_7, .inl (a_8, 300, .inl (fun _ => 0))), (q_9, .inl (a_10, 300, .inl (fun _ => 0))), (q_11, .inl (a_12, 300, .inl (fun _ => 0)))] H at hP
  change va_D A [(h0, .inr (2, [.ref q_1, .ref q_3, .ref q_5, .ref q_7, .ref q_9, .null, .int 0, .int 0])), (q_1, .inl (a_2, 60, .inl (fun _ => 0))), (q_3, .inl (a_4, 60, .inl (fun _ => 0))), (q_5, .inl (a_6, 60, .inl (fun _ => 0))), (q_7, .inl (a_8, 300, .inl (fun _ => 0))), (q_9, .inl (a_10, 300, .inl (fun _ => 0))), (q_11, .inl (a_12, 300, .inl (fun _ => 0)))] at hD
  change va_K (dC, dI) vwCl [(a_2, .int), (a_4, .int), (a_6, .int), (a_8, .int), (a_10, .int), (a_12, .int)] s at hK
  refine W.widen (k := 6) (n := 1080) (Nat.le_of_ble_eq_true rfl) (Nat.le_of_ble_eq_true rfl) ?_
  refine va_putF (D := (dC, dI)) (ci := 2) (v := .ref q_11) (C := RX2) (T := TX2) (N := 8) hx hb htb iX2 tyX2 tyX2_ok nmX2 hown hK hP hD hS 0 rfl rfl 5 (Nat.le_of_ble_eq_true rfl) (htb _ m_76) (fun _ h9 => h9) rfl hin rfl (tyX2_ok 5 (Nat.le_of_ble_eq_true rfl)) rfl rfl (Nat.le_of_ble_eq_true rfl) dX2_init_52 ?_
  clear hP hD hS; intro H locs hP hD hS
  change va_P (dC, dI) vwCl [(h0, .inr (2, [.ref q_1, .ref q_3, .ref q_5, .ref q_7, .ref q_9, .ref q_11, .int 0, .int 0])), (q_1, .inl (a_2, 60, .inl (fun _ => 0))), (q_3, .inl (a_4, 60, .inl (fun _ => 0))), (q_5, .inl (a_6, 60, .inl (fun _ => 0))), (q_7, .inl (a_8, 300, .inl (fun _ => 0))), (q_9, .inl (a_10, 300, .inl (fun _ => 0))), (q_11, .inl (a_12, 300, .inl (fun _ => 0)))] H at hP
  change va_D A [(h0, .inr (2, [.ref q_1, .ref q_3, .ref q_5, .ref q_7, .ref q_9, .ref q_11, .int 0, .int 0])), (q_1, .inl (a_2, 60, .inl (fun _ => 0))), (q_3, .inl (a_4, 60, .inl (fun _ => 0))), (q_5, .inl (a_6, 60, .inl (fun _ => 0))), (q_7, .inl (a_8, 300, .inl (fun _ => 0))), (q_9, .inl (a_10, 300, .inl (fun _ => 0))), (q_11, .inl (a_12, 300, .inl (fun _ => 0)))] at hD
  refine W.widen (k := 6) (n := 1080) (Nat.le_of_ble_eq_true rfl) (Nat.le_of_ble_eq_true rfl) ?_
  have hP9 := hP.sub (ws' := [(h0, .inr (2, [.ref q_1, .ref q_3, .ref q_5, .ref q_7, .ref q_9, .ref q_11, .int 0, .int 0])), (q_5, .inl (a_6, 60, .inl (fun _ => 0)))]) [0, 3] rfl
  have hD9 := hD.sub (ws' := [(h0, .inr (2, [.ref q_1, .ref q_3, .ref q_5, .ref q_7, .ref q_9, .ref q_11, .int 0, .int 0])), (q_5, .inl (a_6, 60, .inl (fun _ => 0)))]) [0, 3] (by decide) rfl
  have hK9 := hK.sub (tys' := [(a_6, .int)]) [2] rfl
  exact W.vret hx hb hr (fun t ht hW => ⟨⟨(), rfl, trivial, ⟨q_1, q_3, q_5, q_7, q_9, q_11, a_6, by rw [ht]; exact hP9, va_K.moved hW.alike hK9, hD9⟩⟩, hS.F ht⟩) hS.2.2 dX2_init_55

theorem lf_X2_has_0 (v1 : Int32) (c_1 : ¬ v1 < 0) (c_2 : ¬ 0 ≤ v1) : False := by
  first | assumption | grind | (simp [Int32.lt_iff_toInt_lt, Int32.le_iff_toInt_le, ← Int32.toInt_inj] at *; omega)
set_option maxHeartbeats 4000000 in
set_option maxRecDepth 100000 in
theorem kX2_has (l : Launch) (dC : Nat → ClassId) (dI : Nat → Nat → Nat) (sz : Nat) (h0 : Nat) (g_node : Nat) (g_girth : Nat) (g_gave : Nat) (g_holeTree : Nat) (g_holeAngle : Nat) (g_holeYear : Nat) (v1 : Int32) : Met l yX2_has (Cond.code yX2_has cX2_has 2 (some .boolean) :: bg) ({ frames := 0, cells := 0, slots := 0, locals := 0 }) (pcW dC dI [.ref h0, .int v1] sz [(h0, .inr (2, [.ref g_node, .ref g_girth, .ref g_gave, .ref g_holeTree, .ref g_holeAngle, .ref g_holeYear, .int 0, .int 0]))] []) (va_Qi (fun (r : Int32) (u : Unit) => r = 0) (fun (u : Unit) (t : State) => va_P (dC, dI) vwCl [(h0, .inr (2, [.ref g_node, .ref g_girth, .ref g_gave, .ref g_holeTree, .ref g_holeAngle, .ref g_holeYear, .int 0, .int 0]))] t.heap ∧ va_K (dC, dI) vwCl [] t ∧ va_D (va_A [(h0, .inr (2, [.ref g_node, .ref g_girth, .ref g_gave, .ref g_holeTree, .ref g_holeAngle, .ref g_holeYear, .int 0, .int 0]))] sz) [(h0, .inr (2, [.ref g_node, .ref g_girth, .ref g_gave, .ref g_holeTree, .ref g_holeAngle, .ref g_holeYear, .int 0, .int 0]))]) (va_A [(h0, .inr (2, [.ref g_node, .ref g_girth, .ref g_gave, .ref g_holeTree, .ref g_holeAngle, .ref g_holeYear, .int 0, .int 0]))] sz)) 0 0 (va_A [(h0, .inr (2, [.ref g_node, .ref g_girth, .ref g_gave, .ref g_holeTree, .ref g_holeAngle, .ref g_holeYear, .int 0, .int 0]))] sz) := by
  refine Met.ofW (cc := cX2_has) (maxL := 2) (ret := (some .boolean)) pnX2 rfl ?_
  intro p e s m args below meth c s₁ B hml hv
  obtain ⟨rfl, hsz, hP, hK, hD0, hN⟩ := hv
  have hx := B.exec
  have hb := B.bytes
  have hr := B.returns
  have htb : ∀ w ∈ bg, w.before [.ref h0, .int v1].toArray s = true := fun w h => atoms_spec (ws := Cond.code yX2_has cX2_has 2 (some .boolean) :: bg) B.pre w (List.mem_cons_of_mem _ h)
  have hown : s.vm.findClass RX2 = some m.cls := findClass_of_methodNamed B.named
  have hlocks := B.notSynchronized
  subst hsz
  have hD := hD0.self (sz := s.heap.size)
  generalize hAe : va_A [(h0, .inr (2, [.ref g_node, .ref g_girth, .ref g_gave, .ref g_holeTree, .ref g_holeAngle, .ref g_holeYear, .int 0, .int 0]))] s.heap.size = A at hD ⊢
  have hA : ∀ q : Nat, s.heap.size ≤ q → A q := fun q h => by rw [← hAe]; exact Or.inr h
  have hS : va_S A s.heap s.heap [] := va_S.rf
  have hl := lv_entry ([.ref h0, .int v1]) (n := 2) (Nat.le_of_ble_eq_true rfl)
  rw [lg_entry_eq]
  generalize (lg_sl ([.ref h0, .int v1]) ++ List.replicate (2 - (lg_sl ([.ref h0, .int v1])).length) Slot.unset).toArray = ls at hl ⊢
  change lv_has ls 2 [(0, .ref h0), (1, .int v1)] at hl
  clear hD0 hAe
  refine go0 (wsP := fun H => va_P (dC, dI) vwCl [(h0, .inr (2, [.ref g_node, .ref g_girth, .ref g_gave, .ref g_holeTree, .ref g_holeAngle, .ref g_holeYear, .int 0, .int 0]))] H) hP hS ?_
  clear hP hS; intro H locs hP hS
  change va_P (dC, dI) vwCl [(h0, .inr (2, [.ref g_node, .ref g_girth, .ref g_gave, .ref g_holeTree, .ref g_holeAngle, .ref g_holeYear, .int 0, .int 0]))] H at hP
  refine lv_iload_n hx hb dX2_has_0 rfl (lv_at hl 1 rfl) ?_
  refine lv_if_lt (tgt := 16) hx hb dX2_has_1 (by decide) (fun c_1 => ?_) (fun c_1 => ?_)
  · refine lv_iconst (v := 0) hx hb dX2_has_16 (by decide) ?_
    refine W.widen (k := 0) (n := 0) (Nat.le_of_ble_eq_true rfl) (Nat.le_of_ble_eq_true rfl) ?_
    have hP9 := hP.sub (ws' := [(h0, .inr (2, [.ref g_node, .ref g_girth, .ref g_gave, .ref g_holeTree, .ref g_holeAngle, .ref g_holeYear, .int 0, .int 0]))]) [0] rfl
    have hD9 := hD.sub (ws' := [(h0, .inr (2, [.ref g_node, .ref g_girth, .ref g_gave, .ref g_holeTree, .ref g_holeAngle, .ref g_holeYear, .int 0, .int 0]))]) [0] (by decide) rfl
    have hK9 := hK.sub (tys' := []) [] rfl
    exact W.zret (ty := .boolean) (v := 0) hx hb hr rfl (fun t ht hW => ⟨⟨0, (), rfl, (rfl), ⟨by rw [ht]; exact hP9, va_K.moved hW.alike hK9, hD9⟩⟩, hS.F ht⟩) hS.2.2 dX2_has_17
  · refine lv_iload_n hx hb dX2_has_4 rfl (lv_at hl 1 rfl) ?_
    refine lv_aload_n hx hb dX2_has_5 rfl (lv_at hl 0 rfl) ?_
    refine va_get (D := (dC, dI)) (ci := 2) (v := .int 0) (C := RX2) (T := TX2) (N := 8) hx hb htb iX2 hown hK hP 0 rfl rfl 6 (Nat.le_of_ble_eq_true rfl) (htb _ m_77) (fun _ h9 => h9) rfl dX2_has_6 ?_
    refine lv_icmp_ge (tgt := 16) hx hb dX2_has_9 (by decide) (fun c_2 => ?_) (fun c_2 => ?_)
    · refine lv_iconst (v := 0) hx hb dX2_has_16 (by decide) ?_
      refine W.widen (k := 0) (n := 0) (Nat.le_of_ble_eq_true rfl) (Nat.le_of_ble_eq_true rfl) ?_
      have hP9 := hP.sub (ws' := [(h0, .inr (2, [.ref g_node, .ref g_girth, .ref g_gave, .ref g_holeTree, .ref g_holeAngle, .ref g_holeYear, .int 0, .int 0]))]) [0] rfl
      have hD9 := hD.sub (ws' := [(h0, .inr (2, [.ref g_node, .ref g_girth, .ref g_gave, .ref g_holeTree, .ref g_holeAngle, .ref g_holeYear, .int 0, .int 0]))]) [0] (by decide) rfl
      have hK9 := hK.sub (tys' := []) [] rfl
      exact W.zret (ty := .boolean) (v := 0) hx hb hr rfl (fun t ht hW => ⟨⟨0, (), rfl, (rfl), ⟨by rw [ht]; exact hP9, va_K.moved hW.alike hK9, hD9⟩⟩, hS.F ht⟩) hS.2.2 dX2_has_17
    · refine lv_iconst (v := 1) hx hb dX2_has_12 (by decide) ?_
      refine lv_goto (tgt := 17) hx hb dX2_has_13 (by decide) ?_
      refine W.widen (k := 0) (n := 0) (Nat.le_of_ble_eq_true rfl) (Nat.le_of_ble_eq_true rfl) ?_
      have hP9 := hP.sub (ws' := [(h0, .inr (2, [.ref g_node, .ref g_girth, .ref g_gave, .ref g_holeTree, .ref g_holeAngle, .ref g_holeYear, .int 0, .int 0]))]) [0] rfl
      have hD9 := hD.sub (ws' := [(h0, .inr (2, [.ref g_node, .ref g_girth, .ref g_gave, .ref g_holeTree, .ref g_holeAngle, .ref g_holeYear, .int 0, .int 0]))]) [0] (by decide) rfl
      have hK9 := hK.sub (tys' := []) [] rfl
      exact False.elim (lf_X2_has_0 v1 c_1 c_2)

set_option maxHeartbeats 4000000 in
set_option maxRecDepth 100000 in
theorem kX2_treesAt (l : Launch) (dC : Nat → ClassId) (dI : Nat → Nat → Nat) (sz : Nat) (h0 : Nat) (g_node : Nat) (g_girth : Nat) (g_gave : Nat) (g_holeTree : Nat) (g_holeAngle : Nat) (g_holeYear : Nat) (v1 : Int32) : Met l yX2_treesAt (Cond.code yX2_treesAt cX2_treesAt 4 (some .int) :: bg) ({ frames := 0, cells := 0, slots := 0, locals := 0 }) (pcW dC dI [.ref h0, .int v1] sz [(h0, .inr (2, [.ref g_node, .ref g_girth, .ref g_gave, .ref g_holeTree, .ref g_holeAngle, .ref g_holeYear, .int 0, .int 0]))] []) (va_Qi (fun (r : Int32) (u : Unit) => r = 0) (fun (u : Unit) (t : State) => va_P (dC, dI) vwCl [(h0, .inr (2, [.ref g_node, .ref g_girth, .ref g_gave, .ref g_holeTree, .ref g_holeAngle, .ref g_holeYear, .int 0, .int 0]))] t.heap ∧ va_K (dC, dI) vwCl [] t ∧ va_D (va_A [(h0, .inr (2, [.ref g_node, .ref g_girth, .ref g_gave, .ref g_holeTree, .ref g_holeAngle, .ref g_holeYear, .int 0, .int 0]))] sz) [(h0, .inr (2, [.ref g_node, .ref g_girth, .ref g_gave, .ref g_holeTree, .ref g_holeAngle, .ref g_holeYear, .int 0, .int 0]))]) (va_A [(h0, .inr (2, [.ref g_node, .ref g_girth, .ref g_gave, .ref g_holeTree, .ref g_holeAngle, .ref g_holeYear, .int 0, .int 0]))] sz)) 0 0 (va_A [(h0, .inr (2, [.ref g_node, .ref g_girth, .ref g_gave, .ref g_holeTree, .ref g_holeAngle, .ref g_holeYear, .int 0, .int 0]))] sz) := by
  refine Met.ofW (cc := cX2_treesAt) (maxL := 4) (ret := (some .int)) pnX2 rfl ?_
  intro p e s m args below meth c s₁ B hml hv
  obtain ⟨rfl, hsz, hP, hK, hD0, hN⟩ := hv
  have hx := B.exec
  have hb := B.bytes
  have hr := B.returns
  have htb : ∀ w ∈ bg, w.before [.ref h0, .int v1].toArray s = true := fun w h => atoms_spec (ws := Cond.code yX2_treesAt cX2_treesAt 4 (some .int) :: bg) B.pre w (List.mem_cons_of_mem _ h)
  have hown : s.vm.findClass RX2 = some m.cls := findClass_of_methodNamed B.named
  have hlocks := B.notSynchronized
  subst hsz
  have hD := hD0.self (sz := s.heap.size)
  generalize hAe : va_A [(h0, .inr (2, [.ref g_node, .ref g_girth, .ref g_gave, .ref g_holeTree, .ref g_holeAngle, .ref g_holeYear, .int 0, .int 0]))] s.heap.size = A at hD ⊢
  have hA : ∀ q : Nat, s.heap.size ≤ q → A q := fun q h => by rw [← hAe]; exact Or.inr h
  have hS : va_S A s.heap s.heap [] := va_S.rf
  have hl := lv_entry ([.ref h0, .int v1]) (n := 4) (Nat.le_of_ble_eq_true rfl)
  rw [lg_entry_eq]
  generalize (lg_sl ([.ref h0, .int v1]) ++ List.replicate (4 - (lg_sl ([.ref h0, .int v1])).length) Slot.unset).toArray = ls at hl ⊢
  change lv_has ls 4 [(0, .ref h0), (1, .int v1)] at hl
  clear hD0 hAe
  refine go0 (wsP := fun H => va_P (dC, dI) vwCl [(h0, .inr (2, [.ref g_node, .ref g_girth, .ref g_gave, .ref g_holeTree, .ref g_holeAngle, .ref g_holeYear, .int 0, .int 0]))] H) hP hS ?_
  clear hP hS; intro H locs hP hS
  change va_P (dC, dI) vwCl [(h0, .inr (2, [.ref g_node, .ref g_girth, .ref g_gave, .ref g_holeTree, .ref g_holeAngle, .ref g_holeYear, .int 0, .int 0]))] H at hP
  refine lv_iconst (v := 0) hx hb dX2_treesAt_0 (by decide) ?_
  refine lv_istore_n (lv' := [(2, .int 0), (0, .ref h0), (1, .int v1)]) hx hb dX2_treesAt_1 rfl hl (by decide) rfl ?_
  clear hl; intro ls hl
  refine lv_iconst (v := 0) hx hb dX2_treesAt_2 (by decide) ?_
  refine lv_istore_n (lv' := [(3, .int 0), (2, .int 0), (0, .ref h0), (1, .int v1)]) hx hb dX2_treesAt_3 rfl hl (by decide) rfl ?_
  clear hl; intro ls hl
  refine lv_iload_n hx hb dX2_treesAt_4 rfl (lv_at hl 0 rfl) ?_
  refine lv_aload_n hx hb dX2_treesAt_5 rfl (lv_at hl 2 rfl) ?_
  refine va_get (D := (dC, dI)) (ci := 2) (v := .int 0) (C := RX2) (T := TX2) (N := 8) hx hb htb iX2 hown hK hP 0 rfl rfl 6 (Nat.le_of_ble_eq_true rfl) (htb _ m_77) (fun _ h9 => h9) rfl dX2_treesAt_6 ?_
  refine lv_icmp_ge (tgt := 31) hx hb dX2_treesAt_9 (by decide) ?_ (fun c_1 => absurd (by decide) c_1)
  intro _
  refine lv_iload_n hx hb dX2_treesAt_31 rfl (lv_at hl 1 rfl) ?_
  refine W.widen (k := 0) (n := 0) (Nat.le_of_ble_eq_true rfl) (Nat.le_of_ble_eq_true rfl) ?_
  have hP9 := hP.sub (ws' := [(h0, .inr (2, [.ref g_node, .ref g_girth, .ref g_gave, .ref g_holeTree, .ref g_holeAngle, .ref g_holeYear, .int 0, .int 0]))]) [0] rfl
  have hD9 := hD.sub (ws' := [(h0, .inr (2, [.ref g_node, .ref g_girth, .ref g_gave, .ref g_holeTree, .ref g_holeAngle, .ref g_holeYear, .int 0, .int 0]))]) [0] (by decide) rfl
  have hK9 := hK.sub (tys' := []) [] rfl
  exact W.iret (v := 0) hx hb hr (fun t ht hW => ⟨⟨0, (), rfl, (rfl), ⟨by rw [ht]; exact hP9, va_K.moved hW.alike hK9, hD9⟩⟩, hS.F ht⟩) hS.2.2 dX2_treesAt_32

set_option maxHeartbeats 4000000 in
set_option maxRecDepth 100000 in
theorem lp_fill {p : Program} {l : Launch} {e : Env} {R : Room} {s : State} {m : MethodId} {args : Array Value} {below : List Frame} {meth : Method} {c : Code} {cells slots : Nat} {Q : State → Prop} {A : Nat → Prop} {dC : Nat → ClassId} {dI : Nat → Nat → Nat} (a0 : Nat) (k0 : ClassId) (n0 : Nat) (v1 : Int32) (hn0 : n0 < 1000) (hx : p.tables.exec = Jvm.exec) (hb : c.code = cJ7_fill_53178) (hK : va_K (dC, dI) vwCl [(k0, .int)] s) (K : ∀ (H : Heap) (locs : List Loc) (ls : Array Slot), va_S A s.heap H locs → W p l e R s m args below meth c H locs cells slots Q (F0 m 20 ls [])) : ∀ (n i : Nat) (f : Nat → Int32) (H : Heap) (locs : List Loc) (ls : Array Slot), i + n = n0 → lv_has ls 4 [(3, .int (nI n0)), (2, .int (nI i)), (0, .ref a0), (1, .int v1)] → va_P (dC, dI) vwCl [(a0, .inl (k0, n0, .inl f))] H → va_D A [(a0, .inl (k0, n0, .inl f))] → va_S A s.heap H locs → W p l e R s m args below meth c H locs cells slots Q (F0 m 5 ls []) := by
  intro n
  induction n with
  | zero =>
    intro i f H locs ls hin hl hP hD hS
    obtain rfl : i = n0 := by omega
    refine lv_iload_n hx hb dJ7_fill_53178_5 rfl (lv_at hl 1 rfl) ?_
    refine lv_iload_n hx hb dJ7_fill_53178_6 rfl (lv_at hl 0 rfl) ?_
    refine lv_icmp_ge (tgt := 20) hx hb dJ7_fill_53178_7 (by decide) ?_ (fun c_1 => absurd (nI_le (Nat.le_refl _) (by omega)) c_1)
    intro _
    exact K H locs ls hS
  | succ n ih =>
    intro i f H locs ls hin hl hP hD hS
    have hi : i < n0 := by omega
    refine lv_iload_n hx hb dJ7_fill_53178_5 rfl (lv_at hl 1 rfl) ?_
    refine lv_iload_n hx hb dJ7_fill_53178_6 rfl (lv_at hl 0 rfl) ?_
    refine lv_icmp_ge (tgt := 20) hx hb dJ7_fill_53178_7 (by decide) (fun c_1 => absurd c_1 (nI_ge hi (by omega))) ?_
    intro _
    refine lv_aload_n hx hb dJ7_fill_53178_10 rfl (lv_at hl 2 rfl) ?_
    refine lv_iload_n hx hb dJ7_fill_53178_11 rfl (lv_at hl 1 rfl) ?_
    refine lv_iload_n hx hb dJ7_fill_53178_12 rfl (lv_at hl 3 rfl) ?_
    refine va_iast hx hb hK hP hD hS 0 0 rfl rfl (vp_in_nI hi (by omega)) dJ7_fill_53178_13 ?_
    clear hP hD hS; intro H locs hP hD hS
    refine lv_iinc (v := (nI (i + 1))) (lv' := [(2, .int (nI (i + 1))), (3, .int (nI n0)), (0, .ref a0), (1, .int v1)]) hx hb dJ7_fill_53178_14 hl (k := 1) rfl (nI_1 i) (by decide) rfl ?_
    clear hl; intro ls hl
    refine lv_goto (tgt := 5) hx hb dJ7_fill_53178_17 (by decide) ?_
    exact ih (i + 1) _ H locs ls (by omega) (lv_sub hl [1, 0, 2, 3] rfl) hP hD hS
set_option maxHeartbeats 4000000 in
set_option maxRecDepth 100000 in
theorem kJ7_fill_53178 (l : Launch) (dC : Nat → ClassId) (dI : Nat → Nat → Nat) (sz : Nat) (a0 : Nat) (k0 : ClassId) (n0 : Nat) (f0 : Nat → Int32) (v1 : Int32) (hn0 : n0 < 1000) : Met l yJ7_fill_53178 (Cond.code yJ7_fill_53178 cJ7_fill_53178 4 none :: bg) ({ frames := 0, cells := 0, slots := 0, locals := 0 }) (pcW dC dI [.ref a0, .int v1] sz [(a0, .inl (k0, n0, .inl f0))] [(k0, .int)]) (va_Qv (fun (u : Unit) => True) (fun (u : Unit) (t : State) => True) (va_A [(a0, .inl (k0, n0, .inl f0))] sz)) 0 0 (va_A [(a0, .inl (k0, n0, .inl f0))] sz) := by
  refine Met.ofW (cc := cJ7_fill_53178) (maxL := 4) (ret := none) pnJ7 rfl ?_
  intro p e s m args below meth c s₁ B hml hv
  obtain ⟨rfl, hsz, hP, hK, hD0, hN⟩ := hv
  have hx := B.exec
  have hb := B.bytes
  have hr := B.returns
  have hlocks := B.notSynchronized
  subst hsz
  have hD := hD0.self (sz := s.heap.size)
  generalize hAe : va_A [(a0, .inl (k0, n0, .inl f0))] s.heap.size = A at hD ⊢
  have hA : ∀ q : Nat, s.heap.size ≤ q → A q := fun q h => by rw [← hAe]; exact Or.inr h
  have hS : va_S A s.heap s.heap [] := va_S.rf
  have hl := lv_entry ([.ref a0, .int v1]) (n := 4) (Nat.le_of_ble_eq_true rfl)
  rw [lg_entry_eq]
  generalize (lg_sl ([.ref a0, .int v1]) ++ List.replicate (4 - (lg_sl ([.ref a0, .int v1])).length) Slot.unset).toArray = ls at hl ⊢
  change lv_has ls 4 [(0, .ref a0), (1, .int v1)] at hl
  refine lv_iconst (v := 0) hx hb dJ7_fill_53178_0 (by decide) ?_
  refine lv_istore_n (lv' := [(2, .int 0), (0, .ref a0), (1, .int v1)]) hx hb dJ7_fill_53178_1 rfl hl (by decide) rfl ?_
  clear hl; intro ls hl
  refine lv_aload_n hx hb dJ7_fill_53178_2 rfl (lv_at hl 1 rfl) ?_
  refine va_alen (v := nI n0) hx hb hK hP 0 0 rfl rfl rfl dJ7_fill_53178_3 ?_
  refine lv_istore_n (lv' := [(3, .int (nI n0)), (2, .int 0), (0, .ref a0), (1, .int v1)]) hx hb dJ7_fill_53178_4 rfl hl (by decide) rfl ?_
  clear hl; intro ls hl
  change lv_has ls 4 [(3, .int (nI n0)), (2, .int (nI 0)), (0, .ref a0), (1, .int v1)] at hl
  refine lp_fill a0 k0 n0 v1 hn0 hx hb hK ?_ n0 0 f0 s.heap [] ls (by omega) hl hP hD hS
  clear hP hD hS hl ls; intro H locs ls hS
  exact W.vret hx hb hr (fun t ht hW => ⟨⟨(), rfl, trivial, trivial⟩, hS.F ht⟩) hS.2.2 dJ7_fill_53178_20

set_option maxHeartbeats 4000000 in
set_option maxRecDepth 100000 in
theorem kX2_forgetYear (l : Launch) (dC : Nat → ClassId) (dI : Nat → Nat → Nat) (sz : Nat) (h0 : Nat) (g_node : Nat) (g_girth : Nat) (g_gave : Nat) (g_holeTree : Nat) (g_holeAngle : Nat) (g_holeYear : Nat) (k_gave : ClassId) : Met l yX2_forgetYear (Cond.code yX2_forgetYear cX2_forgetYear 1 none :: bg) ({ frames := 1, cells := 0, slots := 0, locals := 23 }) (pcW dC dI [.ref h0] sz [(h0, .inr (2, [.ref g_node, .ref g_girth, .ref g_gave, .ref g_holeTree, .ref g_holeAngle, .ref g_holeYear, .int 0, .int 0])), (g_gave, .inl (k_gave, 60, .inl (fun _ => 0)))] [(k_gave, .int)]) (va_Qv (fun (u : Unit) => True) (fun (u : Unit) (t : State) => True) (va_A [(h0, .inr (2, [.ref g_node, .ref g_girth, .ref g_gave, .ref g_holeTree, .ref g_holeAngle, .ref g_holeYear, .int 0, .int 0])), (g_gave, .inl (k_gave, 60, .inl (fun _ => 0)))] sz)) 0 0 (va_A [(h0, .inr (2, [.ref g_node, .ref g_girth, .ref g_gave, .ref g_holeTree, .ref g_holeAngle, .ref g_holeYear, .int 0, .int 0])), (g_gave, .inl (k_gave, 60, .inl (fun _ => 0)))] sz) := by
  refine Met.ofW (cc := cX2_forgetYear) (maxL := 1) (ret := none) pnX2 rfl ?_
  intro p e s m args below meth c s₁ B hml hv
  obtain ⟨rfl, hsz, hP, hK, hD0, hN⟩ := hv
  have hx := B.exec
  have hb := B.bytes
  have hr := B.returns
  have htb : ∀ w ∈ bg, w.before [.ref h0].toArray s = true := fun w h => atoms_spec (ws := Cond.code yX2_forgetYear cX2_forgetYear 1 none :: bg) B.pre w (List.mem_cons_of_mem _ h)
  have hown : s.vm.findClass RX2 = some m.cls := findClass_of_methodNamed B.named
  have hlocks := B.notSynchronized
  subst hsz
  have hD := hD0.self (sz := s.heap.size)
  generalize hAe : va_A [(h0, .inr (2, [.ref g_node, .ref g_girth, .ref g_gave, .ref g_holeTree, .ref g_holeAngle, .ref g_holeYear, .int 0, .int 0])), (g_gave, .inl (k_gave, 60, .inl (fun _ => 0)))] s.heap.size = A at hD ⊢
  have hA : ∀ q : Nat, s.heap.size ≤ q → A q := fun q h => by rw [← hAe]; exact Or.inr h
  have hS : va_S A s.heap s.heap [] := va_S.rf
  have hl := lv_entry ([.ref h0]) (n := 1) (Nat.le_of_ble_eq_true rfl)
  rw [lg_entry_eq]
  generalize (lg_sl ([.ref h0]) ++ List.replicate (1 - (lg_sl ([.ref h0])).length) Slot.unset).toArray = ls at hl ⊢
  change lv_has ls 1 [(0, .ref h0)] at hl
  clear hD0 hAe
  refine go0 (wsP := fun H => va_P (dC, dI) vwCl [(h0, .inr (2, [.ref g_node, .ref g_girth, .ref g_gave, .ref g_holeTree, .ref g_holeAngle, .ref g_holeYear, .int 0, .int 0])), (g_gave, .inl (k_gave, 60, .inl (fun _ => 0)))] H) hP hS ?_
  clear hP hS; intro H locs hP hS
  change va_P (dC, dI) vwCl [(h0, .inr (2, [.ref g_node, .ref g_girth, .ref g_gave, .ref g_holeTree, .ref g_holeAngle, .ref g_holeYear, .int 0, .int 0])), (g_gave, .inl (k_gave, 60, .inl (fun _ => 0)))] H at hP
  refine lv_aload_n hx hb dX2_forgetYear_0 rfl (lv_at hl 0 rfl) ?_
  refine va_get (D := (dC, dI)) (ci := 2) (v := .ref g_gave) (C := RX2) (T := TX2) (N := 8) hx hb htb iX2 hown hK hP 0 rfl rfl 2 (Nat.le_of_ble_eq_true rfl) (htb _ m_73) (fun _ h9 => h9) rfl dX2_forgetYear_1 ?_
  refine lv_iconst (v := 0) hx hb dX2_forgetYear_4 (by decide) ?_
  have hPc := hP.sub (ws' := [(g_gave, .inl (k_gave, 60, .inl (fun _ => 0)))]) [1] rfl
  have hDc := hD.sub (ws' := [(g_gave, .inl (k_gave, 60, .inl (fun _ => 0)))]) [1] (by decide) rfl
  have hKc := hK.sub (tys' := [(k_gave, .int)]) [0] rfl
  have hFc := va_free (wc := [(g_gave, .inl (k_gave, 60, .inl (fun _ => 0)))]) hD hS hA [1] rfl
  refine va_callv (va_runS (As := [.ref g_gave, .int 0]) (rest := []) ⟨hx, hb, hml, hown, htb⟩ (kJ7_fill_53178 l dC dI H.size g_gave k_gave 60 (fun _ => 0) 0 (by decide)) ⟨callB_of 2 htb (gd_c m_576) rfl rfl rfl (htb _ m_15) (htb _ m_574) hdJ7_fill_53178 ⟨(Nat.le_of_ble_eq_true rfl), (Nat.le_of_ble_eq_true rfl)⟩, htb _ m_575⟩ ⟨pcW_blind, pcW_at hPc hKc hDc hN⟩ rfl rfl hl.1 rfl (lv_room (Nat.le_of_ble_eq_true rfl)) dX2_forgetYear_5 ⟨(Nat.le_of_ble_eq_true rfl), (Nat.le_of_ble_eq_true rfl)⟩) hS (fun q _ h => hFc q h) hFc (fun u t H1 locs1 ht hvm h_2 hB hz1 hk1 hS1 => ?_)
  obtain ⟨hPn, hDn⟩ := va_join (wr := [(h0, .inr (2, [.ref g_node, .ref g_girth, .ref g_gave, .ref g_holeTree, .ref g_holeAngle, .ref g_holeYear, .int 0, .int 0]))]) (w1 := []) hP hD [1] [0] rfl rfl (by decide) (by decide) hk1 hFc nilP nilD
  clear hP hD hS hPc hDc hKc hFc hk1 hz1 ht hvm hB
  clear t
  revert hS1 hPn hDn; generalize H1 = H; generalize locs1 = locs; intro hS hP hD
  change va_P (dC, dI) vwCl [(h0, .inr (2, [.ref g_node, .ref g_girth, .ref g_gave, .ref g_holeTree, .ref g_holeAngle, .ref g_holeYear, .int 0, .int 0]))] H at hP
  change va_D A [(h0, .inr (2, [.ref g_node, .ref g_girth, .ref g_gave, .ref g_holeTree, .ref g_holeAngle, .ref g_holeYear, .int 0, .int 0]))] at hD
  refine W.widen (k := 0) (n := 0) (Nat.le_of_ble_eq_true rfl) (Nat.le_of_ble_eq_true rfl) ?_
  exact W.vret hx hb hr (fun t ht hW => ⟨⟨(), rfl, trivial, trivial⟩, hS.F ht⟩) hS.2.2 dX2_forgetYear_8

set_option maxHeartbeats 4000000 in
set_option maxRecDepth 100000 in
theorem kX7_init (l : Launch) (dC : Nat → ClassId) (dI : Nat → Nat → Nat) (sz : Nat) (h0 : Nat) : Met l yX7_init (Cond.code yX7_init cX7_init 1 none :: bg) ({ frames := 1, cells := 0, slots := 0, locals := 12 }) (pcW dC dI [.ref h0] sz [(h0, .inr (7, [.int 0, .int 0, .int 0, .int 0]))] []) (va_Qv (fun (u : Unit) => True) (fun (u : Unit) (t : State) => va_P (dC, dI) vwCl [(h0, .inr (7, [.int 0, .int 0, .int 0, .int 0]))] t.heap ∧ va_K (dC, dI) vwCl [] t ∧ va_D (va_A [(h0, .inr (7, [.int 0, .int 0, .int 0, .int 0]))] sz) [(h0, .inr (7, [.int 0, .int 0, .int 0, .int 0]))]) (va_A [(h0, .inr (7, [.int 0, .int 0, .int 0, .int 0]))] sz)) 0 0 (va_A [(h0, .inr (7, [.int 0, .int 0, .int 0, .int 0]))] sz) := by
  refine Met.ofW (cc := cX7_init) (maxL := 1) (ret := none) pnX7 rfl ?_
  intro p e s m args below meth c s₁ B hml hv
  obtain ⟨rfl, hsz, hP, hK, hD0, hN⟩ := hv
  have hx := B.exec
  have hb := B.bytes
  have hr := B.returns
  have htb : ∀ w ∈ bg, w.before [.ref h0].toArray s = true := fun w h => atoms_spec (ws := Cond.code yX7_init cX7_init 1 none :: bg) B.pre w (List.mem_cons_of_mem _ h)
  have hown : s.vm.findClass RX7 = some m.cls := findClass_of_methodNamed B.named
  have hlocks := B.notSynchronized
  have hin : meth.name = "<init>" := (name_of_methodNamed B.named B.method).1
  subst hsz
  have hD := hD0.self (sz := s.heap.size)
  generalize hAe : va_A [(h0, .inr (7, [.int 0, .int 0, .int 0, .int 0]))] s.heap.size = A at hD ⊢
  have hA : ∀ q : Nat, s.heap.size ≤ q → A q := fun q h => by rw [← hAe]; exact Or.inr h
  have hS : va_S A s.heap s.heap [] := va_S.rf
  have hl := lv_entry ([.ref h0]) (n := 1) (Nat.le_of_ble_eq_true rfl)
  rw [lg_entry_eq]
  generalize (lg_sl ([.ref h0]) ++ List.replicate (1 - (lg_sl ([.ref h0])).length) Slot.unset).toArray = ls at hl ⊢
  change lv_has ls 1 [(0, .ref h0)] at hl
  clear hD0 hAe
  refine go0 (wsP := fun H => va_P (dC, dI) vwCl [(h0, .inr (7, [.int 0, .int 0, .int 0, .int 0]))] H) hP hS ?_
  clear hP hS; intro H locs hP hS
  change va_P (dC, dI) vwCl [(h0, .inr (7, [.int 0, .int 0, .int 0, .int 0]))] H at hP
  refine lv_aload_n hx hb dX7_init_0 rfl (lv_at hl 0 rfl) ?_
  refine W.objInit hx hb hown (htb _ m_103) (htb _ m_26) (htb _ m_27) rfl (by rw [hml]; exact hl.1) rfl dX7_init_1 (Nat.le_of_ble_eq_true rfl) (Nat.le_of_ble_eq_true rfl) ?_
  refine W.eq (g2 := F0 m 4 ls []) rfl ?_
  refine W.widen (k := 0) (n := 0) (Nat.le_of_ble_eq_true rfl) (Nat.le_of_ble_eq_true rfl) ?_
  have hP9 := hP.sub (ws' := [(h0, .inr (7, [.int 0, .int 0, .int 0, .int 0]))]) [0] rfl
  have hD9 := hD.sub (ws' := [(h0, .inr (7, [.int 0, .int 0, .int 0, .int 0]))]) [0] (by decide) rfl
  have hK9 := hK.sub (tys' := []) [] rfl
  exact W.vret hx hb hr (fun t ht hW => ⟨⟨(), rfl, trivial, ⟨by rw [ht]; exact hP9, va_K.moved hW.alike hK9, hD9⟩⟩, hS.F ht⟩) hS.2.2 dX7_init_4

set_option maxHeartbeats 4000000 in
set_option maxRecDepth 100000 in
theorem kX7_passDay_1 (l : Launch) (dC : Nat → ClassId) (dI : Nat → Nat → Nat) (sz : Nat) (h0 : Nat) : Met l yX7_passDay (Cond.code yX7_passDay cX7_passDay 2 none :: bg) ({ frames := 0, cells := 0, slots := 0, locals := 0 }) (pcW dC dI [.ref h0, .int 1] sz [(h0, .inr (7, [.int 0, .int 0, .int 0, .int 0]))] []) (va_Qv (fun (u : Unit) => True) (fun (u : Unit) (t : State) => va_P (dC, dI) vwCl [(h0, .inr (7, [.int 0, .int 1, .int 0, .int 0]))] t.heap ∧ va_K (dC, dI) vwCl [] t ∧ va_D (va_A [(h0, .inr (7, [.int 0, .int 0, .int 0, .int 0]))] sz) [(h0, .inr (7, [.int 0, .int 1, .int 0, .int 0]))]) (va_A [(h0, .inr (7, [.int 0, .int 0, .int 0, .int 0]))] sz)) 0 0 (va_A [(h0, .inr (7, [.int 0, .int 0, .int 0, .int 0]))] sz) := by
  refine Met.ofW (cc := cX7_passDay) (maxL := 2) (ret := none) pnX7 rfl ?_
  intro p e s m args below meth c s₁ B hml hv
  obtain ⟨rfl, hsz, hP, hK, hD0, hN⟩ := hv
  have hx := B.exec
  have hb := B.bytes
  have hr := B.returns
  have htb : ∀ w ∈ bg, w.before [.ref h0, .int 1].toArray s = true := fun w h => atoms_spec (ws := Cond.code yX7_passDay cX7_passDay 2 none :: bg) B.pre w (List.mem_cons_of_mem _ h)
  have hown : s.vm.findClass RX7 = some m.cls := findClass_of_methodNamed B.named
  have hlocks := B.notSynchronized
  subst hsz
  have hD := hD0.self (sz := s.heap.size)
  generalize hAe : va_A [(h0, .inr (7, [.int 0, .int 0, .int 0, .int 0]))] s.heap.size = A at hD ⊢
  have hA : ∀ q : Nat, s.heap.size ≤ q → A q := fun q h => by rw [← hAe]; exact Or.inr h
  have hS : va_S A s.heap s.heap [] := va_S.rf
  have hl := lv_entry ([.ref h0, .int 1]) (n := 2) (Nat.le_of_ble_eq_true rfl)
  rw [lg_entry_eq]
  generalize (lg_sl ([.ref h0, .int 1]) ++ List.replicate (2 - (lg_sl ([.ref h0, .int 1])).length) Slot.unset).toArray = ls at hl ⊢
  change lv_has ls 2 [(0, .ref h0), (1, .int 1)] at hl
  clear hD0 hAe
  refine go0 (wsP := fun H => va_P (dC, dI) vwCl [(h0, .inr (7, [.int 0, .int 0, .int 0, .int 0]))] H) hP hS ?_
  clear hP hS; intro H locs hP hS
  change va_P (dC, dI) vwCl [(h0, .inr (7, [.int 0, .int 0, .int 0, .int 0]))] H at hP
  refine lv_aload_n hx hb dX7_passDay_0 rfl (lv_at hl 0 rfl) ?_
  refine lv_dup hx hb dX7_passDay_1 rfl ?_
  refine va_get (D := (dC, dI)) (ci := 7) (v := .int 0) (C := RX7) (T := TX7) (N := 4) hx hb htb iX7 hown hK hP 0 rfl rfl 1 (Nat.le_of_ble_eq_true rfl) (htb _ m_106) (fun _ h9 => h9) rfl dX7_passDay_2 ?_
  refine lv_iconst (v := 1) hx hb dX7_passDay_5 (by decide) ?_
  refine lv_iadd hx hb dX7_passDay_6 ?_
  refine lv_tope (y := 1) (by decide) ?_
  refine va_put (D := (dC, dI)) (ci := 7) (v := .int 1) (C := RX7) (T := TX7) (N := 4) hx hb htb iX7 tyX7 tyX7_ok nmX7 hown hK hP hD hS 0 rfl rfl 1 (Nat.le_of_ble_eq_true rfl) (htb _ m_106) (fun _ h9 => h9) rfl (tyX7_ok 1 (Nat.le_of_ble_eq_true rfl)) rfl rfl (Nat.le_of_ble_eq_true rfl) dX7_passDay_7 ?_
  clear hP hD hS; intro H locs hP hD hS
  change va_P (dC, dI) vwCl [(h0, .inr (7, [.int 0, .int 1, .int 0, .int 0]))] H at hP
  change va_D A [(h0, .inr (7, [.int 0, .int 1, .int 0, .int 0]))] at hD
  refine lv_aload_n hx hb dX7_passDay_10 rfl (lv_at hl 0 rfl) ?_
  refine lv_iload_n hx hb dX7_passDay_11 rfl (lv_at hl 1 rfl) ?_
  refine lv_if_eq (tgt := 19) hx hb dX7_passDay_12 (by decide) (fun c_1 => absurd c_1 (by decide)) ?_
  intro _
  refine lv_iconst (v := 0) hx hb dX7_passDay_15 (by decide) ?_
  refine lv_goto (tgt := 25) hx hb dX7_passDay_16 (by decide) ?_
  refine va_put (D := (dC, dI)) (ci := 7) (v := .int 0) (C := RX7) (T := TX7) (N := 4) hx hb htb iX7 tyX7 tyX7_ok nmX7 hown hK hP hD hS 0 rfl rfl 2 (Nat.le_of_ble_eq_true rfl) (htb _ m_108) (fun _ h9 => h9) rfl (tyX7_ok 2 (Nat.le_of_ble_eq_true rfl)) rfl rfl (Nat.le_of_ble_eq_true rfl) dX7_passDay_25 ?_
  clear hP hD hS; intro H locs hP hD hS
  change va_P (dC, dI) vwCl [(h0, .inr (7, [.int 0, .int 1, .int 0, .int 0]))] H at hP
  change va_D A [(h0, .inr (7, [.int 0, .int 1, .int 0, .int 0]))] at hD
  refine lv_aload_n hx hb dX7_passDay_28 rfl (lv_at hl 0 rfl) ?_
  refine va_get (D := (dC, dI)) (ci := 7) (v := .int 0) (C := RX7) (T := TX7) (N := 4) hx hb htb iX7 hown hK hP 0 rfl rfl 2 (Nat.le_of_ble_eq_true rfl) (htb _ m_108) (fun _ h9 => h9) rfl dX7_passDay_29 ?_
  refine lv_iconst (v := 5) hx hb dX7_passDay_32 (by decide) ?_
  refine lv_icmp_lt (tgt := 41) hx hb dX7_passDay_33 (by decide) ?_ (fun c_2 => absurd (by decide) c_2)
  intro _
  refine W.widen (k := 0) (n := 0) (Nat.le_of_ble_eq_true rfl) (Nat.le_of_ble_eq_true rfl) ?_
  have hP9 := hP.sub (ws' := [(h0, .inr (7, [.int 0, .int 1, .int 0, .int 0]))]) [0] rfl
  have hD9 := hD.sub (ws' := [(h0, .inr (7, [.int 0, .int 1, .int 0, .int 0]))]) [0] (by decide) rfl
  have hK9 := hK.sub (tys' := []) [] rfl
  exact W.vret hx hb hr (fun t ht hW => ⟨⟨(), rfl, trivial, ⟨by rw [ht]; exact hP9, va_K.moved hW.alike hK9, hD9⟩⟩, hS.F ht⟩) hS.2.2 dX7_passDay_41

set_option maxHeartbeats 4000000 in
set_option maxRecDepth 100000 in
theorem kX7_passDay_0 (l : Launch) (dC : Nat → ClassId) (dI : Nat → Nat → Nat) (sz : Nat) (h0 : Nat) : Met l yX7_passDay (Cond.code yX7_passDay cX7_passDay 2 none :: bg) ({ frames := 0, cells := 0, slots := 0, locals := 0 }) (pcW dC dI [.ref h0, .int 0] sz [(h0, .inr (7, [.int 0, .int 0, .int 0, .int 0]))] []) (va_Qv (fun (u : Unit) => True) (fun (u : Unit) (t : State) => va_P (dC, dI) vwCl [(h0, .inr (7, [.int 0, .int 1, .int 1, .int 0]))] t.heap ∧ va_K (dC, dI) vwCl [] t ∧ va_D (va_A [(h0, .inr (7, [.int 0, .int 0, .int 0, .int 0]))] sz) [(h0, .inr (7, [.int 0, .int 1, .int 1, .int 0]))]) (va_A [(h0, .inr (7, [.int 0, .int 0, .int 0, .int 0]))] sz)) 0 0 (va_A [(h0, .inr (7, [.int 0, .int 0, .int 0, .int 0]))] sz) := by
  refine Met.ofW (cc := cX7_passDay) (maxL := 2) (ret := none) pnX7 rfl ?_
  intro p e s m args below meth c s₁ B hml hv
  obtain ⟨rfl, hsz, hP, hK, hD0, hN⟩ := hv
  have hx := B.exec
  have hb := B.bytes
  have hr := B.returns
  have htb : ∀ w ∈ bg, w.before [.ref h0, .int 0].toArray s = true := fun w h => atoms_spec (ws := Cond.code yX7_passDay cX7_passDay 2 none :: bg) B.pre w (List.mem_cons_of_mem _ h)
  have hown : s.vm.findClass RX7 = some m.cls := findClass_of_methodNamed B.named
  have hlocks := B.notSynchronized
  subst hsz
  have hD := hD0.self (sz := s.heap.size)
  generalize hAe : va_A [(h0, .inr (7, [.int 0, .int 0, .int 0, .int 0]))] s.heap.size = A at hD ⊢
  have hA : ∀ q : Nat, s.heap.size ≤ q → A q := fun q h => by rw [← hAe]; exact Or.inr h
  have hS : va_S A s.heap s.heap [] := va_S.rf
  have hl := lv_entry ([.ref h0, .int 0]) (n := 2) (Nat.le_of_ble_eq_true rfl)
  rw [lg_entry_eq]
  generalize (lg_sl ([.ref h0, .int 0]) ++ List.replicate (2 - (lg_sl ([.ref h0, .int 0])).length) Slot.unset).toArray = ls at hl ⊢
  change lv_has ls 2 [(0, .ref h0), (1, .int 0)] at hl
  clear hD0 hAe
  refine go0 (wsP := fun H => va_P (dC, dI) vwCl [(h0, .inr (7, [.int 0, .int 0, .int 0, .int 0]))] H) hP hS ?_
  clear hP hS; intro H locs hP hS
  change va_P (dC, dI) vwCl [(h0, .inr (7, [.int 0, .int 0, .int 0, .int 0]))] H at hP
  refine lv_aload_n hx hb dX7_passDay_0 rfl (lv_at hl 0 rfl) ?_
  refine lv_dup hx hb dX7_passDay_1 rfl ?_
  refine va_get (D := (dC, dI)) (ci := 7) (v := .int 0) (C := RX7) (T := TX7) (N := 4) hx hb htb iX7 hown hK hP 0 rfl rfl 1 (Nat.le_of_ble_eq_true rfl) (htb _ m_106) (fun _ h9 => h9) rfl dX7_passDay_2 ?_
  refine lv_iconst (v := 1) hx hb dX7_passDay_5 (by decide) ?_
  refine lv_iadd hx hb dX7_passDay_6 ?_
  refine lv_tope (y := 1) (by decide) ?_
  refine va_put (D := (dC, dI)) (ci := 7) (v := .int 1) (C := RX7) (T := TX7) (N := 4) hx hb htb iX7 tyX7 tyX7_ok nmX7 hown hK hP hD hS 0 rfl rfl 1 (Nat.le_of_ble_eq_true rfl) (htb _ m_106) (fun _ h9 => h9) rfl (tyX7_ok 1 (Nat.le_of_ble_eq_true rfl)) rfl rfl (Nat.le_of_ble_eq_true rfl) dX7_passDay_7 ?_
  clear hP hD hS; intro H locs hP hD hS
  change va_P (dC, dI) vwCl [(h0, .inr (7, [.int 0, .int 1, .int 0, .int 0]))] H at hP
  change va_D A [(h0, .inr (7, [.int 0, .int 1, .int 0, .int 0]))] at hD
  refine lv_aload_n hx hb dX7_passDay_10 rfl (lv_at hl 0 rfl) ?_
  refine lv_iload_n hx hb dX7_passDay_11 rfl (lv_at hl 1 rfl) ?_
  refine lv_if_eq (tgt := 19) hx hb dX7_passDay_12 (by decide) ?_ (fun c_1 => absurd (by decide) c_1)
  intro _
  refine lv_aload_n hx hb dX7_passDay_19 rfl (lv_at hl 0 rfl) ?_
  refine va_get (D := (dC, dI)) (ci := 7) (v := .int 0) (C := RX7) (T := TX7) (N := 4) hx hb htb iX7 hown hK hP 0 rfl rfl 2 (Nat.le_of_ble_eq_true rfl) (htb _ m_108) (fun _ h9 => h9) rfl dX7_passDay_20 ?_
  refine lv_iconst (v := 1) hx hb dX7_passDay_23 (by decide) ?_
  refine lv_iadd hx hb dX7_passDay_24 ?_
  refine lv_tope (y := 1) (by decide) ?_
  refine va_put (D := (dC, dI)) (ci := 7) (v := .int 1) (C := RX7) (T := TX7) (N := 4) hx hb htb iX7 tyX7 tyX7_ok nmX7 hown hK hP hD hS 0 rfl rfl 2 (Nat.le_of_ble_eq_true rfl) (htb _ m_108) (fun _ h9 => h9) rfl (tyX7_ok 2 (Nat.le_of_ble_eq_true rfl)) rfl rfl (Nat.le_of_ble_eq_true rfl) dX7_passDay_25 ?_
  clear hP hD hS; intro H locs hP hD hS
  change va_P (dC, dI) vwCl [(h0, .inr (7, [.int 0, .int 1, .int 1, .int 0]))] H at hP
  change va_D A [(h0, .inr (7, [.int 0, .int 1, .int 1, .int 0]))] at hD
  refine lv_aload_n hx hb dX7_passDay_28 rfl (lv_at hl 0 rfl) ?_
  refine va_get (D := (dC, dI)) (ci := 7) (v := .int 1) (C := RX7) (T := TX7) (N := 4) hx hb htb iX7 hown hK hP 0 rfl rfl 2 (Nat.le_of_ble_eq_true rfl) (htb _ m_108) (fun _ h9 => h9) rfl dX7_passDay_29 ?_
  refine lv_iconst (v := 5) hx hb dX7_passDay_32 (by decide) ?_
  refine lv_icmp_lt (tgt := 41) hx hb dX7_passDay_33 (by decide) ?_ (fun c_2 => absurd (by decide) c_2)
  intro _
  refine W.widen (k := 0) (n := 0) (Nat.le_of_ble_eq_true rfl) (Nat.le_of_ble_eq_true rfl) ?_
  have hP9 := hP.sub (ws' := [(h0, .inr (7, [.int 0, .int 1, .int 1, .int 0]))]) [0] rfl
  have hD9 := hD.sub (ws' := [(h0, .inr (7, [.int 0, .int 1, .int 1, .int 0]))]) [0] (by decide) rfl
  have hK9 := hK.sub (tys' := []) [] rfl
  exact W.vret hx hb hr (fun t ht hW => ⟨⟨(), rfl, trivial, ⟨by rw [ht]; exact hP9, va_K.moved hW.alike hK9, hD9⟩⟩, hS.F ht⟩) hS.2.2 dX7_passDay_41

set_option maxHeartbeats 4000000 in
set_option maxRecDepth 100000 in
theorem kX7_beginYear (l : Launch) (dC : Nat → ClassId) (dI : Nat → Nat → Nat) (sz : Nat) (h0 : Nat) : Met l yX7_beginYear (Cond.code yX7_beginYear cX7_beginYear 1 none :: bg) ({ frames := 0, cells := 0, slots := 0, locals := 0 }) (pcW dC dI [.ref h0] sz [(h0, .inr (7, [.int 0, .int 0, .int 0, .int 0]))] []) (va_Qv (fun (u : Unit) => True) (fun (u : Unit) (t : State) => va_P (dC, dI) vwCl [(h0, .inr (7, [.int 1, .int 0, .int 0, .int 0]))] t.heap ∧ va_K (dC, dI) vwCl [] t ∧ va_D (va_A [(h0, .inr (7, [.int 0, .int 0, .int 0, .int 0]))] sz) [(h0, .inr (7, [.int 1, .int 0, .int 0, .int 0]))]) (va_A [(h0, .inr (7, [.int 0, .int 0, .int 0, .int 0]))] sz)) 0 0 (va_A [(h0, .inr (7, [.int 0, .int 0, .int 0, .int 0]))] sz) := by
  refine Met.ofW (cc := cX7_beginYear) (maxL := 1) (ret := none) pnX7 rfl ?_
  intro p e s m args below meth c s₁ B hml hv
  obtain ⟨rfl, hsz, hP, hK, hD0, hN⟩ := hv
  have hx := B.exec
  have hb := B.bytes
  have hr := B.returns
  have htb : ∀ w ∈ bg, w.before [.ref h0].toArray s = true := fun w h => atoms_spec (ws := Cond.code yX7_beginYear cX7_beginYear 1 none :: bg) B.pre w (List.mem_cons_of_mem _ h)
  have hown : s.vm.findClass RX7 = some m.cls := findClass_of_methodNamed B.named
  have hlocks := B.notSynchronized
  subst hsz
  have hD := hD0.self (sz := s.heap.size)
  generalize hAe : va_A [(h0, .inr (7, [.int 0, .int 0, .int 0, .int 0]))] s.heap.size = A at hD ⊢
  have hA : ∀ q : Nat, s.heap.size ≤ q → A q := fun q h => by rw [← hAe]; exact Or.inr h
  have hS : va_S A s.heap s.heap [] := va_S.rf
  have hl := lv_entry ([.ref h0]) (n := 1) (Nat.le_of_ble_eq_true rfl)
  rw [lg_entry_eq]
  generalize (lg_sl ([.ref h0]) ++ List.replicate (1 - (lg_sl ([.ref h0])).length) Slot.unset).toArray = ls at hl ⊢
  change lv_has ls 1 [(0, .ref h0)] at hl
  clear hD0 hAe
  refine go0 (wsP := fun H => va_P (dC, dI) vwCl [(h0, .inr (7, [.int 0, .int 0, .int 0, .int 0]))] H) hP hS ?_
  clear hP hS; intro H locs hP hS
  change va_P (dC, dI) vwCl [(h0, .inr (7, [.int 0, .int 0, .int 0, .int 0]))] H at hP
  refine lv_aload_n hx hb dX7_beginYear_0 rfl (lv_at hl 0 rfl) ?_
  refine lv_dup hx hb dX7_beginYear_1 rfl ?_
  refine va_get (D := (dC, dI)) (ci := 7) (v := .int 0) (C := RX7) (T := TX7) (N := 4) hx hb htb iX7 hown hK hP 0 rfl rfl 0 (Nat.le_of_ble_eq_true rfl) (htb _ m_104) (fun _ h9 => h9) rfl dX7_beginYear_2 ?_
  refine lv_iconst (v := 1) hx hb dX7_beginYear_5 (by decide) ?_
  refine lv_iadd hx hb dX7_beginYear_6 ?_
  refine lv_tope (y := 1) (by decide) ?_
  refine va_put (D := (dC, dI)) (ci := 7) (v := .int 1) (C := RX7) (T := TX7) (N := 4) hx hb htb iX7 tyX7 tyX7_ok nmX7 hown hK hP hD hS 0 rfl rfl 0 (Nat.le_of_ble_eq_true rfl) (htb _ m_104) (fun _ h9 => h9) rfl (tyX7_ok 0 (Nat.le_of_ble_eq_true rfl)) rfl rfl (Nat.le_of_ble_eq_true rfl) dX7_beginYear_7 ?_
  clear hP hD hS; intro H locs hP hD hS
  change va_P (dC, dI) vwCl [(h0, .inr (7, [.int 1, .int 0, .int 0, .int 0]))] H at hP
  change va_D A [(h0, .inr (7, [.int 1, .int 0, .int 0, .int 0]))] at hD
  refine lv_aload_n hx hb dX7_beginYear_10 rfl (lv_at hl 0 rfl) ?_
  refine lv_iconst (v := 0) hx hb dX7_beginYear_11 (by decide) ?_
  refine va_put (D := (dC, dI)) (ci := 7) (v := .int 0) (C := RX7) (T := TX7) (N := 4) hx hb htb iX7 tyX7 tyX7_ok nmX7 hown hK hP hD hS 0 rfl rfl 1 (Nat.le_of_ble_eq_true rfl) (htb _ m_106) (fun _ h9 => h9) rfl (tyX7_ok 1 (Nat.le_of_ble_eq_true rfl)) rfl rfl (Nat.le_of_ble_eq_true rfl) dX7_beginYear_12 ?_
  clear hP hD hS; intro H locs hP hD hS
  change va_P (dC, dI) vwCl [(h0, .inr (7, [.int 1, .int 0, .int 0, .int 0]))] H at hP
  change va_D A [(h0, .inr (7, [.int 1, .int 0, .int 0, .int 0]))] at hD
  refine lv_aload_n hx hb dX7_beginYear_15 rfl (lv_at hl 0 rfl) ?_
  refine lv_iconst (v := 0) hx hb dX7_beginYear_16 (by decide) ?_
  refine va_put (D := (dC, dI)) (ci := 7) (v := .int 0) (C := RX7) (T := TX7) (N := 4) hx hb htb iX7 tyX7 tyX7_ok nmX7 hown hK hP hD hS 0 rfl rfl 2 (Nat.le_of_ble_eq_true rfl) (htb _ m_108) (fun _ h9 => h9) rfl (tyX7_ok 2 (Nat.le_of_ble_eq_true rfl)) rfl rfl (Nat.le_of_ble_eq_true rfl) dX7_beginYear_17 ?_
  clear hP hD hS; intro H locs hP hD hS
  change va_P (dC, dI) vwCl [(h0, .inr (7, [.int 1, .int 0, .int 0, .int 0]))] H at hP
  change va_D A [(h0, .inr (7, [.int 1, .int 0, .int 0, .int 0]))] at hD
  refine lv_aload_n hx hb dX7_beginYear_20 rfl (lv_at hl 0 rfl) ?_
  refine lv_iconst (v := 0) hx hb dX7_beginYear_21 (by decide) ?_
  refine va_put (D := (dC, dI)) (ci := 7) (v := .int 0) (C := RX7) (T := TX7) (N := 4) hx hb htb iX7 tyX7 tyX7_ok nmX7 hown hK hP hD hS 0 rfl rfl 3 (Nat.le_of_ble_eq_true rfl) (htb _ m_109) (fun _ h9 => h9) rfl (tyX7_ok 3 (Nat.le_of_ble_eq_true rfl)) rfl rfl (Nat.le_of_ble_eq_true rfl) dX7_beginYear_22 ?_
  clear hP hD hS; intro H locs hP hD hS
  change va_P (dC, dI) vwCl [(h0, .inr (7, [.int 1, .int 0, .int 0, .int 0]))] H at hP
  change va_D A [(h0, .inr (7, [.int 1, .int 0, .int 0, .int 0]))] at hD
  refine W.widen (k := 0) (n := 0) (Nat.le_of_ble_eq_true rfl) (Nat.le_of_ble_eq_true rfl) ?_
  have hP9 := hP.sub (ws' := [(h0, .inr (7, [.int 1, .int 0, .int 0, .int 0]))]) [0] rfl
  have hD9 := hD.sub (ws' := [(h0, .inr (7, [.int 1, .int 0, .int 0, .int 0]))]) [0] (by decide) rfl
  have hK9 := hK.sub (tys' := []) [] rfl
  exact W.vret hx hb hr (fun t ht hW => ⟨⟨(), rfl, trivial, ⟨by rw [ht]; exact hP9, va_K.moved hW.alike hK9, hD9⟩⟩, hS.F ht⟩) hS.2.2 dX7_beginYear_25

set_option maxHeartbeats 4000000 in
set_option maxRecDepth 100000 in
theorem kX4_init (l : Launch) (dC : Nat → ClassId) (dI : Nat → Nat → Nat) (sz : Nat) (h0 : Nat) : Met l yX4_init (Cond.code yX4_init cX4_init 1 none :: bg) ({ frames := 1, cells := 2, slots := 242, locals := 12 }) (pcW dC dI [.ref h0] sz [(h0, .inr (4, [.null, .null]))] []) (va_Qv (fun (u : Unit) => True) (fun (u : Unit) (t : State) => ∃ (a_given : Nat) (a_days : Nat) (k_given : ClassId) (k_days : ClassId), va_P (dC, dI) vwCl [(h0, .inr (4, [.ref a_given, .ref a_days])), (a_given, .inl (k_given, 121, .inl (fun _ => 0))), (a_days, .inl (k_days, 121, .inl (fun _ => 0)))] t.heap ∧ va_K (dC, dI) vwCl [(k_given, .int), (k_days, .int)] t ∧ va_D (va_A [(h0, .inr (4, [.null, .null]))] sz) [(h0, .inr (4, [.ref a_given, .ref a_days])), (a_given, .inl (k_given, 121, .inl (fun _ => 0))), (a_days, .inl (k_days, 121, .inl (fun _ => 0)))]) (va_A [(h0, .inr (4, [.null, .null]))] sz)) 2 242 (va_A [(h0, .inr (4, [.null, .null]))] sz) := by
  refine Met.ofW (cc := cX4_init) (maxL := 1) (ret := none) pnX4 rfl ?_
  intro p e s m args below meth c s₁ B hml hv
  obtain ⟨rfl, hsz, hP, hK, hD0, hN⟩ := hv
  have hx := B.exec
  have hb := B.bytes
  have hr := B.returns
  have htb : ∀ w ∈ bg, w.before [.ref h0].toArray s = true := fun w h => atoms_spec (ws := Cond.code yX4_init cX4_init 1 none :: bg) B.pre w (List.mem_cons_of_mem _ h)
  have hown : s.vm.findClass RX4 = some m.cls := findClass_of_methodNamed B.named
  have hlocks := B.notSynchronized
  have hin : meth.name = "<init>" := (name_of_methodNamed B.named B.method).1
  subst hsz
  have hD := hD0.self (sz := s.heap.size)
  generalize hAe : va_A [(h0, .inr (4, [.null, .null]))] s.heap.size = A at hD ⊢
  have hA : ∀ q : Nat, s.heap.size ≤ q → A q := fun q h => by rw [← hAe]; exact Or.inr h
  have hS : va_S A s.heap s.heap [] := va_S.rf
  have hl := lv_entry ([.ref h0]) (n := 1) (Nat.le_of_ble_eq_true rfl)
  rw [lg_entry_eq]
  generalize (lg_sl ([.ref h0]) ++ List.replicate (1 - (lg_sl ([.ref h0])).length) Slot.unset).toArray = ls at hl ⊢
  change lv_has ls 1 [(0, .ref h0)] at hl
  clear hD0 hAe
  refine go0 (wsP := fun H => va_P (dC, dI) vwCl [(h0, .inr (4, [.null, .null]))] H) hP hS ?_
  clear hP hS; intro H locs hP hS
  change va_P (dC, dI) vwCl [(h0, .inr (4, [.null, .null]))] H at hP
  refine lv_aload_n hx hb dX4_init_0 rfl (lv_at hl 0 rfl) ?_
  refine W.objInit hx hb hown (htb _ m_125) (htb _ m_26) (htb _ m_27) rfl (by rw [hml]; exact hl.1) rfl dX4_init_1 (Nat.le_of_ble_eq_true rfl) (Nat.le_of_ble_eq_true rfl) ?_
  refine W.eq (g2 := F0 m 4 ls []) rfl ?_
  refine lv_aload_n hx hb dX4_init_4 rfl (lv_at hl 0 rfl) ?_
  refine lv_bipush (v := 121) hx hb dX4_init_5 (by decide) ?_
  refine va_newa (atype := .int) (a0 := (121, .inl (fun _ => 0))) (N' := 121) (ty := .int) hx hb (htb _ m_63) rfl hK hP hD hS hA (fun _ => rfl) (by decide) (by decide) (Nat.le_of_ble_eq_true rfl) (Nat.le_of_ble_eq_true rfl) (Nat.le_of_ble_eq_true rfl) dX4_init_7 ?_
  clear hP hD hS hK; intro q_1 a_2 H hK hP hD hS
  change va_P (dC, dI) vwCl [(h0, .inr (4, [.null, .null])), (q_1, .inl (a_2, 121, .inl (fun _ => 0)))] H at hP
  change va_D A [(h0, .inr (4, [.null, .null])), (q_1, .inl (a_2, 121, .inl (fun _ => 0)))] at hD
  change va_K (dC, dI) vwCl [(a_2, .int)] s at hK
  refine W.widen (k := 1) (n := 121) (Nat.le_of_ble_eq_true rfl) (Nat.le_of_ble_eq_true rfl) ?_
  refine va_putF (D := (dC, dI)) (ci := 4) (v := .ref q_1) (C := RX4) (T := TX4) (N := 2) hx hb htb iX4 tyX4 tyX4_ok nmX4 hown hK hP hD hS 0 rfl rfl 0 (Nat.le_of_ble_eq_true rfl) (htb _ m_126) (fun _ h9 => h9) rfl hin rfl (tyX4_ok 0 (Nat.le_of_ble_eq_true rfl)) rfl rfl (Nat.le_of_ble_eq_true rfl) dX4_init_9 ?_
  clear hP hD hS; intro H locs hP hD hS
  change va_P (dC, dI) vwCl [(h0, .inr (4, [.ref q_1, .null])), (q_1, .inl (a_2, 121, .inl (fun _ => 0)))] H at hP
  change va_D A [(h0, .inr (4, [.ref q_1, .null])), (q_1, .inl (a_2, 121, .inl (fun _ => 0)))] at hD
  refine lv_aload_n hx hb dX4_init_12 rfl (lv_at hl 0 rfl) ?_
  refine lv_bipush (v := 121) hx hb dX4_init_13 (by decide) ?_
  refine va_newa (atype := .int) (a0 := (121, .inl (fun _ => 0))) (N' := 121) (ty := .int) hx hb (htb _ m_63) rfl hK hP hD hS hA (fun _ => rfl) (by decide) (by decide) (Nat.le_of_ble_eq_true rfl) (Nat.le_of_ble_eq_true rfl) (Nat.le_of_ble_eq_true rfl) dX4_init_15 ?_
  clear hP hD hS hK; intro q_3 a_4 H hK hP hD hS
  change va_P (dC, dI) vwCl [(h0, .inr (4, [.ref q_1, .null])), (q_1, .inl (a_2, 121, .inl (fun _ => 0))), (q_3, .inl (a_4, 121, .inl (fun _ => 0)))] H at hP
  change va_D A [(h0, .inr (4, [.ref q_1, .null])), (q_1, .inl (a_2, 121, .inl (fun _ => 0))), (q_3, .inl (a_4, 121, .inl (fun _ => 0)))] at hD
  change va_K (dC, dI) vwCl [(a_2, .int), (a_4, .int)] s at hK
  refine W.widen (k := 2) (n := 242) (Nat.le_of_ble_eq_true rfl) (Nat.le_of_ble_eq_true rfl) ?_
  refine va_putF (D := (dC, dI)) (ci := 4) (v := .ref q_3) (C := RX4) (T := TX4) (N := 2) hx hb htb iX4 tyX4 tyX4_ok nmX4 hown hK hP hD hS 0 rfl rfl 1 (Nat.le_of_ble_eq_true rfl) (htb _ m_127) (fun _ h9 => h9) rfl hin rfl (tyX4_ok 1 (Nat.le_of_ble_eq_true rfl)) rfl rfl (Nat.le_of_ble_eq_true rfl) dX4_init_17 ?_
  clear hP hD hS; intro H locs hP hD hS
  change va_P (dC, dI) vwCl [(h0, .inr (4, [.ref q_1, .ref q_3])), (q_1, .inl (a_2, 121, .inl (fun _ => 0))), (q_3, .inl (a_4, 121, .inl (fun _ => 0)))] H at hP
  change va_D A [(h0, .inr (4, [.ref q_1, .ref q_3])), (q_1, .inl (a_2, 121, .inl (fun _ => 0))), (q_3, .inl (a_4, 121, .inl (fun _ => 0)))] at hD
  refine W.widen (k := 2) (n := 242) (Nat.le_of_ble_eq_true rfl) (Nat.le_of_ble_eq_true rfl) ?_
  have hP9 := hP.sub (ws' := [(h0, .inr (4, [.ref q_1, .ref q_3])), (q_1, .inl (a_2, 121, .inl (fun _ => 0))), (q_3, .inl (a_4, 121, .inl (fun _ => 0)))]) [0, 1, 2] rfl
  have hD9 := hD.sub (ws' := [(h0, .inr (4, [.ref q_1, .ref q_3])), (q_1, .inl (a_2, 121, .inl (fun _ => 0))), (q_3, .inl (a_4, 121, .inl (fun _ => 0)))]) [0, 1, 2] (by decide) rfl
  have hK9 := hK.sub (tys' := [(a_2, .int), (a_4, .int)]) [0, 1] rfl
  exact W.vret hx hb hr (fun t ht hW => ⟨⟨(), rfl, trivial, ⟨q_1, q_3, a_2, a_4, by rw [ht]; exact hP9, va_K.moved hW.alike hK9, hD9⟩⟩, hS.F ht⟩) hS.2.2 dX4_init_20

theorem lf_X4_placeOf_0 (r_1 : Int32) (x_3 : Int32) (r_5 : Int32) (x_7 : Int32) (h_2 : 0 ≤ r_1 ∧ r_1 ≤ 10) (ex_4 : x_3 = r_1 * 11) (h_6 : 0 ≤ r_5 ∧ r_5 ≤ 10) (ex_8 : x_7 = x_3 + r_5) : vp_in x_7 121 := by
  exact ix11' h_2 h_6 ex_4 ex_8
set_option maxHeartbeats 4000000 in
set_option maxRecDepth 100000 in
theorem kX4_placeOf (l : Launch) (dC : Nat → ClassId) (dI : Nat → Nat → Nat) (sz : Nat) (v1 : Int32) (v2 : Int32) : Met l yX4_placeOf (Cond.code yX4_placeOf cX4_placeOf 2 (some .int) :: bg) ({ frames := 3, cells := 0, slots := 0, locals := 54 }) (pcW dC dI [.int v1, .int v2] sz [] []) (va_Qi (fun (r : Int32) (u : Unit) => vp_in r 121) (fun (u : Unit) (t : State) => va_P (dC, dI) vwCl [] t.heap ∧ va_K (dC, dI) vwCl [] t ∧ va_D (va_A [] sz) []) (va_A [] sz)) 0 0 (va_A [] sz) := by
  refine Met.ofW (cc := cX4_placeOf) (maxL := 2) (ret := (some .int)) pnX4 rfl ?_
  intro p e s m args below meth c s₁ B hml hv
  obtain ⟨rfl, hsz, hP, hK, hD0, hN⟩ := hv
  have hx := B.exec
  have hb := B.bytes
  have hr := B.returns
  have htb : ∀ w ∈ bg, w.before [.int v1, .int v2].toArray s = true := fun w h => atoms_spec (ws := Cond.code yX4_placeOf cX4_placeOf 2 (some .int) :: bg) B.pre w (List.mem_cons_of_mem _ h)
  have hown : s.vm.findClass RX4 = some m.cls := findClass_of_methodNamed B.named
  have hlocks := B.notSynchronized
  subst hsz
  have hD := hD0.self (sz := s.heap.size)
  generalize hAe : va_A [] s.heap.size = A at hD ⊢
  have hA : ∀ q : Nat, s.heap.size ≤ q → A q := fun q h => by rw [← hAe]; exact Or.inr h
  have hS : va_S A s.heap s.heap [] := va_S.rf
  have hl := lv_entry ([.int v1, .int v2]) (n := 2) (Nat.le_of_ble_eq_true rfl)
  rw [lg_entry_eq]
  generalize (lg_sl ([.int v1, .int v2]) ++ List.replicate (2 - (lg_sl ([.int v1, .int v2])).length) Slot.unset).toArray = ls at hl ⊢
  change lv_has ls 2 [(0, .int v1), (1, .int v2)] at hl
  clear hD0 hAe
  refine go0 (wsP := fun H => va_P (dC, dI) vwCl [] H) hP hS ?_
  clear hP hS; intro H locs hP hS
  change va_P (dC, dI) vwCl [] H at hP
  refine lv_iload_n hx hb dX4_placeOf_0 rfl (lv_at hl 0 rfl) ?_
  have hPc := hP.sub (ws' := []) [] rfl
  have hDc := hD.sub (ws' := []) [] (by decide) rfl
  have hKc := hK.sub (tys' := []) [] rfl
  have hFc := va_free (wc := []) hD hS hA [] rfl
  refine va_calli (va_runSN (As := [.int v1]) (rest := []) ⟨hx, hb, hml, hown, htb⟩ (kX11_frostOf l dC dI H.size v1 ) ⟨va_cnB 1 htb (gd_c m_496) rfl rfl rfl (hN.1 _ nm_27) (htb _ m_1) hdX11_frostOf ⟨(Nat.le_of_ble_eq_true rfl), (Nat.le_of_ble_eq_true rfl)⟩, htb _ m_495, trivial⟩ ⟨pcW_blind, pcW_at hPc hKc hDc hN⟩ rfl rfl hl.1 rfl (lv_room (Nat.le_of_ble_eq_true rfl)) dX4_placeOf_1 ⟨(Nat.le_of_ble_eq_true rfl), (Nat.le_of_ble_eq_true rfl)⟩) hS (fun q _ h => hFc q h) hFc (fun r_1 u t H1 locs1 ht hvm h_2 hB hz1 hk1 hS1 => ?_)
  obtain ⟨hP1, hK1, hD1⟩ := hB
  rw [ht] at hP1
  obtain ⟨hPn, hDn⟩ := va_join (wr := []) (w1 := []) hP hD [] [] rfl rfl (by decide) (by decide) hk1 hFc hP1 hD1
  clear hP1 hD1 hK1
  clear hP hD hS hPc hDc hKc hFc hk1 hz1 ht hvm
  clear t
  revert hS1 hPn hDn; generalize H1 = H; generalize locs1 = locs; intro hS hP hD
  change va_P (dC, dI) vwCl [] H at hP
  change va_D A [] at hD
  refine lv_bipush (v := 11) hx hb dX4_placeOf_4 (by decide) ?_
  refine lv_imul hx hb dX4_placeOf_6 ?_
  refine lv_topi (fun x_3 ex_4 => ?_)
  refine lv_iload_n hx hb dX4_placeOf_7 rfl (lv_at hl 1 rfl) ?_
  have hPc := hP.sub (ws' := []) [] rfl
  have hDc := hD.sub (ws' := []) [] (by decide) rfl
  have hKc := hK.sub (tys' := []) [] rfl
  have hFc := va_free (wc := []) hD hS hA [] rfl
  refine va_calli (va_runSN (As := [.int v2]) (rest := [.int x_3]) ⟨hx, hb, hml, hown, htb⟩ (kX11_thawOf l dC dI H.size v2 ) ⟨va_cnB 1 htb (gd_c m_499) rfl rfl rfl (hN.1 _ nm_28) (htb _ m_1) hdX11_thawOf ⟨(Nat.le_of_ble_eq_true rfl), (Nat.le_of_ble_eq_true rfl)⟩, htb _ m_498, trivial⟩ ⟨pcW_blind, pcW_at hPc hKc hDc hN⟩ rfl rfl hl.1 rfl (lv_room (Nat.le_of_ble_eq_true rfl)) dX4_placeOf_8 ⟨(Nat.le_of_ble_eq_true rfl), (Nat.le_of_ble_eq_true rfl)⟩) hS (fun q _ h => hFc q h) hFc (fun r_5 u t H1 locs1 ht hvm h_6 hB hz1 hk1 hS1 => ?_)
  obtain ⟨hP1, hK1, hD1⟩ := hB
  rw [ht] at hP1
  obtain ⟨hPn, hDn⟩ := va_join (wr := []) (w1 := []) hP hD [] [] rfl rfl (by decide) (by decide) hk1 hFc hP1 hD1
  clear hP1 hD1 hK1
  clear hP hD hS hPc hDc hKc hFc hk1 hz1 ht hvm
  clear t
  revert hS1 hPn hDn; generalize H1 = H; generalize locs1 = locs; intro hS hP hD
  change va_P (dC, dI) vwCl [] H at hP
  change va_D A [] at hD
  refine lv_iadd hx hb dX4_placeOf_11 ?_
  refine lv_topi (fun x_7 ex_8 => ?_)
  refine W.widen (k := 0) (n := 0) (Nat.le_of_ble_eq_true rfl) (Nat.le_of_ble_eq_true rfl) ?_
  have hP9 := hP.sub (ws' := []) [] rfl
  have hD9 := hD.sub (ws' := []) [] (by decide) rfl
  have hK9 := hK.sub (tys' := []) [] rfl
  exact W.iret (v := x_7) hx hb hr (fun t ht hW => ⟨⟨x_7, (), rfl, (lf_X4_placeOf_0 r_1 x_3 r_5 x_7 h_2 ex_4 h_6 ex_8), ⟨by rw [ht]; exact hP9, va_K.moved hW.alike hK9, hD9⟩⟩, hS.F ht⟩) hS.2.2 dX4_placeOf_12

set_option maxHeartbeats 4000000 in
set_option maxRecDepth 100000 in
theorem kX4_keep (l : Launch) (dC : Nat → ClassId) (dI : Nat → Nat → Nat) (sz : Nat) (h0 : Nat) (a_given : Nat) (a_days : Nat) (k_given : ClassId) (k_days : ClassId) (v1 : Int32) (v2 : Int32) : Met l yX4_keep (Cond.code yX4_keep cX4_keep 5 none :: bg) ({ frames := 4, cells := 0, slots := 0, locals := 75 }) (pcW dC dI [.ref h0, .int v1, .int v2, .int 0] sz [(h0, .inr (4, [.ref a_given, .ref a_days])), (a_given, .inl (k_given, 121, .inl (fun _ => 0))), (a_days, .inl (k_days, 121, .inl (fun _ => 0)))] [(k_given, .int), (k_days, .int)]) (va_Qv (fun (u : Unit) => True) (fun (u : Unit) (t : State) => True) (va_A [(h0, .inr (4, [.ref a_given, .ref a_days])), (a_given, .inl (k_given, 121, .inl (fun _ => 0))), (a_days, .inl (k_days, 121, .inl (fun _ => 0)))] sz)) 0 0 (va_A [(h0, .inr (4, [.ref a_given, .ref a_days])), (a_given, .inl (k_given, 121, .inl (fun _ => 0))), (a_days, .inl (k_days, 121, .inl (fun _ => 0)))] sz) := by
  refine Met.ofW (cc := cX4_keep) (maxL := 5) (ret := none) pnX4 rfl ?_
  intro p e s m args below meth c s₁ B hml hv
  obtain ⟨rfl, hsz, hP, hK, hD0, hN⟩ := hv
  have hx := B.exec
  have hb := B.bytes
  have hr := B.returns
  have htb : ∀ w ∈ bg, w.before [.ref h0, .int v1, .int v2, .int 0].toArray s = true := fun w h => atoms_spec (ws := Cond.code yX4_keep cX4_keep 5 none :: bg) B.pre w (List.mem_cons_of_mem _ h)
  have hown : s.vm.findClass RX4 = some m.cls := findClass_of_methodNamed B.named
  have hlocks := B.notSynchronized
  subst hsz
  have hD := hD0.self (sz := s.heap.size)
  generalize hAe : va_A [(h0, .inr (4, [.ref a_given, .ref a_days])), (a_given, .inl (k_given, 121, .inl (fun _ => 0))), (a_days, .inl (k_days, 121, .inl (fun _ => 0)))] s.heap.size = A at hD ⊢
  have hA : ∀ q : Nat, s.heap.size ≤ q → A q := fun q h => by rw [← hAe]; exact Or.inr h
  have hS : va_S A s.heap s.heap [] := va_S.rf
  have hl := lv_entry ([.ref h0, .int v1, .int v2, .int 0]) (n := 5) (Nat.le_of_ble_eq_true rfl)
  rw [lg_entry_eq]
  generalize (lg_sl ([.ref h0, .int v1, .int v2, .int 0]) ++ List.replicate (5 - (lg_sl ([.ref h0, .int v1, .int v2, .int 0])).length) Slot.unset).toArray = ls at hl ⊢
  change lv_has ls 5 [(0, .ref h0), (1, .int v1), (2, .int v2), (3, .int 0)] at hl
  clear hD0 hAe
  refine go0 (wsP := fun H => va_P (dC, dI) vwCl [(h0, .inr (4, [.ref a_given, .ref a_days])), (a_given, .inl (k_given, 121, .inl (fun _ => 0))), (a_days, .inl (k_days, 121, .inl (fun _ => 0)))] H) hP hS ?_
  clear hP hS; intro H locs hP hS
  change va_P (dC, dI) vwCl [(h0, .inr (4, [.ref a_given, .ref a_days])), (a_given, .inl (k_given, 121, .inl (fun _ => 0))), (a_days, .inl (k_days, 121, .inl (fun _ => 0)))] H at hP
  refine lv_iload_n hx hb dX4_keep_0 rfl (lv_at hl 1 rfl) ?_
  refine lv_iload_n hx hb dX4_keep_1 rfl (lv_at hl 2 rfl) ?_
  have hPc := hP.sub (ws' := []) [] rfl
  have hDc := hD.sub (ws' := []) [] (by decide) rfl
  have hKc := hK.sub (tys' := []) [] rfl
  have hFc := va_free (wc := []) hD hS hA [] rfl
  refine va_calli (va_runS (As := [.int v1, .int v2]) (rest := []) ⟨hx, hb, hml, hown, htb⟩ (kX4_placeOf l dC dI H.size v1 v2 ) ⟨callB_of 2 htb (gd_c m_559) rfl rfl rfl (htb _ m_5) (htb _ m_557) hdX4_placeOf ⟨(Nat.le_of_ble_eq_true rfl), (Nat.le_of_ble_eq_true rfl)⟩, htb _ m_558⟩ ⟨pcW_blind, pcW_at hPc hKc hDc hN⟩ rfl rfl hl.1 rfl (lv_room (Nat.le_of_ble_eq_true rfl)) dX4_keep_2 ⟨(Nat.le_of_ble_eq_true rfl), (Nat.le_of_ble_eq_true rfl)⟩) hS (fun q _ h => hFc q h) hFc (fun r_1 u t H1 locs1 ht hvm h_2 hB hz1 hk1 hS1 => ?_)
  obtain ⟨hP1, hK1, hD1⟩ := hB
  rw [ht] at hP1
  obtain ⟨hPn, hDn⟩ := va_join (wr := [(h0, .inr (4, [.ref a_given, .ref a_days])), (a_given, .inl (k_given, 121, .inl (fun _ => 0))), (a_days, .inl (k_days, 121, .inl (fun _ => 0)))]) (w1 := []) hP hD [] [0, 1, 2] rfl rfl (by decide) (by decide) hk1 hFc hP1 hD1
  clear hP1 hD1 hK1
  clear hP hD hS hPc hDc hKc hFc hk1 hz1 ht hvm
  clear t
  revert hS1 hPn hDn; generalize H1 = H; generalize locs1 = locs; intro hS hP hD
  change va_P (dC, dI) vwCl [(h0, .inr (4, [.ref a_given, .ref a_days])), (a_given, .inl (k_given, 121, .inl (fun _ => 0))), (a_days, .inl (k_days, 121, .inl (fun _ => 0)))] H at hP
  change va_D A [(h0, .inr (4, [.ref a_given, .ref a_days])), (a_given, .inl (k_given, 121, .inl (fun _ => 0))), (a_days, .inl (k_days, 121, .inl (fun _ => 0)))] at hD
  refine lv_istore (lv' := [(4, .int r_1), (0, .ref h0), (1, .int v1), (2, .int v2), (3, .int 0)]) hx hb dX4_keep_5 hl (by decide) rfl ?_
  clear hl; intro ls hl
  refine lv_aload_n hx hb dX4_keep_7 rfl (lv_at hl 1 rfl) ?_
  refine va_get (D := (dC, dI)) (ci := 4) (v := .ref a_given) (C := RX4) (T := TX4) (N := 2) hx hb htb iX4 hown hK hP 0 rfl rfl 0 (Nat.le_of_ble_eq_true rfl) (htb _ m_126) (fun _ h9 => h9) rfl dX4_keep_8 ?_
  refine lv_iload hx hb dX4_keep_11 (lv_at hl 0 rfl) ?_
  refine lv_dup2_11 hx hb dX4_keep_13 rfl rfl ?_
  refine va_iald hx hb hK hP 1 0 rfl rfl h_2 dX4_keep_14 ?_
  refine lv_tope (y := 0) rfl ?_
  refine lv_iload_n hx hb dX4_keep_15 rfl (lv_at hl 4 rfl) ?_
  refine lv_iadd hx hb dX4_keep_16 ?_
  refine lv_tope (y := 0) (by decide) ?_
  refine va_iast hx hb hK hP hD hS 1 0 rfl rfl h_2 dX4_keep_17 ?_
  clear hP hD hS; intro H locs hP hD hS
  change va_P (dC, dI) vwCl [(h0, .inr (4, [.ref a_given, .ref a_days])), (a_given, .inl (k_given, 121, .inl (upd (fun _ => 0) (Int32.toNatClampNeg r_1) 0))), (a_days, .inl (k_days, 121, .inl (fun _ => 0)))] H at hP
  change va_D A [(h0, .inr (4, [.ref a_given, .ref a_days])), (a_given, .inl (k_given, 121, .inl (upd (fun _ => 0) (Int32.toNatClampNeg r_1) 0))), (a_days, .inl (k_days, 121, .inl (fun _ => 0)))] at hD
  refine lv_aload_n hx hb dX4_keep_18 rfl (lv_at hl 1 rfl) ?_
  refine va_get (D := (dC, dI)) (ci := 4) (v := .ref a_days) (C := RX4) (T := TX4) (N := 2) hx hb htb iX4 hown hK hP 0 rfl rfl 1 (Nat.le_of_ble_eq_true rfl) (htb _ m_127) (fun _ h9 => h9) rfl dX4_keep_19 ?_
  refine lv_iload hx hb dX4_keep_22 (lv_at hl 0 rfl) ?_
  refine lv_dup2_11 hx hb dX4_keep_24 rfl rfl ?_
  refine va_iald hx hb hK hP 2 1 rfl rfl h_2 dX4_keep_25 ?_
  refine lv_tope (y := 0) rfl ?_
  refine lv_iconst (v := 1) hx hb dX4_keep_26 (by decide) ?_
  refine lv_iadd hx hb dX4_keep_27 ?_
  refine lv_tope (y := 1) (by decide) ?_
  refine va_iast hx hb hK hP hD hS 2 1 rfl rfl h_2 dX4_keep_28 ?_
  clear hP hD hS; intro H locs hP hD hS
  change va_P (dC, dI) vwCl [(h0, .inr (4, [.ref a_given, .ref a_days])), (a_given, .inl (k_given, 121, .inl (upd (fun _ => 0) (Int32.toNatClampNeg r_1) 0))), (a_days, .inl (k_days, 121, .inl (upd (fun _ => 0) (Int32.toNatClampNeg r_1) 1)))] H at hP
  change va_D A [(h0, .inr (4, [.ref a_given, .ref a_days])), (a_given, .inl (k_given, 121, .inl (upd (fun _ => 0) (Int32.toNatClampNeg r_1) 0))), (a_days, .inl (k_days, 121, .inl (upd (fun _ => 0) (Int32.toNatClampNeg r_1) 1)))] at hD
  refine W.widen (k := 0) (n := 0) (Nat.le_of_ble_eq_true rfl) (Nat.le_of_ble_eq_true rfl) ?_
  exact W.vret hx hb hr (fun t ht hW => ⟨⟨(), rfl, trivial, trivial⟩, hS.F ht⟩) hS.2.2 dX4_keep_29

set_option maxHeartbeats 4000000 in
set_option maxRecDepth 100000 in
theorem kX4_greatestDivisor (l : Launch) (dC : Nat → ClassId) (dI : Nat → Nat → Nat) (sz : Nat) : Met l yX4_greatestDivisor (Cond.code yX4_greatestDivisor cX4_greatestDivisor 6 (some .int) :: bg) ({ frames := 0, cells := 0, slots := 0, locals := 0 }) (pcW dC dI [.int 0, .int 0] sz [] []) (va_Qi (fun (r : Int32) (u : Unit) => r = 0) (fun (u : Unit) (t : State) => va_P (dC, dI) vwCl [] t.heap ∧ va_K (dC, dI) vwCl [] t ∧ va_D (va_A [] sz) []) (va_A [] sz)) 0 0 (va_A [] sz) := by
  refine Met.ofW (cc := cX4_greatestDivisor) (maxL := 6) (ret := (some .int)) pnX4 rfl ?_
  intro p e s m args below meth c s₁ B hml hv
  obtain ⟨rfl, hsz, hP, hK, hD0, hN⟩ := hv
  have hx := B.exec
  have hb := B.bytes
  have hr := B.returns
  have htb : ∀ w ∈ bg, w.before [.int 0, .int 0].toArray s = true := fun w h => atoms_spec (ws := Cond.code yX4_greatestDivisor cX4_greatestDivisor 6 (some .int) :: bg) B.pre w (List.mem_cons_of_mem _ h)
  have hown : s.vm.findClass RX4 = some m.cls := findClass_of_methodNamed B.named
  have hlocks := B.notSynchronized
  subst hsz
  have hD := hD0.self (sz := s.heap.size)
  generalize hAe : va_A [] s.heap.size = A at hD ⊢
  have hA : ∀ q : Nat, s.heap.size ≤ q → A q := fun q h => by rw [← hAe]; exact Or.inr h
  have hS : va_S A s.heap s.heap [] := va_S.rf
  have hl := lv_entry ([.int 0, .int 0]) (n := 6) (Nat.le_of_ble_eq_true rfl)
  rw [lg_entry_eq]
  generalize (lg_sl ([.int 0, .int 0]) ++ List.replicate (6 - (lg_sl ([.int 0, .int 0])).length) Slot.unset).toArray = ls at hl ⊢
  change lv_has ls 6 [(0, .int 0), (1, .int 0)] at hl
  clear hD0 hAe
  refine go0 (wsP := fun H => va_P (dC, dI) vwCl [] H) hP hS ?_
  clear hP hS; intro H locs hP hS
  change va_P (dC, dI) vwCl [] H at hP
  refine lv_iload_n hx hb dX4_greatestDivisor_0 rfl (lv_at hl 0 rfl) ?_
  refine lv_istore_n (lv' := [(2, .int 0), (0, .int 0), (1, .int 0)]) hx hb dX4_greatestDivisor_1 rfl hl (by decide) rfl ?_
  clear hl; intro ls hl
  refine lv_iload_n hx hb dX4_greatestDivisor_2 rfl (lv_at hl 2 rfl) ?_
  refine lv_istore_n (lv' := [(3, .int 0), (2, .int 0), (0, .int 0), (1, .int 0)]) hx hb dX4_greatestDivisor_3 rfl hl (by decide) rfl ?_
  clear hl; intro ls hl
  refine lv_iconst (v := 0) hx hb dX4_greatestDivisor_4 (by decide) ?_
  refine lv_istore (lv' := [(4, .int 0), (3, .int 0), (2, .int 0), (0, .int 0), (1, .int 0)]) hx hb dX4_greatestDivisor_5 hl (by decide) rfl ?_
  clear hl; intro ls hl
  refine lv_iload hx hb dX4_greatestDivisor_7 (lv_at hl 0 rfl) ?_
  refine lv_bipush (v := 64) hx hb dX4_greatestDivisor_9 (by decide) ?_
  refine lv_icmp_ge (tgt := 34) hx hb dX4_greatestDivisor_11 (by decide) (fun c_1 => absurd c_1 (by decide)) ?_
  intro _
  refine lv_iload_n hx hb dX4_greatestDivisor_14 rfl (lv_at hl 1 rfl) ?_
  refine lv_if_eq (tgt := 34) hx hb dX4_greatestDivisor_15 (by decide) ?_ (fun c_2 => absurd (by decide) c_2)
  intro _
  refine lv_iload_n hx hb dX4_greatestDivisor_34 rfl (lv_at hl 2 rfl) ?_
  refine W.widen (k := 0) (n := 0) (Nat.le_of_ble_eq_true rfl) (Nat.le_of_ble_eq_true rfl) ?_
  have hP9 := hP.sub (ws' := []) [] rfl
  have hD9 := hD.sub (ws' := []) [] (by decide) rfl
  have hK9 := hK.sub (tys' := []) [] rfl
  exact W.iret (v := 0) hx hb hr (fun t ht hW => ⟨⟨0, (), rfl, (rfl), ⟨by rw [ht]; exact hP9, va_K.moved hW.alike hK9, hD9⟩⟩, hS.F ht⟩) hS.2.2 dX4_greatestDivisor_35

set_option maxHeartbeats 4000000 in
set_option maxRecDepth 100000 in
theorem kX4_inLowestTerms (l : Launch) (dC : Nat → ClassId) (dI : Nat → Nat → Nat) (sz : Nat) (h0 : Nat) (a_given : Nat) (a_days : Nat) (k_given : ClassId) (k_days : ClassId) (v1 : Int32) (v2 : Int32) (hv : vp_in v2 121) : Met l yX4_inLowestTerms (Cond.code yX4_inLowestTerms cX4_inLowestTerms 4 (some .int) :: bg) ({ frames := 1, cells := 0, slots := 0, locals := 25 }) (pcW dC dI [.ref h0, .int v1, .int v2] sz [(h0, .inr (4, [.ref a_given, .ref a_days])), (a_given, .inl (k_given, 121, .inl (fun _ => 0))), (a_days, .inl (k_days, 121, .inl (fun _ => 0)))] [(k_given, .int), (k_days, .int)]) (va_Qi (fun (r : Int32) (u : Unit) => r = (-1)) (fun (u : Unit) (t : State) => True) (va_A [(h0, .inr (4, [.ref a_given, .ref a_days])), (a_given, .inl (k_given, 121, .inl (fun _ => 0))), (a_days, .inl (k_days, 121, .inl (fun _ => 0)))] sz)) 0 0 (va_A [(h0, .inr (4, [.ref a_given, .ref a_days])), (a_given, .inl (k_given, 121, .inl (fun _ => 0))), (a_days, .inl (k_days, 121, .inl (fun _ => 0)))] sz) := by
  refine Met.ofW (cc := cX4_inLowestTerms) (maxL := 4) (ret := (some .int)) pnX4 rfl ?_
  intro p e s m args below meth c s₁ B hml hv
  obtain ⟨rfl, hsz, hP, hK, hD0, hN⟩ := hv
  have hx := B.exec
  have hb := B.bytes
  have hr := B.returns
  have htb : ∀ w ∈ bg, w.before [.ref h0, .int v1, .int v2].toArray s = true := fun w h => atoms_spec (ws := Cond.code yX4_inLowestTerms cX4_inLowestTerms 4 (some .int) :: bg) B.pre w (List.mem_cons_of_mem _ h)
  have hown : s.vm.findClass RX4 = some m.cls := findClass_of_methodNamed B.named
  have hlocks := B.notSynchronized
  subst hsz
  have hD := hD0.self (sz := s.heap.size)
  generalize hAe : va_A [(h0, .inr (4, [.ref a_given, .ref a_days])), (a_given, .inl (k_given, 121, .inl (fun _ => 0))), (a_days, .inl (k_days, 121, .inl (fun _ => 0)))] s.heap.size = A at hD ⊢
  have hA : ∀ q : Nat, s.heap.size ≤ q → A q := fun q h => by rw [← hAe]; exact Or.inr h
  have hS : va_S A s.heap s.heap [] := va_S.rf
  have hl := lv_entry ([.ref h0, .int v1, .int v2]) (n := 4) (Nat.le_of_ble_eq_true rfl)
  rw [lg_entry_eq]
  generalize (lg_sl ([.ref h0, .int v1, .int v2]) ++ List.replicate (4 - (lg_sl ([.ref h0, .int v1, .int v2])).length) Slot.unset).toArray = ls at hl ⊢
  change lv_has ls 4 [(0, .ref h0), (1, .int v1), (2, .int v2)] at hl
  clear hD0 hAe
  refine go0 (wsP := fun H => va_P (dC, dI) vwCl [(h0, .inr (4, [.ref a_given, .ref a_days])), (a_given, .inl (k_given, 121, .inl (fun _ => 0))), (a_days, .inl (k_days, 121, .inl (fun _ => 0)))] H) hP hS ?_
  clear hP hS; intro H locs hP hS
  change va_P (dC, dI) vwCl [(h0, .inr (4, [.ref a_given, .ref a_days])), (a_given, .inl (k_given, 121, .inl (fun _ => 0))), (a_days, .inl (k_days, 121, .inl (fun _ => 0)))] H at hP
  refine lv_aload_n hx hb dX4_inLowestTerms_0 rfl (lv_at hl 0 rfl) ?_
  refine va_get (D := (dC, dI)) (ci := 4) (v := .ref a_given) (C := RX4) (T := TX4) (N := 2) hx hb htb iX4 hown hK hP 0 rfl rfl 0 (Nat.le_of_ble_eq_true rfl) (htb _ m_126) (fun _ h9 => h9) rfl dX4_inLowestTerms_1 ?_
  refine lv_iload_n hx hb dX4_inLowestTerms_4 rfl (lv_at hl 2 rfl) ?_
  refine va_iald hx hb hK hP 1 0 rfl rfl hv dX4_inLowestTerms_5 ?_
  refine lv_tope (y := 0) rfl ?_
  refine lv_aload_n hx hb dX4_inLowestTerms_6 rfl (lv_at hl 0 rfl) ?_
  refine va_get (D := (dC, dI)) (ci := 4) (v := .ref a_days) (C := RX4) (T := TX4) (N := 2) hx hb htb iX4 hown hK hP 0 rfl rfl 1 (Nat.le_of_ble_eq_true rfl) (htb _ m_127) (fun _ h9 => h9) rfl dX4_inLowestTerms_7 ?_
  refine lv_iload_n hx hb dX4_inLowestTerms_10 rfl (lv_at hl 2 rfl) ?_
  refine va_iald hx hb hK hP 2 1 rfl rfl hv dX4_inLowestTerms_11 ?_
  refine lv_tope (y := 0) rfl ?_
  have hPc := hP.sub (ws' := []) [] rfl
  have hDc := hD.sub (ws' := []) [] (by decide) rfl
  have hKc := hK.sub (tys' := []) [] rfl
  have hFc := va_free (wc := []) hD hS hA [] rfl
  refine va_calli (va_runS (As := [.int 0, .int 0]) (rest := []) ⟨hx, hb, hml, hown, htb⟩ (kX4_greatestDivisor l dC dI H.size  ) ⟨callB_of 2 htb (gd_c m_604) rfl rfl rfl (htb _ m_5) (htb _ m_602) hdX4_greatestDivisor ⟨(Nat.le_of_ble_eq_true rfl), (Nat.le_of_ble_eq_true rfl)⟩, htb _ m_603⟩ ⟨pcW_blind, pcW_at hPc hKc hDc hN⟩ rfl rfl hl.1 rfl (lv_room (Nat.le_of_ble_eq_true rfl)) dX4_inLowestTerms_12 ⟨(Nat.le_of_ble_eq_true rfl), (Nat.le_of_ble_eq_true rfl)⟩) hS (fun q _ h => hFc q h) hFc (fun r_1 u t H1 locs1 ht hvm h_2 hB hz1 hk1 hS1 => ?_)
  obtain ⟨hP1, hK1, hD1⟩ := hB
  rw [ht] at hP1
  obtain ⟨hPn, hDn⟩ := va_join (wr := [(h0, .inr (4, [.ref a_given, .ref a_days])), (a_given, .inl (k_given, 121, .inl (fun _ => 0))), (a_days, .inl (k_days, 121, .inl (fun _ => 0)))]) (w1 := []) hP hD [] [0, 1, 2] rfl rfl (by decide) (by decide) hk1 hFc hP1 hD1
  clear hP1 hD1 hK1
  clear hP hD hS hPc hDc hKc hFc hk1 hz1 ht hvm
  clear t
  revert hS1 hPn hDn; generalize H1 = H; generalize locs1 = locs; intro hS hP hD
  change va_P (dC, dI) vwCl [(h0, .inr (4, [.ref a_given, .ref a_days])), (a_given, .inl (k_given, 121, .inl (fun _ => 0))), (a_days, .inl (k_days, 121, .inl (fun _ => 0)))] H at hP
  change va_D A [(h0, .inr (4, [.ref a_given, .ref a_days])), (a_given, .inl (k_given, 121, .inl (fun _ => 0))), (a_days, .inl (k_days, 121, .inl (fun _ => 0)))] at hD
  subst h_2
  refine lv_istore_n (lv' := [(3, .int 0), (0, .ref h0), (1, .int v1), (2, .int v2)]) hx hb dX4_inLowestTerms_15 rfl hl (by decide) rfl ?_
  clear hl; intro ls hl
  refine lv_aload_n hx hb dX4_inLowestTerms_16 rfl (lv_at hl 1 rfl) ?_
  refine va_get (D := (dC, dI)) (ci := 4) (v := .ref a_days) (C := RX4) (T := TX4) (N := 2) hx hb htb iX4 hown hK hP 0 rfl rfl 1 (Nat.le_of_ble_eq_true rfl) (htb _ m_127) (fun _ h9 => h9) rfl dX4_inLowestTerms_17 ?_
  refine lv_iload_n hx hb dX4_inLowestTerms_20 rfl (lv_at hl 3 rfl) ?_
  refine va_iald hx hb hK hP 2 1 rfl rfl hv dX4_inLowestTerms_21 ?_
  refine lv_tope (y := 0) rfl ?_
  refine lv_if_eq (tgt := 29) hx hb dX4_inLowestTerms_22 (by decide) ?_ (fun c_3 => absurd (by decide) c_3)
  intro _
  refine lv_iconst (v := (-1)) hx hb dX4_inLowestTerms_29 (by decide) ?_
  refine lv_goto (tgt := 36) hx hb dX4_inLowestTerms_30 (by decide) ?_
  refine W.widen (k := 0) (n := 0) (Nat.le_of_ble_eq_true rfl) (Nat.le_of_ble_eq_true rfl) ?_
  exact W.iret (v := (-1)) hx hb hr (fun t ht hW => ⟨⟨(-1), (), rfl, (rfl), trivial⟩, hS.F ht⟩) hS.2.2 dX4_inLowestTerms_36

set_option maxHeartbeats 4000000 in
set_option maxRecDepth 100000 in
theorem kX4_meanUpper (l : Launch) (dC : Nat → ClassId) (dI : Nat → Nat → Nat) (sz : Nat) (h0 : Nat) (a_given : Nat) (a_days : Nat) (k_given : ClassId) (k_days : ClassId) (v1 : Int32) (v2 : Int32) : Met l yX4_meanUpper (Cond.code yX4_meanUpper cX4_meanUpper 4 (some .int) :: bg) ({ frames := 4, cells := 0, slots := 0, locals := 75 }) (pcW dC dI [.ref h0, .int v1, .int v2] sz [(h0, .inr (4, [.ref a_given, .ref a_days])), (a_given, .inl (k_given, 121, .inl (fun _ => 0))), (a_days, .inl (k_days, 121, .inl (fun _ => 0)))] [(k_given, .int), (k_days, .int)]) (va_Qi (fun (r : Int32) (u : Unit) => r = (-1)) (fun (u : Unit) (t : State) => True) (va_A [(h0, .inr (4, [.ref a_given, .ref a_days])), (a_given, .inl (k_given, 121, .inl (fun _ => 0))), (a_days, .inl (k_days, 121, .inl (fun _ => 0)))] sz)) 0 0 (va_A [(h0, .inr (4, [.ref a_given, .ref a_days])), (a_given, .inl (k_given, 121, .inl (fun _ => 0))), (a_days, .inl (k_days, 121, .inl (fun _ => 0)))] sz) := by
  refine Met.ofW (cc := cX4_meanUpper) (maxL := 4) (ret := (some .int)) pnX4 rfl ?_
  intro p e s m args below meth c s₁ B hml hv
  obtain ⟨rfl, hsz, hP, hK, hD0, hN⟩ := hv
  have hx := B.exec
  have hb := B.bytes
  have hr := B.returns
  have htb : ∀ w ∈ bg, w.before [.ref h0, .int v1, .int v2].toArray s = true := fun w h => atoms_spec (ws := Cond.code yX4_meanUpper cX4_meanUpper 4 (some .int) :: bg) B.pre w (List.mem_cons_of_mem _ h)
  have hown : s.vm.findClass RX4 = some m.cls := findClass_of_methodNamed B.named
  have hlocks := B.notSynchronized
  subst hsz
  have hD := hD0.self (sz := s.heap.size)
  generalize hAe : va_A [(h0, .inr (4, [.ref a_given, .ref a_days])), (a_given, .inl (k_given, 121, .inl (fun _ => 0))), (a_days, .inl (k_days, 121, .inl (fun _ => 0)))] s.heap.size = A at hD ⊢
  have hA : ∀ q : Nat, s.heap.size ≤ q → A q := fun q h => by rw [← hAe]; exact Or.inr h
  have hS : va_S A s.heap s.heap [] := va_S.rf
  have hl := lv_entry ([.ref h0, .int v1, .int v2]) (n := 4) (Nat.le_of_ble_eq_true rfl)
  rw [lg_entry_eq]
  generalize (lg_sl ([.ref h0, .int v1, .int v2]) ++ List.replicate (4 - (lg_sl ([.ref h0, .int v1, .int v2])).length) Slot.unset).toArray = ls at hl ⊢
  change lv_has ls 4 [(0, .ref h0), (1, .int v1), (2, .int v2)] at hl
  clear hD0 hAe
  refine go0 (wsP := fun H => va_P (dC, dI) vwCl [(h0, .inr (4, [.ref a_given, .ref a_days])), (a_given, .inl (k_given, 121, .inl (fun _ => 0))), (a_days, .inl (k_days, 121, .inl (fun _ => 0)))] H) hP hS ?_
  clear hP hS; intro H locs hP hS
  change va_P (dC, dI) vwCl [(h0, .inr (4, [.ref a_given, .ref a_days])), (a_given, .inl (k_given, 121, .inl (fun _ => 0))), (a_days, .inl (k_days, 121, .inl (fun _ => 0)))] H at hP
  refine lv_iload_n hx hb dX4_meanUpper_0 rfl (lv_at hl 1 rfl) ?_
  refine lv_iload_n hx hb dX4_meanUpper_1 rfl (lv_at hl 2 rfl) ?_
  have hPc := hP.sub (ws' := []) [] rfl
  have hDc := hD.sub (ws' := []) [] (by decide) rfl
  have hKc := hK.sub (tys' := []) [] rfl
  have hFc := va_free (wc := []) hD hS hA [] rfl
  refine va_calli (va_runS (As := [.int v1, .int v2]) (rest := []) ⟨hx, hb, hml, hown, htb⟩ (kX4_placeOf l dC dI H.size v1 v2 ) ⟨callB_of 2 htb (gd_c m_559) rfl rfl rfl (htb _ m_5) (htb _ m_557) hdX4_placeOf ⟨(Nat.le_of_ble_eq_true rfl), (Nat.le_of_ble_eq_true rfl)⟩, htb _ m_558⟩ ⟨pcW_blind, pcW_at hPc hKc hDc hN⟩ rfl rfl hl.1 rfl (lv_room (Nat.le_of_ble_eq_true rfl)) dX4_meanUpper_2 ⟨(Nat.le_of_ble_eq_true rfl), (Nat.le_of_ble_eq_true rfl)⟩) hS (fun q _ h => hFc q h) hFc (fun r_1 u t H1 locs1 ht hvm h_2 hB hz1 hk1 hS1 => ?_)
  obtain ⟨hP1, hK1, hD1⟩ := hB
  rw [ht] at hP1
  obtain ⟨hPn, hDn⟩ := va_join (wr := [(h0, .inr (4, [.ref a_given, .ref a_days])), (a_given, .inl (k_given, 121, .inl (fun _ => 0))), (a_days, .inl (k_days, 121, .inl (fun _ => 0)))]) (w1 := []) hP hD [] [0, 1, 2] rfl rfl (by decide) (by decide) hk1 hFc hP1 hD1
  clear hP1 hD1 hK1
  clear hP hD hS hPc hDc hKc hFc hk1 hz1 ht hvm
  clear t
  revert hS1 hPn hDn; generalize H1 = H; generalize locs1 = locs; intro hS hP hD
  change va_P (dC, dI) vwCl [(h0, .inr (4, [.ref a_given, .ref a_days])), (a_given, .inl (k_given, 121, .inl (fun _ => 0))), (a_days, .inl (k_days, 121, .inl (fun _ => 0)))] H at hP
  change va_D A [(h0, .inr (4, [.ref a_given, .ref a_days])), (a_given, .inl (k_given, 121, .inl (fun _ => 0))), (a_days, .inl (k_days, 121, .inl (fun _ => 0)))] at hD
  refine lv_istore_n (lv' := [(3, .int r_1), (0, .ref h0), (1, .int v1), (2, .int v2)]) hx hb dX4_meanUpper_5 rfl hl (by decide) rfl ?_
  clear hl; intro ls hl
  refine lv_aload_n hx hb dX4_meanUpper_6 rfl (lv_at hl 1 rfl) ?_
  refine lv_aload_n hx hb dX4_meanUpper_7 rfl (lv_at hl 1 rfl) ?_
  refine va_get (D := (dC, dI)) (ci := 4) (v := .ref a_given) (C := RX4) (T := TX4) (N := 2) hx hb htb iX4 hown hK hP 0 rfl rfl 0 (Nat.le_of_ble_eq_true rfl) (htb _ m_126) (fun _ h9 => h9) rfl dX4_meanUpper_8 ?_
  refine lv_iload_n hx hb dX4_meanUpper_11 rfl (lv_at hl 0 rfl) ?_
  refine va_iald hx hb hK hP 1 0 rfl rfl h_2 dX4_meanUpper_12 ?_
  refine lv_tope (y := 0) rfl ?_
  refine lv_iload_n hx hb dX4_meanUpper_13 rfl (lv_at hl 0 rfl) ?_
  have hPc := hP.sub (ws' := [(h0, .inr (4, [.ref a_given, .ref a_days])), (a_given, .inl (k_given, 121, .inl (fun _ => 0))), (a_days, .inl (k_days, 121, .inl (fun _ => 0)))]) [0, 1, 2] rfl
  have hDc := hD.sub (ws' := [(h0, .inr (4, [.ref a_given, .ref a_days])), (a_given, .inl (k_given, 121, .inl (fun _ => 0))), (a_days, .inl (k_days, 121, .inl (fun _ => 0)))]) [0, 1, 2] (by decide) rfl
  have hKc := hK.sub (tys' := [(k_given, .int), (k_days, .int)]) [0, 1] rfl
  have hFc := va_free (wc := [(h0, .inr (4, [.ref a_given, .ref a_days])), (a_given, .inl (k_given, 121, .inl (fun _ => 0))), (a_days, .inl (k_days, 121, .inl (fun _ => 0)))]) hD hS hA [0, 1, 2] rfl
  refine va_calli (va_runV (C := RX4) (As := [.int 0, .int r_1]) (rest := []) ⟨hx, hb, hml, hown, htb⟩ (kX4_inLowestTerms l dC dI H.size h0 a_given a_days k_given k_days 0 r_1 h_2) ⟨callB_of 2 htb (gd_c m_601) rfl rfl rfl (htb _ m_5) (htb _ m_598) hdX4_inLowestTerms ⟨(Nat.le_of_ble_eq_true rfl), (Nat.le_of_ble_eq_true rfl)⟩, htb _ m_600, htb _ ms_6⟩ ⟨pcW_blind, va_recv hKc hPc (ci := 4) (q0 := 0) rfl rfl, pcW_at hPc hKc hDc hN⟩ rfl rfl hl.1 rfl (lv_room (Nat.le_of_ble_eq_true rfl)) dX4_meanUpper_14 ⟨(Nat.le_of_ble_eq_true rfl), (Nat.le_of_ble_eq_true rfl)⟩) hS (fun q _ h => hFc q h) hFc (fun r_3 u t H1 locs1 ht hvm h_4 hB hz1 hk1 hS1 => ?_)
  obtain ⟨hPn, hDn⟩ := va_join (wr := []) (w1 := []) hP hD [0, 1, 2] [] rfl rfl (by decide) (by decide) hk1 hFc nilP nilD
  clear hP hD hS hPc hDc hKc hFc hk1 hz1 ht hvm hB
  clear t
  revert hS1 hPn hDn; generalize H1 = H; generalize locs1 = locs; intro hS hP hD
  change va_P (dC, dI) vwCl [] H at hP
  change va_D A [] at hD
  subst h_4
  refine W.widen (k := 0) (n := 0) (Nat.le_of_ble_eq_true rfl) (Nat.le_of_ble_eq_true rfl) ?_
  exact W.iret (v := (-1)) hx hb hr (fun t ht hW => ⟨⟨(-1), (), rfl, (rfl), trivial⟩, hS.F ht⟩) hS.2.2 dX4_meanUpper_17

set_option maxHeartbeats 4000000 in
set_option maxRecDepth 100000 in
theorem kX4_meanLower (l : Launch) (dC : Nat → ClassId) (dI : Nat → Nat → Nat) (sz : Nat) (h0 : Nat) (a_given : Nat) (a_days : Nat) (k_given : ClassId) (k_days : ClassId) (v1 : Int32) (v2 : Int32) : Met l yX4_meanLower (Cond.code yX4_meanLower cX4_meanLower 4 (some .int) :: bg) ({ frames := 4, cells := 0, slots := 0, locals := 75 }) (pcW dC dI [.ref h0, .int v1, .int v2] sz [(h0, .inr (4, [.ref a_given, .ref a_days])), (a_given, .inl (k_given, 121, .inl (fun _ => 0))), (a_days, .inl (k_days, 121, .inl (fun _ => 0)))] [(k_given, .int), (k_days, .int)]) (va_Qi (fun (r : Int32) (u : Unit) => r = (-1)) (fun (u : Unit) (t : State) => True) (va_A [(h0, .inr (4, [.ref a_given, .ref a_days])), (a_given, .inl (k_given, 121, .inl (fun _ => 0))), (a_days, .inl (k_days, 121, .inl (fun _ => 0)))] sz)) 0 0 (va_A [(h0, .inr (4, [.ref a_given, .ref a_days])), (a_given, .inl (k_given, 121, .inl (fun _ => 0))), (a_days, .inl (k_days, 121, .inl (fun _ => 0)))] sz) := by
  refine Met.ofW (cc := cX4_meanLower) (maxL := 4) (ret := (some .int)) pnX4 rfl ?_
  intro p e s m args below meth c s₁ B hml hv
  obtain ⟨rfl, hsz, hP, hK, hD0, hN⟩ := hv
  have hx := B.exec
  have hb := B.bytes
  have hr := B.returns
  have htb : ∀ w ∈ bg, w.before [.ref h0, .int v1, .int v2].toArray s = true := fun w h => atoms_spec (ws := Cond.code yX4_meanLower cX4_meanLower 4 (some .int) :: bg) B.pre w (List.mem_cons_of_mem _ h)
  have hown : s.vm.findClass RX4 = some m.cls := findClass_of_methodNamed B.named
  have hlocks := B.notSynchronized
  subst hsz
  have hD := hD0.self (sz := s.heap.size)
  generalize hAe : va_A [(h0, .inr (4, [.ref a_given, .ref a_days])), (a_given, .inl (k_given, 121, .inl (fun _ => 0))), (a_days, .inl (k_days, 121, .inl (fun _ => 0)))] s.heap.size = A at hD ⊢
  have hA : ∀ q : Nat, s.heap.size ≤ q → A q := fun q h => by rw [← hAe]; exact Or.inr h
  have hS : va_S A s.heap s.heap [] := va_S.rf
  have hl := lv_entry ([.ref h0, .int v1, .int v2]) (n := 4) (Nat.le_of_ble_eq_true rfl)
  rw [lg_entry_eq]
  generalize (lg_sl ([.ref h0, .int v1, .int v2]) ++ List.replicate (4 - (lg_sl ([.ref h0, .int v1, .int v2])).length) Slot.unset).toArray = ls at hl ⊢
  change lv_has ls 4 [(0, .ref h0), (1, .int v1), (2, .int v2)] at hl
  clear hD0 hAe
  refine go0 (wsP := fun H => va_P (dC, dI) vwCl [(h0, .inr (4, [.ref a_given, .ref a_days])), (a_given, .inl (k_given, 121, .inl (fun _ => 0))), (a_days, .inl (k_days, 121, .inl (fun _ => 0)))] H) hP hS ?_
  clear hP hS; intro H locs hP hS
  change va_P (dC, dI) vwCl [(h0, .inr (4, [.ref a_given, .ref a_days])), (a_given, .inl (k_given, 121, .inl (fun _ => 0))), (a_days, .inl (k_days, 121, .inl (fun _ => 0)))] H at hP
  refine lv_iload_n hx hb dX4_meanLower_0 rfl (lv_at hl 1 rfl) ?_
  refine lv_iload_n hx hb dX4_meanLower_1 rfl (lv_at hl 2 rfl) ?_
  have hPc := hP.sub (ws' := []) [] rfl
  have hDc := hD.sub (ws' := []) [] (by decide) rfl
  have hKc := hK.sub (tys' := []) [] rfl
  have hFc := va_free (wc := []) hD hS hA [] rfl
  refine va_calli (va_runS (As := [.int v1, .int v2]) (rest := []) ⟨hx, hb, hml, hown, htb⟩ (kX4_placeOf l dC dI H.size v1 v2 ) ⟨callB_of 2 htb (gd_c m_559) rfl rfl rfl (htb _ m_5) (htb _ m_557) hdX4_placeOf ⟨(Nat.le_of_ble_eq_true rfl), (Nat.le_of_ble_eq_true rfl)⟩, htb _ m_558⟩ ⟨pcW_blind, pcW_at hPc hKc hDc hN⟩ rfl rfl hl.1 rfl (lv_room (Nat.le_of_ble_eq_true rfl)) dX4_meanLower_2 ⟨(Nat.le_of_ble_eq_true rfl), (Nat.le_of_ble_eq_true rfl)⟩) hS (fun q _ h => hFc q h) hFc (fun r_1 u t H1 locs1 ht hvm h_2 hB hz1 hk1 hS1 => ?_)
  obtain ⟨hP1, hK1, hD1⟩ := hB
  rw [ht] at hP1
  obtain ⟨hPn, hDn⟩ := va_join (wr := [(h0, .inr (4, [.ref a_given, .ref a_days])), (a_given, .inl (k_given, 121, .inl (fun _ => 0))), (a_days, .inl (k_days, 121, .inl (fun _ => 0)))]) (w1 := []) hP hD [] [0, 1, 2] rfl rfl (by decide) (by decide) hk1 hFc hP1 hD1
  clear hP1 hD1 hK1
  clear hP hD hS hPc hDc hKc hFc hk1 hz1 ht hvm
  clear t
  revert hS1 hPn hDn; generalize H1 = H; generalize locs1 = locs; intro hS hP hD
  change va_P (dC, dI) vwCl [(h0, .inr (4, [.ref a_given, .ref a_days])), (a_given, .inl (k_given, 121, .inl (fun _ => 0))), (a_days, .inl (k_days, 121, .inl (fun _ => 0)))] H at hP
  change va_D A [(h0, .inr (4, [.ref a_given, .ref a_days])), (a_given, .inl (k_given, 121, .inl (fun _ => 0))), (a_days, .inl (k_days, 121, .inl (fun _ => 0)))] at hD
  refine lv_istore_n (lv' := [(3, .int r_1), (0, .ref h0), (1, .int v1), (2, .int v2)]) hx hb dX4_meanLower_5 rfl hl (by decide) rfl ?_
  clear hl; intro ls hl
  refine lv_aload_n hx hb dX4_meanLower_6 rfl (lv_at hl 1 rfl) ?_
  refine lv_aload_n hx hb dX4_meanLower_7 rfl (lv_at hl 1 rfl) ?_
  refine va_get (D := (dC, dI)) (ci := 4) (v := .ref a_days) (C := RX4) (T := TX4) (N := 2) hx hb htb iX4 hown hK hP 0 rfl rfl 1 (Nat.le_of_ble_eq_true rfl) (htb _ m_127) (fun _ h9 => h9) rfl dX4_meanLower_8 ?_
  refine lv_iload_n hx hb dX4_meanLower_11 rfl (lv_at hl 0 rfl) ?_
  refine va_iald hx hb hK hP 2 1 rfl rfl h_2 dX4_meanLower_12 ?_
  refine lv_tope (y := 0) rfl ?_
  refine lv_iload_n hx hb dX4_meanLower_13 rfl (lv_at hl 0 rfl) ?_
  have hPc := hP.sub (ws' := [(h0, .inr (4, [.ref a_given, .ref a_days])), (a_given, .inl (k_given, 121, .inl (fun _ => 0))), (a_days, .inl (k_days, 121, .inl (fun _ => 0)))]) [0, 1, 2] rfl
  have hDc := hD.sub (ws' := [(h0, .inr (4, [.ref a_given, .ref a_days])), (a_given, .inl (k_given, 121, .inl (fun _ => 0))), (a_days, .inl (k_days, 121, .inl (fun _ => 0)))]) [0, 1, 2] (by decide) rfl
  have hKc := hK.sub (tys' := [(k_given, .int), (k_days, .int)]) [0, 1] rfl
  have hFc := va_free (wc := [(h0, .inr (4, [.ref a_given, .ref a_days])), (a_given, .inl (k_given, 121, .inl (fun _ => 0))), (a_days, .inl (k_days, 121, .inl (fun _ => 0)))]) hD hS hA [0, 1, 2] rfl
  refine va_calli (va_runV (C := RX4) (As := [.int 0, .int r_1]) (rest := []) ⟨hx, hb, hml, hown, htb⟩ (kX4_inLowestTerms l dC dI H.size h0 a_given a_days k_given k_days 0 r_1 h_2) ⟨callB_of 2 htb (gd_c m_601) rfl rfl rfl (htb _ m_5) (htb _ m_598) hdX4_inLowestTerms ⟨(Nat.le_of_ble_eq_true rfl), (Nat.le_of_ble_eq_true rfl)⟩, htb _ m_600, htb _ ms_6⟩ ⟨pcW_blind, va_recv hKc hPc (ci := 4) (q0 := 0) rfl rfl, pcW_at hPc hKc hDc hN⟩ rfl rfl hl.1 rfl (lv_room (Nat.le_of_ble_eq_true rfl)) dX4_meanLower_14 ⟨(Nat.le_of_ble_eq_true rfl), (Nat.le_of_ble_eq_true rfl)⟩) hS (fun q _ h => hFc q h) hFc (fun r_3 u t H1 locs1 ht hvm h_4 hB hz1 hk1 hS1 => ?_)
  obtain ⟨hPn, hDn⟩ := va_join (wr := []) (w1 := []) hP hD [0, 1, 2] [] rfl rfl (by decide) (by decide) hk1 hFc nilP nilD
  clear hP hD hS hPc hDc hKc hFc hk1 hz1 ht hvm hB
  clear t
  revert hS1 hPn hDn; generalize H1 = H; generalize locs1 = locs; intro hS hP hD
  change va_P (dC, dI) vwCl [] H at hP
  change va_D A [] at hD
  subst h_4
  refine W.widen (k := 0) (n := 0) (Nat.le_of_ble_eq_true rfl) (Nat.le_of_ble_eq_true rfl) ?_
  exact W.iret (v := (-1)) hx hb hr (fun t ht hW => ⟨⟨(-1), (), rfl, (rfl), trivial⟩, hS.F ht⟩) hS.2.2 dX4_meanLower_17

set_option maxHeartbeats 4000000 in
set_option maxRecDepth 100000 in
theorem kX8_init (l : Launch) (dC : Nat → ClassId) (dI : Nat → Nat → Nat) (sz : Nat) (h0 : Nat) : Met l yX8_init (Cond.code yX8_init cX8_init 1 none :: bg) ({ frames := 1, cells := 0, slots := 0, locals := 12 }) (pcW dC dI [.ref h0] sz [(h0, .inr (8, [.int 0, .int 0, .int 0, .int 0]))] []) (va_Qv (fun (u : Unit) => True) (fun (u : Unit) (t : State) => va_P (dC, dI) vwCl [(h0, .inr (8, [.int 0, .int 0, .int 0, .int 0]))] t.heap ∧ va_K (dC, dI) vwCl [] t ∧ va_D (va_A [(h0, .inr (8, [.int 0, .int 0, .int 0, .int 0]))] sz) [(h0, .inr (8, [.int 0, .int 0, .int 0, .int 0]))]) (va_A [(h0, .inr (8, [.int 0, .int 0, .int 0, .int 0]))] sz)) 0 0 (va_A [(h0, .inr (8, [.int 0, .int 0, .int 0, .int 0]))] sz) := by
  refine Met.ofW (cc := cX8_init) (maxL := 1) (ret := none) pnX8 rfl ?_
  intro p e s m args below meth c s₁ B hml hv
  obtain ⟨rfl, hsz, hP, hK, hD0, hN⟩ := hv
  have hx := B.exec
  have hb := B.bytes
  have hr := B.returns
  have htb : ∀ w ∈ bg, w.before [.ref h0].toArray s = true := fun w h => atoms_spec (ws := Cond.code yX8_init cX8_init 1 none :: bg) B.pre w (List.mem_cons_of_mem _ h)
  have hown : s.vm.findClass RX8 = some m.cls := findClass_of_methodNamed B.named
  have hlocks := B.notSynchronized
  have hin : meth.name = "<init>" := (name_of_methodNamed B.named B.method).1
  subst hsz
  have hD := hD0.self (sz := s.heap.size)
  generalize hAe : va_A [(h0, .inr (8, [.int 0, .int 0, .int 0, .int 0]))] s.heap.size = A at hD ⊢
  have hA : ∀ q : Nat, s.heap.size ≤ q → A q := fun q h => by rw [← hAe]; exact Or.inr h
  have hS : va_S A s.heap s.heap [] := va_S.rf
  have hl := lv_entry ([.ref h0]) (n := 1) (Nat.le_of_ble_eq_true rfl)
  rw [lg_entry_eq]
  generalize (lg_sl ([.ref h0]) ++ List.replicate (1 - (lg_sl ([.ref h0])).length) Slot.unset).toArray = ls at hl ⊢
  change lv_has ls 1 [(0, .ref h0)] at hl
  clear hD0 hAe
  refine go0 (wsP := fun H => va_P (dC, dI) vwCl [(h0, .inr (8, [.int 0, .int 0, .int 0, .int 0]))] H) hP hS ?_
  clear hP hS; intro H locs hP hS
  change va_P (dC, dI) vwCl [(h0, .inr (8, [.int 0, .int 0, .int 0, .int 0]))] H at hP
  refine lv_aload_n hx hb dX8_init_0 rfl (lv_at hl 0 rfl) ?_
  refine W.objInit hx hb hown (htb _ m_138) (htb _ m_26) (htb _ m_27) rfl (by rw [hml]; exact hl.1) rfl dX8_init_1 (Nat.le_of_ble_eq_true rfl) (Nat.le_of_ble_eq_true rfl) ?_
  refine W.eq (g2 := F0 m 4 ls []) rfl ?_
  refine W.widen (k := 0) (n := 0) (Nat.le_of_ble_eq_true rfl) (Nat.le_of_ble_eq_true rfl) ?_
  have hP9 := hP.sub (ws' := [(h0, .inr (8, [.int 0, .int 0, .int 0, .int 0]))]) [0] rfl
  have hD9 := hD.sub (ws' := [(h0, .inr (8, [.int 0, .int 0, .int 0, .int 0]))]) [0] (by decide) rfl
  have hK9 := hK.sub (tys' := []) [] rfl
  exact W.vret hx hb hr (fun t ht hW => ⟨⟨(), rfl, trivial, ⟨by rw [ht]; exact hP9, va_K.moved hW.alike hK9, hD9⟩⟩, hS.F ht⟩) hS.2.2 dX8_init_4

set_option maxHeartbeats 4000000 in
set_option maxRecDepth 100000 in
theorem kX8_takeOut (l : Launch) (dC : Nat → ClassId) (dI : Nat → Nat → Nat) (sz : Nat) (h0 : Nat) (v1 : Int32) (hv : 1 ≤ v1 ∧ v1 ≤ 5000) : Met l yX8_takeOut (Cond.code yX8_takeOut cX8_takeOut 2 (some .boolean) :: bg) ({ frames := 0, cells := 0, slots := 0, locals := 0 }) (pcW dC dI [.ref h0, .int v1] sz [(h0, .inr (8, [.int 0, .int 0, .int 0, .int 0]))] []) (va_Qi (fun (r : Int32) (u : Unit) => r = 0) (fun (u : Unit) (t : State) => va_P (dC, dI) vwCl [(h0, .inr (8, [.int 0, .int 0, .int 0, .int 0]))] t.heap ∧ va_K (dC, dI) vwCl [] t ∧ va_D (va_A [(h0, .inr (8, [.int 0, .int 0, .int 0, .int 0]))] sz) [(h0, .inr (8, [.int 0, .int 0, .int 0, .int 0]))]) (va_A [(h0, .inr (8, [.int 0, .int 0, .int 0, .int 0]))] sz)) 0 0 (va_A [(h0, .inr (8, [.int 0, .int 0, .int 0, .int 0]))] sz) := by
  refine Met.ofW (cc := cX8_takeOut) (maxL := 2) (ret := (some .boolean)) pnX8 rfl ?_
  intro p e s m args below meth c s₁ B hml hv
  obtain ⟨rfl, hsz, hP, hK, hD0, hN⟩ := hv
  have hx := B.exec
  have hb := B.bytes
  have hr := B.returns
  have htb : ∀ w ∈ bg, w.before [.ref h0, .int v1].toArray s = true := fun w h => atoms_spec (ws := Cond.code yX8_takeOut cX8_takeOut 2 (some .boolean) :: bg) B.pre w (List.mem_cons_of_mem _ h)
  have hown : s.vm.findClass RX8 = some m.cls := findClass_of_methodNamed B.named
  have hlocks := B.notSynchronized
  subst hsz
  have hD := hD0.self (sz := s.heap.size)
  generalize hAe : va_A [(h0, .inr (8, [.int 0, .int 0, .int 0, .int 0]))] s.heap.size = A at hD ⊢
  have hA : ∀ q : Nat, s.heap.size ≤ q → A q := fun q h => by rw [← hAe]; exact Or.inr h
  have hS : va_S A s.heap s.heap [] := va_S.rf
  have hl := lv_entry ([.ref h0, .int v1]) (n := 2) (Nat.le_of_ble_eq_true rfl)
  rw [lg_entry_eq]
  generalize (lg_sl ([.ref h0, .int v1]) ++ List.replicate (2 - (lg_sl ([.ref h0, .int v1])).length) Slot.unset).toArray = ls at hl ⊢
  change lv_has ls 2 [(0, .ref h0), (1, .int v1)] at hl
  clear hD0 hAe
  refine go0 (wsP := fun H => va_P (dC, dI) vwCl [(h0, .inr (8, [.int 0, .int 0, .int 0, .int 0]))] H) hP hS ?_
  clear hP hS; intro H locs hP hS
  change va_P (dC, dI) vwCl [(h0, .inr (8, [.int 0, .int 0, .int 0, .int 0]))] H at hP
  refine lv_iload_n hx hb dX8_takeOut_0 rfl (lv_at hl 1 rfl) ?_
  refine lv_aload_n hx hb dX8_takeOut_1 rfl (lv_at hl 0 rfl) ?_
  refine va_get (D := (dC, dI)) (ci := 8) (v := .int 0) (C := RX8) (T := TX8) (N := 4) hx hb htb iX8 hown hK hP 0 rfl rfl 0 (Nat.le_of_ble_eq_true rfl) (htb _ m_139) (fun _ h9 => h9) rfl dX8_takeOut_2 ?_
  refine lv_icmp_le (tgt := 10) hx hb dX8_takeOut_5 (by decide) (fun c_1 => absurd c_1 (pos1 hv)) ?_
  intro c_1
  refine lv_iconst (v := 0) hx hb dX8_takeOut_8 (by decide) ?_
  refine W.widen (k := 0) (n := 0) (Nat.le_of_ble_eq_true rfl) (Nat.le_of_ble_eq_true rfl) ?_
  have hP9 := hP.sub (ws' := [(h0, .inr (8, [.int 0, .int 0, .int 0, .int 0]))]) [0] rfl
  have hD9 := hD.sub (ws' := [(h0, .inr (8, [.int 0, .int 0, .int 0, .int 0]))]) [0] (by decide) rfl
  have hK9 := hK.sub (tys' := []) [] rfl
  exact W.zret (ty := .boolean) (v := 0) hx hb hr rfl (fun t ht hW => ⟨⟨0, (), rfl, (rfl), ⟨by rw [ht]; exact hP9, va_K.moved hW.alike hK9, hD9⟩⟩, hS.F ht⟩) hS.2.2 dX8_takeOut_9

set_option maxHeartbeats 4000000 in
set_option maxRecDepth 100000 in
theorem kX8_drain (l : Launch) (dC : Nat → ClassId) (dI : Nat → Nat → Nat) (sz : Nat) (h0 : Nat) : Met l yX8_drain (Cond.code yX8_drain cX8_drain 1 none :: bg) ({ frames := 0, cells := 0, slots := 0, locals := 0 }) (pcW dC dI [.ref h0] sz [(h0, .inr (8, [.int 0, .int 0, .int 0, .int 0]))] []) (va_Qv (fun (u : Unit) => True) (fun (u : Unit) (t : State) => va_P (dC, dI) vwCl [(h0, .inr (8, [.int 0, .int 0, .int 0, .int 0]))] t.heap ∧ va_K (dC, dI) vwCl [] t ∧ va_D (va_A [(h0, .inr (8, [.int 0, .int 0, .int 0, .int 0]))] sz) [(h0, .inr (8, [.int 0, .int 0, .int 0, .int 0]))]) (va_A [(h0, .inr (8, [.int 0, .int 0, .int 0, .int 0]))] sz)) 0 0 (va_A [(h0, .inr (8, [.int 0, .int 0, .int 0, .int 0]))] sz) := by
  refine Met.ofW (cc := cX8_drain) (maxL := 1) (ret := none) pnX8 rfl ?_
  intro p e s m args below meth c s₁ B hml hv
  obtain ⟨rfl, hsz, hP, hK, hD0, hN⟩ := hv
  have hx := B.exec
  have hb := B.bytes
  have hr := B.returns
  have htb : ∀ w ∈ bg, w.before [.ref h0].toArray s = true := fun w h => atoms_spec (ws := Cond.code yX8_drain cX8_drain 1 none :: bg) B.pre w (List.mem_cons_of_mem _ h)
  have hown : s.vm.findClass RX8 = some m.cls := findClass_of_methodNamed B.named
  have hlocks := B.notSynchronized
  subst hsz
  have hD := hD0.self (sz := s.heap.size)
  generalize hAe : va_A [(h0, .inr (8, [.int 0, .int 0, .int 0, .int 0]))] s.heap.size = A at hD ⊢
  have hA : ∀ q : Nat, s.heap.size ≤ q → A q := fun q h => by rw [← hAe]; exact Or.inr h
  have hS : va_S A s.heap s.heap [] := va_S.rf
  have hl := lv_entry ([.ref h0]) (n := 1) (Nat.le_of_ble_eq_true rfl)
  rw [lg_entry_eq]
  generalize (lg_sl ([.ref h0]) ++ List.replicate (1 - (lg_sl ([.ref h0])).length) Slot.unset).toArray = ls at hl ⊢
  change lv_has ls 1 [(0, .ref h0)] at hl
  clear hD0 hAe
  refine go0 (wsP := fun H => va_P (dC, dI) vwCl [(h0, .inr (8, [.int 0, .int 0, .int 0, .int 0]))] H) hP hS ?_
  clear hP hS; intro H locs hP hS
  change va_P (dC, dI) vwCl [(h0, .inr (8, [.int 0, .int 0, .int 0, .int 0]))] H at hP
  refine lv_aload_n hx hb dX8_drain_0 rfl (lv_at hl 0 rfl) ?_
  refine lv_iconst (v := 0) hx hb dX8_drain_1 (by decide) ?_
  refine va_put (D := (dC, dI)) (ci := 8) (v := .int 0) (C := RX8) (T := TX8) (N := 4) hx hb htb iX8 tyX8 tyX8_ok nmX8 hown hK hP hD hS 0 rfl rfl 0 (Nat.le_of_ble_eq_true rfl) (htb _ m_139) (fun _ h9 => h9) rfl (tyX8_ok 0 (Nat.le_of_ble_eq_true rfl)) rfl rfl (Nat.le_of_ble_eq_true rfl) dX8_drain_2 ?_
  clear hP hD hS; intro H locs hP hD hS
  change va_P (dC, dI) vwCl [(h0, .inr (8, [.int 0, .int 0, .int 0, .int 0]))] H at hP
  change va_D A [(h0, .inr (8, [.int 0, .int 0, .int 0, .int 0]))] at hD
  refine W.widen (k := 0) (n := 0) (Nat.le_of_ble_eq_true rfl) (Nat.le_of_ble_eq_true rfl) ?_
  have hP9 := hP.sub (ws' := [(h0, .inr (8, [.int 0, .int 0, .int 0, .int 0]))]) [0] rfl
  have hD9 := hD.sub (ws' := [(h0, .inr (8, [.int 0, .int 0, .int 0, .int 0]))]) [0] (by decide) rfl
  have hK9 := hK.sub (tys' := []) [] rfl
  exact W.vret hx hb hr (fun t ht hW => ⟨⟨(), rfl, trivial, ⟨by rw [ht]; exact hP9, va_K.moved hW.alike hK9, hD9⟩⟩, hS.F ht⟩) hS.2.2 dX8_drain_5

set_option maxHeartbeats 4000000 in
set_option maxRecDepth 100000 in
theorem kX3_init (l : Launch) (dC : Nat → ClassId) (dI : Nat → Nat → Nat) (sz : Nat) (h0 : Nat) : Met l yX3_init (Cond.code yX3_init cX3_init 1 none :: bg) ({ frames := 1, cells := 0, slots := 0, locals := 12 }) (pcW dC dI [.ref h0] sz [(h0, .inr (3, [.long 0, .int 0, .int 0, .int 0, .int 0]))] []) (va_Qv (fun (u : Unit) => True) (fun (u : Unit) (t : State) => va_P (dC, dI) vwCl [(h0, .inr (3, [.long 0, .int 0, .int 0, .int 0, .int 0]))] t.heap ∧ va_K (dC, dI) vwCl [] t ∧ va_D (va_A [(h0, .inr (3, [.long 0, .int 0, .int 0, .int 0, .int 0]))] sz) [(h0, .inr (3, [.long 0, .int 0, .int 0, .int 0, .int 0]))]) (va_A [(h0, .inr (3, [.long 0, .int 0, .int 0, .int 0, .int 0]))] sz)) 0 0 (va_A [(h0, .inr (3, [.long 0, .int 0, .int 0, .int 0, .int 0]))] sz) := by
  refine Met.ofW (cc := cX3_init) (maxL := 1) (ret := none) pnX3 rfl ?_
  intro p e s m args below meth c s₁ B hml hv
  obtain ⟨rfl, hsz, hP, hK, hD0, hN⟩ := hv
  have hx := B.exec
  have hb := B.bytes
  have hr := B.returns
  have htb : ∀ w ∈ bg, w.before [.ref h0].toArray s = true := fun w h => atoms_spec (ws := Cond.code yX3_init cX3_init 1 none :: bg) B.pre w (List.mem_cons_of_mem _ h)
  have hown : s.vm.findClass RX3 = some m.cls := findClass_of_methodNamed B.named
  have hlocks := B.notSynchronized
  have hin : meth.name = "<init>" := (name_of_methodNamed B.named B.method).1
  subst hsz
  have hD := hD0.self (sz := s.heap.size)
  generalize hAe : va_A [(h0, .inr (3, [.long 0, .int 0, .int 0, .int 0, .int 0]))] s.heap.size = A at hD ⊢
  have hA : ∀ q : Nat, s.heap.size ≤ q → A q := fun q h => by rw [← hAe]; exact Or.inr h
  have hS : va_S A s.heap s.heap [] := va_S.rf
  have hl := lv_entry ([.ref h0]) (n := 1) (Nat.le_of_ble_eq_true rfl)
  rw [lg_entry_eq]
  generalize (lg_sl ([.ref h0]) ++ List.replicate (1 - (lg_sl ([.ref h0])).length) Slot.unset).toArray = ls at hl ⊢
  change lv_has ls 1 [(0, .ref h0)] at hl
  clear hD0 hAe
  refine go0 (wsP := fun H => va_P (dC, dI) vwCl [(h0, .inr (3, [.long 0, .int 0, .int 0, .int 0, .int 0]))] H) hP hS ?_
  clear hP hS; intro H locs hP hS
  change va_P (dC, dI) vwCl [(h0, .inr (3, [.long 0, .int 0, .int 0, .int 0, .int 0]))] H at hP
  refine lv_aload_n hx hb dX3_init_0 rfl (lv_at hl 0 rfl) ?_
  refine W.objInit hx hb hown (htb _ m_161) (htb _ m_26) (htb _ m_27) rfl (by rw [hml]; exact hl.1) rfl dX3_init_1 (Nat.le_of_ble_eq_true rfl) (Nat.le_of_ble_eq_true rfl) ?_
  refine W.eq (g2 := F0 m 4 ls []) rfl ?_
  refine W.widen (k := 0) (n := 0) (Nat.le_of_ble_eq_true rfl) (Nat.le_of_ble_eq_true rfl) ?_
  have hP9 := hP.sub (ws' := [(h0, .inr (3, [.long 0, .int 0, .int 0, .int 0, .int 0]))]) [0] rfl
  have hD9 := hD.sub (ws' := [(h0, .inr (3, [.long 0, .int 0, .int 0, .int 0, .int 0]))]) [0] (by decide) rfl
  have hK9 := hK.sub (tys' := []) [] rfl
  exact W.vret hx hb hr (fun t ht hW => ⟨⟨(), rfl, trivial, ⟨by rw [ht]; exact hP9, va_K.moved hW.alike hK9, hD9⟩⟩, hS.F ht⟩) hS.2.2 dX3_init_4

set_option maxHeartbeats 4000000 in
set_option maxRecDepth 100000 in
theorem kX3_empty (l : Launch) (dC : Nat → ClassId) (dI : Nat → Nat → Nat) (sz : Nat) (h0 : Nat) : Met l yX3_empty (Cond.code yX3_empty cX3_empty 1 none :: bg) ({ frames := 0, cells := 0, slots := 0, locals := 0 }) (pcW dC dI [.ref h0] sz [(h0, .inr (3, [.long 0, .int 0, .int 0, .int 0, .int 0]))] []) (va_Qv (fun (u : Unit) => True) (fun (u : Unit) (t : State) => va_P (dC, dI) vwCl [(h0, .inr (3, [.long 0, .int 0, .int 0, .int 0, .int 0]))] t.heap ∧ va_K (dC, dI) vwCl [] t ∧ va_D (va_A [(h0, .inr (3, [.long 0, .int 0, .int 0, .int 0, .int 0]))] sz) [(h0, .inr (3, [.long 0, .int 0, .int 0, .int 0, .int 0]))]) (va_A [(h0, .inr (3, [.long 0, .int 0, .int 0, .int 0, .int 0]))] sz)) 0 0 (va_A [(h0, .inr (3, [.long 0, .int 0, .int 0, .int 0, .int 0]))] sz) := by
  refine Met.ofW (cc := cX3_empty) (maxL := 1) (ret := none) pnX3 rfl ?_
  intro p e s m args below meth c s₁ B hml hv
  obtain ⟨rfl, hsz, hP, hK, hD0, hN⟩ := hv
  have hx := B.exec
  have hb := B.bytes
  have hr := B.returns
  have htb : ∀ w ∈ bg, w.before [.ref h0].toArray s = true := fun w h => atoms_spec (ws := Cond.code yX3_empty cX3_empty 1 none :: bg) B.pre w (List.mem_cons_of_mem _ h)
  have hown : s.vm.findClass RX3 = some m.cls := findClass_of_methodNamed B.named
  have hlocks := B.notSynchronized
  subst hsz
  have hD := hD0.self (sz := s.heap.size)
  generalize hAe : va_A [(h0, .inr (3, [.long 0, .int 0, .int 0, .int 0, .int 0]))] s.heap.size = A at hD ⊢
  have hA : ∀ q : Nat, s.heap.size ≤ q → A q := fun q h => by rw [← hAe]; exact Or.inr h
  have hS : va_S A s.heap s.heap [] := va_S.rf
  have hl := lv_entry ([.ref h0]) (n := 1) (Nat.le_of_ble_eq_true rfl)
  rw [lg_entry_eq]
  generalize (lg_sl ([.ref h0]) ++ List.replicate (1 - (lg_sl ([.ref h0])).length) Slot.unset).toArray = ls at hl ⊢
  change lv_has ls 1 [(0, .ref h0)] at hl
  clear hD0 hAe
  refine go0 (wsP := fun H => va_P (dC, dI) vwCl [(h0, .inr (3, [.long 0, .int 0, .int 0, .int 0, .int 0]))] H) hP hS ?_
  clear hP hS; intro H locs hP hS
  change va_P (dC, dI) vwCl [(h0, .inr (3, [.long 0, .int 0, .int 0, .int 0, .int 0]))] H at hP
  refine lv_aload_n hx hb dX3_empty_0 rfl (lv_at hl 0 rfl) ?_
  refine lv_iconst (v := 0) hx hb dX3_empty_1 (by decide) ?_
  refine va_put (D := (dC, dI)) (ci := 3) (v := .int 0) (C := RX3) (T := TX3) (N := 5) hx hb htb iX3 tyX3 tyX3_ok nmX3 hown hK hP hD hS 0 rfl rfl 1 (Nat.le_of_ble_eq_true rfl) (htb _ m_163) (fun _ h9 => h9) rfl (tyX3_ok 1 (Nat.le_of_ble_eq_true rfl)) rfl rfl (Nat.le_of_ble_eq_true rfl) dX3_empty_2 ?_
  clear hP hD hS; intro H locs hP hD hS
  change va_P (dC, dI) vwCl [(h0, .inr (3, [.long 0, .int 0, .int 0, .int 0, .int 0]))] H at hP
  change va_D A [(h0, .inr (3, [.long 0, .int 0, .int 0, .int 0, .int 0]))] at hD
  refine lv_aload_n hx hb dX3_empty_5 rfl (lv_at hl 0 rfl) ?_
  refine lv_lconst (v := 0) hx hb dX3_empty_6 (by decide) ?_
  refine va_put (D := (dC, dI)) (ci := 3) (v := .long 0) (C := RX3) (T := TX3) (N := 5) hx hb htb iX3 tyX3 tyX3_ok nmX3 hown hK hP hD hS 0 rfl rfl 0 (Nat.le_of_ble_eq_true rfl) (htb _ m_162) (fun _ h9 => h9) rfl (tyX3_ok 0 (Nat.le_of_ble_eq_true rfl)) rfl rfl (Nat.le_of_ble_eq_true rfl) dX3_empty_7 ?_
  clear hP hD hS; intro H locs hP hD hS
  change va_P (dC, dI) vwCl [(h0, .inr (3, [.long 0, .int 0, .int 0, .int 0, .int 0]))] H at hP
  change va_D A [(h0, .inr (3, [.long 0, .int 0, .int 0, .int 0, .int 0]))] at hD
  refine lv_aload_n hx hb dX3_empty_10 rfl (lv_at hl 0 rfl) ?_
  refine lv_iconst (v := 0) hx hb dX3_empty_11 (by decide) ?_
  refine va_put (D := (dC, dI)) (ci := 3) (v := .int 0) (C := RX3) (T := TX3) (N := 5) hx hb htb iX3 tyX3 tyX3_ok nmX3 hown hK hP hD hS 0 rfl rfl 3 (Nat.le_of_ble_eq_true rfl) (htb _ m_167) (fun _ h9 => h9) rfl (tyX3_ok 3 (Nat.le_of_ble_eq_true rfl)) rfl rfl (Nat.le_of_ble_eq_true rfl) dX3_empty_12 ?_
  clear hP hD hS; intro H locs hP hD hS
  change va_P (dC, dI) vwCl [(h0, .inr (3, [.long 0, .int 0, .int 0, .int 0, .int 0]))] H at hP
  change va_D A [(h0, .inr (3, [.long 0, .int 0, .int 0, .int 0, .int 0]))] at hD
  refine W.widen (k := 0) (n := 0) (Nat.le_of_ble_eq_true rfl) (Nat.le_of_ble_eq_true rfl) ?_
  have hP9 := hP.sub (ws' := [(h0, .inr (3, [.long 0, .int 0, .int 0, .int 0, .int 0]))]) [0] rfl
  have hD9 := hD.sub (ws' := [(h0, .inr (3, [.long 0, .int 0, .int 0, .int 0, .int 0]))]) [0] (by decide) rfl
  have hK9 := hK.sub (tys' := []) [] rfl
  exact W.vret hx hb hr (fun t ht hW => ⟨⟨(), rfl, trivial, ⟨by rw [ht]; exact hP9, va_K.moved hW.alike hK9, hD9⟩⟩, hS.F ht⟩) hS.2.2 dX3_empty_15

theorem lf_X3_stack_0 (v1 : Int32) (x_1 : Int32) (x_4 : Int32) (hv : 0 ≤ v1 ∧ v1 ≤ 10000) (ex_2 : x_1 = 1000000 - v1) (c_3 : 0 ≤ x_1) (ex_5 : x_4 = 0 + v1) : x_4 = v1 := by
  first | (simp_all; done) | grind | exact False.elim (stack_no ‹_› ‹_› ‹_›)
theorem lf_X3_stack_1 (v1 : Int32) (x_1 : Int32) (hv : 0 ≤ v1 ∧ v1 ≤ 10000) (ex_2 : x_1 = 1000000 - v1) (c_3 : ¬ 0 ≤ x_1) : (-1) = v1 := by
  first | (simp_all; done) | grind | exact False.elim (stack_no ‹_› ‹_› ‹_›)
set_option maxHeartbeats 4000000 in
set_option maxRecDepth 100000 in
theorem kX3_stack (l : Launch) (dC : Nat → ClassId) (dI : Nat → Nat → Nat) (sz : Nat) (h0 : Nat) (v1 : Int32) (hv : 0 ≤ v1 ∧ v1 ≤ 10000) : Met l yX3_stack (Cond.code yX3_stack cX3_stack 2 (some .int) :: bg) ({ frames := 0, cells := 0, slots := 0, locals := 0 }) (pcW dC dI [.ref h0, .int v1] sz [(h0, .inr (3, [.long 0, .int 0, .int 0, .int 0, .int 0]))] []) (va_Qi (fun (r : Int32) (u : Unit) => r = v1) (fun (u : Unit) (t : State) => True) (va_A [(h0, .inr (3, [.long 0, .int 0, .int 0, .int 0, .int 0]))] sz)) 0 0 (va_A [(h0, .inr (3, [.long 0, .int 0, .int 0, .int 0, .int 0]))] sz) := by
  refine Met.ofW (cc := cX3_stack) (maxL := 2) (ret := (some .int)) pnX3 rfl ?_
  intro p e s m args below meth c s₁ B hml hv
  obtain ⟨rfl, hsz, hP, hK, hD0, hN⟩ := hv
  have hx := B.exec
  have hb := B.bytes
  have hr := B.returns
  have htb : ∀ w ∈ bg, w.before [.ref h0, .int v1].toArray s = true := fun w h => atoms_spec (ws := Cond.code yX3_stack cX3_stack 2 (some .int) :: bg) B.pre w (List.mem_cons_of_mem _ h)
  have hown : s.vm.findClass RX3 = some m.cls := findClass_of_methodNamed B.named
  have hlocks := B.notSynchronized
  subst hsz
  have hD := hD0.self (sz := s.heap.size)
  generalize hAe : va_A [(h0, .inr (3, [.long 0, .int 0, .int 0, .int 0, .int 0]))] s.heap.size = A at hD ⊢
  have hA : ∀ q : Nat, s.heap.size ≤ q → A q := fun q h => by rw [← hAe]; exact Or.inr h
  have hS : va_S A s.heap s.heap [] := va_S.rf
  have hl := lv_entry ([.ref h0, .int v1]) (n := 2) (Nat.le_of_ble_eq_true rfl)
  rw [lg_entry_eq]
  generalize (lg_sl ([.ref h0, .int v1]) ++ List.replicate (2 - (lg_sl ([.ref h0, .int v1])).length) Slot.unset).toArray = ls at hl ⊢
  change lv_has ls 2 [(0, .ref h0), (1, .int v1)] at hl
  clear hD0 hAe
  refine go0 (wsP := fun H => va_P (dC, dI) vwCl [(h0, .inr (3, [.long 0, .int 0, .int 0, .int 0, .int 0]))] H) hP hS ?_
  clear hP hS; intro H locs hP hS
  change va_P (dC, dI) vwCl [(h0, .inr (3, [.long 0, .int 0, .int 0, .int 0, .int 0]))] H at hP
  refine lv_aload_n hx hb dX3_stack_0 rfl (lv_at hl 0 rfl) ?_
  refine va_get (D := (dC, dI)) (ci := 3) (v := .int 0) (C := RX3) (T := TX3) (N := 5) hx hb htb iX3 hown hK hP 0 rfl rfl 4 (Nat.le_of_ble_eq_true rfl) (htb _ m_169) (fun _ h9 => h9) rfl dX3_stack_1 ?_
  refine lv_ldc hx hb hown (htb _ m_634) dX3_stack_4 ?_
  refine lv_iload_n hx hb dX3_stack_6 rfl (lv_at hl 1 rfl) ?_
  refine lv_isub hx hb dX3_stack_7 ?_
  refine lv_topi (fun x_1 ex_2 => ?_)
  refine lv_icmp_le (tgt := 13) hx hb dX3_stack_8 (by decide) (fun c_3 => ?_) (fun c_3 => ?_)
  · refine lv_aload_n hx hb dX3_stack_13 rfl (lv_at hl 0 rfl) ?_
    refine lv_dup hx hb dX3_stack_14 rfl ?_
    refine va_get (D := (dC, dI)) (ci := 3) (v := .int 0) (C := RX3) (T := TX3) (N := 5) hx hb htb iX3 hown hK hP 0 rfl rfl 4 (Nat.le_of_ble_eq_true rfl) (htb _ m_169) (fun _ h9 => h9) rfl dX3_stack_15 ?_
    refine lv_iload_n hx hb dX3_stack_18 rfl (lv_at hl 1 rfl) ?_
    refine lv_iadd hx hb dX3_stack_19 ?_
    refine lv_topi (fun x_4 ex_5 => ?_)
    refine va_put (D := (dC, dI)) (ci := 3) (v := .int x_4) (C := RX3) (T := TX3) (N := 5) hx hb htb iX3 tyX3 tyX3_ok nmX3 hown hK hP hD hS 0 rfl rfl 4 (Nat.le_of_ble_eq_true rfl) (htb _ m_169) (fun _ h9 => h9) rfl (tyX3_ok 4 (Nat.le_of_ble_eq_true rfl)) rfl rfl (Nat.le_of_ble_eq_true rfl) dX3_stack_20 ?_
    clear hP hD hS; intro H locs hP hD hS
    change va_P (dC, dI) vwCl [(h0, .inr (3, [.long 0, .int 0, .int 0, .int 0, .int x_4]))] H at hP
    change va_D A [(h0, .inr (3, [.long 0, .int 0, .int 0, .int 0, .int x_4]))] at hD
    refine lv_aload_n hx hb dX3_stack_23 rfl (lv_at hl 0 rfl) ?_
    refine va_get (D := (dC, dI)) (ci := 3) (v := .int x_4) (C := RX3) (T := TX3) (N := 5) hx hb htb iX3 hown hK hP 0 rfl rfl 4 (Nat.le_of_ble_eq_true rfl) (htb _ m_169) (fun _ h9 => h9) rfl dX3_stack_24 ?_
    refine W.widen (k := 0) (n := 0) (Nat.le_of_ble_eq_true rfl) (Nat.le_of_ble_eq_true rfl) ?_
    exact W.iret (v := x_4) hx hb hr (fun t ht hW => ⟨⟨x_4, (), rfl, (lf_X3_stack_0 v1 x_1 x_4 hv ex_2 c_3 ex_5), trivial⟩, hS.F ht⟩) hS.2.2 dX3_stack_27
  · refine lv_iconst (v := (-1)) hx hb dX3_stack_11 (by decide) ?_
    refine W.widen (k := 0) (n := 0) (Nat.le_of_ble_eq_true rfl) (Nat.le_of_ble_eq_true rfl) ?_
    exact W.iret (v := (-1)) hx hb hr (fun t ht hW => ⟨⟨(-1), (), rfl, (lf_X3_stack_1 v1 x_1 hv ex_2 c_3), trivial⟩, hS.F ht⟩) hS.2.2 dX3_stack_12

set_option maxHeartbeats 4000000 in
set_option maxRecDepth 100000 in
theorem kX3_strength (l : Launch) (dC : Nat → ClassId) (dI : Nat → Nat → Nat) (sz : Nat) (h0 : Nat) : Met l yX3_strength (Cond.code yX3_strength cX3_strength 1 (some .int) :: bg) ({ frames := 0, cells := 0, slots := 0, locals := 0 }) (pcW dC dI [.ref h0] sz [(h0, .inr (3, [.long 0, .int 0, .int 0, .int 0, .int 0]))] []) (va_Qi (fun (r : Int32) (u : Unit) => r = 0) (fun (u : Unit) (t : State) => va_P (dC, dI) vwCl [(h0, .inr (3, [.long 0, .int 0, .int 0, .int 0, .int 0]))] t.heap ∧ va_K (dC, dI) vwCl [] t ∧ va_D (va_A [(h0, .inr (3, [.long 0, .int 0, .int 0, .int 0, .int 0]))] sz) [(h0, .inr (3, [.long 0, .int 0, .int 0, .int 0, .int 0]))]) (va_A [(h0, .inr (3, [.long 0, .int 0, .int 0, .int 0, .int 0]))] sz)) 0 0 (va_A [(h0, .inr (3, [.long 0, .int 0, .int 0, .int 0, .int 0]))] sz) := by
  refine Met.ofW (cc := cX3_strength) (maxL := 1) (ret := (some .int)) pnX3 rfl ?_
  intro p e s m args below meth c s₁ B hml hv
  obtain ⟨rfl, hsz, hP, hK, hD0, hN⟩ := hv
  have hx := B.exec
  have hb := B.bytes
  have hr := B.returns
  have htb : ∀ w ∈ bg, w.before [.ref h0].toArray s = true := fun w h => atoms_spec (ws := Cond.code yX3_strength cX3_strength 1 (some .int) :: bg) B.pre w (List.mem_cons_of_mem _ h)
  have hown : s.vm.findClass RX3 = some m.cls := findClass_of_methodNamed B.named
  have hlocks := B.notSynchronized
  subst hsz
  have hD := hD0.self (sz := s.heap.size)
  generalize hAe : va_A [(h0, .inr (3, [.long 0, .int 0, .int 0, .int 0, .int 0]))] s.heap.size = A at hD ⊢
  have hA : ∀ q : Nat, s.heap.size ≤ q → A q := fun q h => by rw [← hAe]; exact Or.inr h
  have hS : va_S A s.heap s.heap [] := va_S.rf
  have hl := lv_entry ([.ref h0]) (n := 1) (Nat.le_of_ble_eq_true rfl)
  rw [lg_entry_eq]
  generalize (lg_sl ([.ref h0]) ++ List.replicate (1 - (lg_sl ([.ref h0])).length) Slot.unset).toArray = ls at hl ⊢
  change lv_has ls 1 [(0, .ref h0)] at hl
  clear hD0 hAe
  refine go0 (wsP := fun H => va_P (dC, dI) vwCl [(h0, .inr (3, [.long 0, .int 0, .int 0, .int 0, .int 0]))] H) hP hS ?_
  clear hP hS; intro H locs hP hS
  change va_P (dC, dI) vwCl [(h0, .inr (3, [.long 0, .int 0, .int 0, .int 0, .int 0]))] H at hP
  refine lv_aload_n hx hb dX3_strength_0 rfl (lv_at hl 0 rfl) ?_
  refine va_get (D := (dC, dI)) (ci := 3) (v := .int 0) (C := RX3) (T := TX3) (N := 5) hx hb htb iX3 hown hK hP 0 rfl rfl 1 (Nat.le_of_ble_eq_true rfl) (htb _ m_163) (fun _ h9 => h9) rfl dX3_strength_1 ?_
  refine lv_iconst (v := 1) hx hb dX3_strength_4 (by decide) ?_
  refine lv_icmp_ge (tgt := 12) hx hb dX3_strength_5 (by decide) (fun c_1 => absurd c_1 (by decide)) ?_
  intro _
  refine lv_iconst (v := 0) hx hb dX3_strength_8 (by decide) ?_
  refine lv_goto (tgt := 27) hx hb dX3_strength_9 (by decide) ?_
  refine W.widen (k := 0) (n := 0) (Nat.le_of_ble_eq_true rfl) (Nat.le_of_ble_eq_true rfl) ?_
  have hP9 := hP.sub (ws' := [(h0, .inr (3, [.long 0, .int 0, .int 0, .int 0, .int 0]))]) [0] rfl
  have hD9 := hD.sub (ws' := [(h0, .inr (3, [.long 0, .int 0, .int 0, .int 0, .int 0]))]) [0] (by decide) rfl
  have hK9 := hK.sub (tys' := []) [] rfl
  exact W.iret (v := 0) hx hb hr (fun t ht hW => ⟨⟨0, (), rfl, (rfl), ⟨by rw [ht]; exact hP9, va_K.moved hW.alike hK9, hD9⟩⟩, hS.F ht⟩) hS.2.2 dX3_strength_27

set_option maxHeartbeats 4000000 in
set_option maxRecDepth 100000 in
theorem kX3_isBurnt (l : Launch) (dC : Nat → ClassId) (dI : Nat → Nat → Nat) (sz : Nat) (h0 : Nat) : Met l yX3_isBurnt (Cond.code yX3_isBurnt cX3_isBurnt 1 (some .boolean) :: bg) ({ frames := 1, cells := 0, slots := 0, locals := 20 }) (pcW dC dI [.ref h0] sz [(h0, .inr (3, [.long 0, .int 0, .int 0, .int 0, .int 0]))] []) (va_Qi (fun (r : Int32) (u : Unit) => r = 0) (fun (u : Unit) (t : State) => va_P (dC, dI) vwCl [(h0, .inr (3, [.long 0, .int 0, .int 0, .int 0, .int 0]))] t.heap ∧ va_K (dC, dI) vwCl [] t ∧ va_D (va_A [(h0, .inr (3, [.long 0, .int 0, .int 0, .int 0, .int 0]))] sz) [(h0, .inr (3, [.long 0, .int 0, .int 0, .int 0, .int 0]))]) (va_A [(h0, .inr (3, [.long 0, .int 0, .int 0, .int 0, .int 0]))] sz)) 0 0 (va_A [(h0, .inr (3, [.long 0, .int 0, .int 0, .int 0, .int 0]))] sz) := by
  refine Met.ofW (cc := cX3_isBurnt) (maxL := 1) (ret := (some .boolean)) pnX3 rfl ?_
  intro p e s m args below meth c s₁ B hml hv
  obtain ⟨rfl, hsz, hP, hK, hD0, hN⟩ := hv
  have hx := B.exec
  have hb := B.bytes
  have hr := B.returns
  have htb : ∀ w ∈ bg, w.before [.ref h0].toArray s = true := fun w h => atoms_spec (ws := Cond.code yX3_isBurnt cX3_isBurnt 1 (some .boolean) :: bg) B.pre w (List.mem_cons_of_mem _ h)
  have hown : s.vm.findClass RX3 = some m.cls := findClass_of_methodNamed B.named
  have hlocks := B.notSynchronized
  subst hsz
  have hD := hD0.self (sz := s.heap.size)
  generalize hAe : va_A [(h0, .inr (3, [.long 0, .int 0, .int 0, .int 0, .int 0]))] s.heap.size = A at hD ⊢
  have hA : ∀ q : Nat, s.heap.size ≤ q → A q := fun q h => by rw [← hAe]; exact Or.inr h
  have hS : va_S A s.heap s.heap [] := va_S.rf
  have hl := lv_entry ([.ref h0]) (n := 1) (Nat.le_of_ble_eq_true rfl)
  rw [lg_entry_eq]
  generalize (lg_sl ([.ref h0]) ++ List.replicate (1 - (lg_sl ([.ref h0])).length) Slot.unset).toArray = ls at hl ⊢
  change lv_has ls 1 [(0, .ref h0)] at hl
  clear hD0 hAe
  refine go0 (wsP := fun H => va_P (dC, dI) vwCl [(h0, .inr (3, [.long 0, .int 0, .int 0, .int 0, .int 0]))] H) hP hS ?_
  clear hP hS; intro H locs hP hS
  change va_P (dC, dI) vwCl [(h0, .inr (3, [.long 0, .int 0, .int 0, .int 0, .int 0]))] H at hP
  refine lv_aload_n hx hb dX3_isBurnt_0 rfl (lv_at hl 0 rfl) ?_
  have hPc := hP.sub (ws' := [(h0, .inr (3, [.long 0, .int 0, .int 0, .int 0, .int 0]))]) [0] rfl
  have hDc := hD.sub (ws' := [(h0, .inr (3, [.long 0, .int 0, .int 0, .int 0, .int 0]))]) [0] (by decide) rfl
  have hKc := hK.sub (tys' := []) [] rfl
  have hFc := va_free (wc := [(h0, .inr (3, [.long 0, .int 0, .int 0, .int 0, .int 0]))]) hD hS hA [0] rfl
  refine va_calli (va_runV (C := RX3) (As := []) (rest := []) ⟨hx, hb, hml, hown, htb⟩ (kX3_strength l dC dI H.size h0 ) ⟨callB_of 0 htb (gd_c m_650) rfl rfl rfl (htb _ m_7) (htb _ m_679) hdX3_strength ⟨(Nat.le_of_ble_eq_true rfl), (Nat.le_of_ble_eq_true rfl)⟩, htb _ m_648, htb _ m_649⟩ ⟨pcW_blind, va_recv hKc hPc (ci := 3) (q0 := 0) rfl rfl, pcW_at hPc hKc hDc hN⟩ rfl rfl hl.1 rfl (lv_room (Nat.le_of_ble_eq_true rfl)) dX3_isBurnt_1 ⟨(Nat.le_of_ble_eq_true rfl), (Nat.le_of_ble_eq_true rfl)⟩) hS (fun q _ h => hFc q h) hFc (fun r_1 u t H1 locs1 ht hvm h_2 hB hz1 hk1 hS1 => ?_)
  obtain ⟨hP1, hK1, hD1⟩ := hB
  rw [ht] at hP1
  obtain ⟨hPn, hDn⟩ := va_join (wr := []) (w1 := [(h0, .inr (3, [.long 0, .int 0, .int 0, .int 0, .int 0]))]) hP hD [0] [] rfl rfl (by decide) (by decide) hk1 hFc hP1 hD1
  clear hP1 hD1 hK1
  clear hP hD hS hPc hDc hKc hFc hk1 hz1 ht hvm
  clear t
  revert hS1 hPn hDn; generalize H1 = H; generalize locs1 = locs; intro hS hP hD
  change va_P (dC, dI) vwCl [(h0, .inr (3, [.long 0, .int 0, .int 0, .int 0, .int 0]))] H at hP
  change va_D A [(h0, .inr (3, [.long 0, .int 0, .int 0, .int 0, .int 0]))] at hD
  subst h_2
  refine lv_sipush (v := 900) hx hb dX3_isBurnt_4 (by decide) ?_
  refine lv_icmp_lt (tgt := 14) hx hb dX3_isBurnt_7 (by decide) ?_ (fun c_3 => absurd (by decide) c_3)
  intro _
  refine lv_iconst (v := 0) hx hb dX3_isBurnt_14 (by decide) ?_
  refine W.widen (k := 0) (n := 0) (Nat.le_of_ble_eq_true rfl) (Nat.le_of_ble_eq_true rfl) ?_
  have hP9 := hP.sub (ws' := [(h0, .inr (3, [.long 0, .int 0, .int 0, .int 0, .int 0]))]) [0] rfl
  have hD9 := hD.sub (ws' := [(h0, .inr (3, [.long 0, .int 0, .int 0, .int 0, .int 0]))]) [0] (by decide) rfl
  have hK9 := hK.sub (tys' := []) [] rfl
  exact W.zret (ty := .boolean) (v := 0) hx hb hr rfl (fun t ht hW => ⟨⟨0, (), rfl, (rfl), ⟨by rw [ht]; exact hP9, va_K.moved hW.alike hK9, hD9⟩⟩, hS.F ht⟩) hS.2.2 dX3_isBurnt_15

theorem lf_X3_tell_0 (v1 : Int32) (e_1 : v1 = 0) : 0 = sp_pan v1 := by
  first | (simp_all [sp_pan]; done) | grind [sp_pan]
theorem lf_X3_tell_1 (v1 : Int32) (e_1 : ¬ v1 = 0) (e_2 : v1 = 1) : 0 = sp_pan v1 := by
  first | (simp_all [sp_pan]; done) | grind [sp_pan]
theorem lf_X3_tell_2 (v1 : Int32) (e_1 : ¬ v1 = 0) (e_2 : ¬ v1 = 1) (e_5 : v1 = 2) : 0 = sp_pan v1 := by
  first | (simp_all [sp_pan]; done) | grind [sp_pan]
theorem lf_X3_tell_3 (v1 : Int32) (e_1 : ¬ v1 = 0) (e_2 : ¬ v1 = 1) (e_5 : ¬ v1 = 2) (e_6 : v1 = 3) : 0 = sp_pan v1 := by
  first | (simp_all [sp_pan]; done) | grind [sp_pan]
theorem lf_X3_tell_4 (v1 : Int32) (e_1 : ¬ v1 = 0) (e_2 : ¬ v1 = 1) (e_5 : ¬ v1 = 2) (e_6 : ¬ v1 = 3) (e_7 : v1 = 4) : 0 = sp_pan v1 := by
  first | (simp_all [sp_pan]; done) | grind [sp_pan]
theorem lf_X3_tell_5 (v1 : Int32) (e_1 : ¬ v1 = 0) (e_2 : ¬ v1 = 1) (e_5 : ¬ v1 = 2) (e_6 : ¬ v1 = 3) (e_7 : ¬ v1 = 4) (e_11 : v1 = 5) : 0 = sp_pan v1 := by
  first | (simp_all [sp_pan]; done) | grind [sp_pan]
theorem lf_X3_tell_6 (v1 : Int32) (e_1 : ¬ v1 = 0) (e_2 : ¬ v1 = 1) (e_5 : ¬ v1 = 2) (e_6 : ¬ v1 = 3) (e_7 : ¬ v1 = 4) (e_11 : ¬ v1 = 5) : (-1) = sp_pan v1 := by
  first | (simp_all [sp_pan]; done) | grind [sp_pan]
set_option maxHeartbeats 4000000 in
set_option maxRecDepth 100000 in
theorem kX3_tell (l : Launch) (dC : Nat → ClassId) (dI : Nat → Nat → Nat) (sz : Nat) (h0 : Nat) (v1 : Int32) : Met l yX3_tell (Cond.code yX3_tell cX3_tell 2 (some .int) :: bg) ({ frames := 2, cells := 0, slots := 0, locals := 40 }) (pcW dC dI [.ref h0, .int v1] sz [(h0, .inr (3, [.long 0, .int 0, .int 0, .int 0, .int 0]))] []) (va_Qi (fun (r : Int32) (u : Unit) => r = sp_pan v1) (fun (u : Unit) (t : State) => va_P (dC, dI) vwCl [(h0, .inr (3, [.long 0, .int 0, .int 0, .int 0, .int 0]))] t.heap ∧ va_K (dC, dI) vwCl [] t ∧ va_D (va_A [(h0, .inr (3, [.long 0, .int 0, .int 0, .int 0, .int 0]))] sz) [(h0, .inr (3, [.long 0, .int 0, .int 0, .int 0, .int 0]))]) (va_A [(h0, .inr (3, [.long 0, .int 0, .int 0, .int 0, .int 0]))] sz)) 0 0 (va_A [(h0, .inr (3, [.long 0, .int 0, .int 0, .int 0, .int 0]))] sz) := by
  refine Met.ofW (cc := cX3_tell) (maxL := 2) (ret := (some .int)) pnX3 rfl ?_
  intro p e s m args below meth c s₁ B hml hv
  obtain ⟨rfl, hsz, hP, hK, hD0, hN⟩ := hv
  have hx := B.exec
  have hb := B.bytes
  have hr := B.returns
  have htb : ∀ w ∈ bg, w.before [.ref h0, .int v1].toArray s = true := fun w h => atoms_spec (ws := Cond.code yX3_tell cX3_tell 2 (some .int) :: bg) B.pre w (List.mem_cons_of_mem _ h)
  have hown : s.vm.findClass RX3 = some m.cls := findClass_of_methodNamed B.named
  have hlocks := B.notSynchronized
  subst hsz
  have hD := hD0.self (sz := s.heap.size)
  generalize hAe : va_A [(h0, .inr (3, [.long 0, .int 0, .int 0, .int 0, .int 0]))] s.heap.size = A at hD ⊢
  have hA : ∀ q : Nat, s.heap.size ≤ q → A q := fun q h => by rw [← hAe]; exact Or.inr h
  have hS : va_S A s.heap s.heap [] := va_S.rf
  have hl := lv_entry ([.ref h0, .int v1]) (n := 2) (Nat.le_of_ble_eq_true rfl)
  rw [lg_entry_eq]
  generalize (lg_sl ([.ref h0, .int v1]) ++ List.replicate (2 - (lg_sl ([.ref h0, .int v1])).length) Slot.unset).toArray = ls at hl ⊢
  change lv_has ls 2 [(0, .ref h0), (1, .int v1)] at hl
  clear hD0 hAe
  refine go0 (wsP := fun H => va_P (dC, dI) vwCl [(h0, .inr (3, [.long 0, .int 0, .int 0, .int 0, .int 0]))] H) hP hS ?_
  clear hP hS; intro H locs hP hS
  change va_P (dC, dI) vwCl [(h0, .inr (3, [.long 0, .int 0, .int 0, .int 0, .int 0]))] H at hP
  refine lv_iload_n hx hb dX3_tell_0 rfl (lv_at hl 1 rfl) ?_
  by_cases e_1 : v1 = 0
  · refine lv_tableIn (tgt := 40) (off := 39) hx hb dX3_tell_1 (by rw [e_1]; decide) (by rw [e_1]; decide) (by rw [e_1]; rfl) (by decide) ?_
    refine lv_aload_n hx hb dX3_tell_40 rfl (lv_at hl 0 rfl) ?_
    refine va_get (D := (dC, dI)) (ci := 3) (v := .int 0) (C := RX3) (T := TX3) (N := 5) hx hb htb iX3 hown hK hP 0 rfl rfl 1 (Nat.le_of_ble_eq_true rfl) (htb _ m_163) (fun _ h9 => h9) rfl dX3_tell_41 ?_
    refine W.widen (k := 0) (n := 0) (Nat.le_of_ble_eq_true rfl) (Nat.le_of_ble_eq_true rfl) ?_
    have hP9 := hP.sub (ws' := [(h0, .inr (3, [.long 0, .int 0, .int 0, .int 0, .int 0]))]) [0] rfl
    have hD9 := hD.sub (ws' := [(h0, .inr (3, [.long 0, .int 0, .int 0, .int 0, .int 0]))]) [0] (by decide) rfl
    have hK9 := hK.sub (tys' := []) [] rfl
    exact W.iret (v := 0) hx hb hr (fun t ht hW => ⟨⟨0, (), rfl, (lf_X3_tell_0 v1 e_1), ⟨by rw [ht]; exact hP9, va_K.moved hW.alike hK9, hD9⟩⟩, hS.F ht⟩) hS.2.2 dX3_tell_44
  by_cases e_2 : v1 = 1
  · refine lv_tableIn (tgt := 45) (off := 44) hx hb dX3_tell_1 (by rw [e_2]; decide) (by rw [e_2]; decide) (by rw [e_2]; rfl) (by decide) ?_
    refine lv_aload_n hx hb dX3_tell_45 rfl (lv_at hl 0 rfl) ?_
    have hPc := hP.sub (ws' := [(h0, .inr (3, [.long 0, .int 0, .int 0, .int 0, .int 0]))]) [0] rfl
    have hDc := hD.sub (ws' := [(h0, .inr (3, [.long 0, .int 0, .int 0, .int 0, .int 0]))]) [0] (by decide) rfl
    have hKc := hK.sub (tys' := []) [] rfl
    have hFc := va_free (wc := [(h0, .inr (3, [.long 0, .int 0, .int 0, .int 0, .int 0]))]) hD hS hA [0] rfl
    refine va_calli (va_runV (C := RX3) (As := []) (rest := []) ⟨hx, hb, hml, hown, htb⟩ (kX3_strength l dC dI H.size h0 ) ⟨callB_of 0 htb (gd_c m_650) rfl rfl rfl (htb _ m_7) (htb _ m_679) hdX3_strength ⟨(Nat.le_of_ble_eq_true rfl), (Nat.le_of_ble_eq_true rfl)⟩, htb _ m_648, htb _ m_649⟩ ⟨pcW_blind, va_recv hKc hPc (ci := 3) (q0 := 0) rfl rfl, pcW_at hPc hKc hDc hN⟩ rfl rfl hl.1 rfl (lv_room (Nat.le_of_ble_eq_true rfl)) dX3_tell_46 ⟨(Nat.le_of_ble_eq_true rfl), (Nat.le_of_ble_eq_true rfl)⟩) hS (fun q _ h => hFc q h) hFc (fun r_3 u t H1 locs1 ht hvm h_4 hB hz1 hk1 hS1 => ?_)
    obtain ⟨hP1, hK1, hD1⟩ := hB
    rw [ht] at hP1
    obtain ⟨hPn, hDn⟩ := va_join (wr := []) (w1 := [(h0, .inr (3, [.long 0, .int 0, .int 0, .int 0, .int 0]))]) hP hD [0] [] rfl rfl (by decide) (by decide) hk1 hFc hP1 hD1
    clear hP1 hD1 hK1
    clear hP hD hS hPc hDc hKc hFc hk1 hz1 ht hvm
    clear t
    revert hS1 hPn hDn; generalize H1 = H; generalize locs1 = locs; intro hS hP hD
    change va_P (dC, dI) vwCl [(h0, .inr (3, [.long 0, .int 0, .int 0, .int 0, .int 0]))] H at hP
    change va_D A [(h0, .inr (3, [.long 0, .int 0, .int 0, .int 0, .int 0]))] at hD
    subst h_4
    refine W.widen (k := 0) (n := 0) (Nat.le_of_ble_eq_true rfl) (Nat.le_of_ble_eq_true rfl) ?_
    have hP9 := hP.sub (ws' := [(h0, .inr (3, [.long 0, .int 0, .int 0, .int 0, .int 0]))]) [0] rfl
    have hD9 := hD.sub (ws' := [(h0, .inr (3, [.long 0, .int 0, .int 0, .int 0, .int 0]))]) [0] (by decide) rfl
    have hK9 := hK.sub (tys' := []) [] rfl
    exact W.iret (v := 0) hx hb hr (fun t ht hW => ⟨⟨0, (), rfl, (lf_X3_tell_1 v1 e_1 e_2), ⟨by rw [ht]; exact hP9, va_K.moved hW.alike hK9, hD9⟩⟩, hS.F ht⟩) hS.2.2 dX3_tell_49
  by_cases e_5 : v1 = 2
  · refine lv_tableIn (tgt := 50) (off := 49) hx hb dX3_tell_1 (by rw [e_5]; decide) (by rw [e_5]; decide) (by rw [e_5]; rfl) (by decide) ?_
    refine lv_aload_n hx hb dX3_tell_50 rfl (lv_at hl 0 rfl) ?_
    refine va_get (D := (dC, dI)) (ci := 3) (v := .int 0) (C := RX3) (T := TX3) (N := 5) hx hb htb iX3 hown hK hP 0 rfl rfl 2 (Nat.le_of_ble_eq_true rfl) (htb _ m_165) (fun _ h9 => h9) rfl dX3_tell_51 ?_
    refine W.widen (k := 0) (n := 0) (Nat.le_of_ble_eq_true rfl) (Nat.le_of_ble_eq_true rfl) ?_
    have hP9 := hP.sub (ws' := [(h0, .inr (3, [.long 0, .int 0, .int 0, .int 0, .int 0]))]) [0] rfl
    have hD9 := hD.sub (ws' := [(h0, .inr (3, [.long 0, .int 0, .int 0, .int 0, .int 0]))]) [0] (by decide) rfl
    have hK9 := hK.sub (tys' := []) [] rfl
    exact W.iret (v := 0) hx hb hr (fun t ht hW => ⟨⟨0, (), rfl, (lf_X3_tell_2 v1 e_1 e_2 e_5), ⟨by rw [ht]; exact hP9, va_K.moved hW.alike hK9, hD9⟩⟩, hS.F ht⟩) hS.2.2 dX3_tell_54
  by_cases e_6 : v1 = 3
  · refine lv_tableIn (tgt := 55) (off := 54) hx hb dX3_tell_1 (by rw [e_6]; decide) (by rw [e_6]; decide) (by rw [e_6]; rfl) (by decide) ?_
    refine lv_aload_n hx hb dX3_tell_55 rfl (lv_at hl 0 rfl) ?_
    refine va_get (D := (dC, dI)) (ci := 3) (v := .int 0) (C := RX3) (T := TX3) (N := 5) hx hb htb iX3 hown hK hP 0 rfl rfl 3 (Nat.le_of_ble_eq_true rfl) (htb _ m_167) (fun _ h9 => h9) rfl dX3_tell_56 ?_
    refine W.widen (k := 0) (n := 0) (Nat.le_of_ble_eq_true rfl) (Nat.le_of_ble_eq_true rfl) ?_
    have hP9 := hP.sub (ws' := [(h0, .inr (3, [.long 0, .int 0, .int 0, .int 0, .int 0]))]) [0] rfl
    have hD9 := hD.sub (ws' := [(h0, .inr (3, [.long 0, .int 0, .int 0, .int 0, .int 0]))]) [0] (by decide) rfl
    have hK9 := hK.sub (tys' := []) [] rfl
    exact W.iret (v := 0) hx hb hr (fun t ht hW => ⟨⟨0, (), rfl, (lf_X3_tell_3 v1 e_1 e_2 e_5 e_6), ⟨by rw [ht]; exact hP9, va_K.moved hW.alike hK9, hD9⟩⟩, hS.F ht⟩) hS.2.2 dX3_tell_59
  by_cases e_7 : v1 = 4
  · refine lv_tableIn (tgt := 60) (off := 59) hx hb dX3_tell_1 (by rw [e_7]; decide) (by rw [e_7]; decide) (by rw [e_7]; rfl) (by decide) ?_
    refine lv_aload_n hx hb dX3_tell_60 rfl (lv_at hl 0 rfl) ?_
    have hPc := hP.sub (ws' := [(h0, .inr (3, [.long 0, .int 0, .int 0, .int 0, .int 0]))]) [0] rfl
    have hDc := hD.sub (ws' := [(h0, .inr (3, [.long 0, .int 0, .int 0, .int 0, .int 0]))]) [0] (by decide) rfl
    have hKc := hK.sub (tys' := []) [] rfl
    have hFc := va_free (wc := [(h0, .inr (3, [.long 0, .int 0, .int 0, .int 0, .int 0]))]) hD hS hA [0] rfl
    refine va_calli (va_runV (C := RX3) (As := []) (rest := []) ⟨hx, hb, hml, hown, htb⟩ (kX3_isBurnt l dC dI H.size h0 ) ⟨callB_of 0 htb (gd_c m_678) rfl rfl rfl (htb _ m_7) (htb _ m_702) hdX3_isBurnt ⟨(Nat.le_of_ble_eq_true rfl), (Nat.le_of_ble_eq_true rfl)⟩, htb _ m_676, htb _ m_677⟩ ⟨pcW_blind, va_recv hKc hPc (ci := 3) (q0 := 0) rfl rfl, pcW_at hPc hKc hDc hN⟩ rfl rfl hl.1 rfl (lv_room (Nat.le_of_ble_eq_true rfl)) dX3_tell_61 ⟨(Nat.le_of_ble_eq_true rfl), (Nat.le_of_ble_eq_true rfl)⟩) hS (fun q _ h => hFc q h) hFc (fun r_8 u t H1 locs1 ht hvm h_9 hB hz1 hk1 hS1 => ?_)
    obtain ⟨hP1, hK1, hD1⟩ := hB
    rw [ht] at hP1
    obtain ⟨hPn, hDn⟩ := va_join (wr := []) (w1 := [(h0, .inr (3, [.long 0, .int 0, .int 0, .int 0, .int 0]))]) hP hD [0] [] rfl rfl (by decide) (by decide) hk1 hFc hP1 hD1
    clear hP1 hD1 hK1
    clear hP hD hS hPc hDc hKc hFc hk1 hz1 ht hvm
    clear t
    revert hS1 hPn hDn; generalize H1 = H; generalize locs1 = locs; intro hS hP hD
    change va_P (dC, dI) vwCl [(h0, .inr (3, [.long 0, .int 0, .int 0, .int 0, .int 0]))] H at hP
    change va_D A [(h0, .inr (3, [.long 0, .int 0, .int 0, .int 0, .int 0]))] at hD
    subst h_9
    refine lv_if_eq (tgt := 71) hx hb dX3_tell_64 (by decide) ?_ (fun c_10 => absurd (by decide) c_10)
    intro _
    refine lv_iconst (v := 0) hx hb dX3_tell_71 (by decide) ?_
    refine W.widen (k := 0) (n := 0) (Nat.le_of_ble_eq_true rfl) (Nat.le_of_ble_eq_true rfl) ?_
    have hP9 := hP.sub (ws' := [(h0, .inr (3, [.long 0, .int 0, .int 0, .int 0, .int 0]))]) [0] rfl
    have hD9 := hD.sub (ws' := [(h0, .inr (3, [.long 0, .int 0, .int 0, .int 0, .int 0]))]) [0] (by decide) rfl
    have hK9 := hK.sub (tys' := []) [] rfl
    exact W.iret (v := 0) hx hb hr (fun t ht hW => ⟨⟨0, (), rfl, (lf_X3_tell_4 v1 e_1 e_2 e_5 e_6 e_7), ⟨by rw [ht]; exact hP9, va_K.moved hW.alike hK9, hD9⟩⟩, hS.F ht⟩) hS.2.2 dX3_tell_72
  by_cases e_11 : v1 = 5
  · refine lv_tableIn (tgt := 73) (off := 72) hx hb dX3_tell_1 (by rw [e_11]; decide) (by rw [e_11]; decide) (by rw [e_11]; rfl) (by decide) ?_
    refine lv_aload_n hx hb dX3_tell_73 rfl (lv_at hl 0 rfl) ?_
    refine va_get (D := (dC, dI)) (ci := 3) (v := .long 0) (C := RX3) (T := TX3) (N := 5) hx hb htb iX3 hown hK hP 0 rfl rfl 0 (Nat.le_of_ble_eq_true rfl) (htb _ m_162) (fun _ h9 => h9) rfl dX3_tell_74 ?_
    refine lv_ldc2 hx hb hown (htb _ m_651) dX3_tell_77 ?_
    refine lv_ldiv hx hb dX3_tell_80 (by decide) ?_
    refine lv_topel (y := 0) (by decide) ?_
    refine lv_l2i (v := 0) hx hb dX3_tell_81 (by decide) ?_
    refine W.widen (k := 0) (n := 0) (Nat.le_of_ble_eq_true rfl) (Nat.le_of_ble_eq_true rfl) ?_
    have hP9 := hP.sub (ws' := [(h0, .inr (3, [.long 0, .int 0, .int 0, .int 0, .int 0]))]) [0] rfl
    have hD9 := hD.sub (ws' := [(h0, .inr (3, [.long 0, .int 0, .int 0, .int 0, .int 0]))]) [0] (by decide) rfl
    have hK9 := hK.sub (tys' := []) [] rfl
    exact W.iret (v := 0) hx hb hr (fun t ht hW => ⟨⟨0, (), rfl, (lf_X3_tell_5 v1 e_1 e_2 e_5 e_6 e_7 e_11), ⟨by rw [ht]; exact hP9, va_K.moved hW.alike hK9, hD9⟩⟩, hS.F ht⟩) hS.2.2 dX3_tell_82
  refine lv_tableOut (tgt := 83) hx hb dX3_tell_1 (by have := lv_neT e_1 (a := 0) (by decide); have := lv_neT e_2 (a := 1) (by decide); have := lv_neT e_5 (a := 2) (by decide); have := lv_neT e_6 (a := 3) (by decide); have := lv_neT e_7 (a := 4) (by decide); have := lv_neT e_11 (a := 5) (by decide); omega) (by decide) ?_
  refine lv_iconst (v := (-1)) hx hb dX3_tell_83 (by decide) ?_
  refine W.widen (k := 0) (n := 0) (Nat.le_of_ble_eq_true rfl) (Nat.le_of_ble_eq_true rfl) ?_
  have hP9 := hP.sub (ws' := [(h0, .inr (3, [.long 0, .int 0, .int 0, .int 0, .int 0]))]) [0] rfl
  have hD9 := hD.sub (ws' := [(h0, .inr (3, [.long 0, .int 0, .int 0, .int 0, .int 0]))]) [0] (by decide) rfl
  have hK9 := hK.sub (tys' := []) [] rfl
  exact W.iret (v := (-1)) hx hb hr (fun t ht hW => ⟨⟨(-1), (), rfl, (lf_X3_tell_6 v1 e_1 e_2 e_5 e_6 e_7 e_11), ⟨by rw [ht]; exact hP9, va_K.moved hW.alike hK9, hD9⟩⟩, hS.F ht⟩) hS.2.2 dX3_tell_84

set_option maxHeartbeats 4000000 in
set_option maxRecDepth 100000 in
theorem kX0_init (l : Launch) (dC : Nat → ClassId) (dI : Nat → Nat → Nat) (sz : Nat) (h0 : Nat) : Met l yX0_init (Cond.code yX0_init cX0_init 1 none :: bg) ({ frames := 1, cells := 8, slots := 422, locals := 12 }) (pcW dC dI [.ref h0] sz [(h0, .inr (0, [.null, .null, .null, .null, .null, .null, .int 0]))] []) (va_Qv (fun (u : Unit) => True) (fun (u : Unit) (t : State) => ∃ (c_parts : Nat) (c_strength : Nat) (c_drawnOn : Nat) (c_drawnIn : Nat) (c_sold : Nat) (c_looks : Nat), va_P (dC, dI) vwCl [(h0, .inr (0, [.ref c_parts, .ref c_strength, .ref c_drawnOn, .ref c_drawnIn, .ref c_sold, .ref c_looks, .int 0]))] t.heap ∧ va_K (dC, dI) vwCl [] t ∧ va_D (va_A [(h0, .inr (0, [.null, .null, .null, .null, .null, .null, .int 0]))] sz) [(h0, .inr (0, [.ref c_parts, .ref c_strength, .ref c_drawnOn, .ref c_drawnIn, .ref c_sold, .ref c_looks, .int 0]))]) (va_A [(h0, .inr (0, [.null, .null, .null, .null, .null, .null, .int 0]))] sz)) 8 422 (va_A [(h0, .inr (0, [.null, .null, .null, .null, .null, .null, .int 0]))] sz) := by
  refine Met.ofW (cc := cX0_init) (maxL := 1) (ret := none) pnX0 rfl ?_
  intro p e s m args below meth c s₁ B hml hv
  obtain ⟨rfl, hsz, hP, hK, hD0, hN⟩ := hv
  have hx := B.exec
  have hb := B.bytes
  have hr := B.returns
  have htb : ∀ w ∈ bg, w.before [.ref h0].toArray s = true := fun w h => atoms_spec (ws := Cond.code yX0_init cX0_init 1 none :: bg) B.pre w (List.mem_cons_of_mem _ h)
  have hown : s.vm.findClass RX0 = some m.cls := findClass_of_methodNamed B.named
  have hlocks := B.notSynchronized
  have hin : meth.name = "<init>" := (name_of_methodNamed B.named B.method).1
  subst hsz
  have hD := hD0.self (sz := s.heap.size)
  generalize hAe : va_A [(h0, .inr (0, [.null, .null, .null, .null, .null, .null, .int 0]))] s.heap.size = A at hD ⊢
  have hA : ∀ q : Nat, s.heap.size ≤ q → A q := fun q h => by rw [← hAe]; exact Or.inr h
  have hS : va_S A s.heap s.heap [] := va_S.rf
  have hl := lv_entry ([.ref h0]) (n := 1) (Nat.le_of_ble_eq_true rfl)
  rw [lg_entry_eq]
  generalize (lg_sl ([.ref h0]) ++ List.replicate (1 - (lg_sl ([.ref h0])).length) Slot.unset).toArray = ls at hl ⊢
  change lv_has ls 1 [(0, .ref h0)] at hl
  clear hD0 hAe
  refine go0 (wsP := fun H => va_P (dC, dI) vwCl [(h0, .inr (0, [.null, .null, .null, .null, .null, .null, .int 0]))] H) hP hS ?_
  clear hP hS; intro H locs hP hS
  change va_P (dC, dI) vwCl [(h0, .inr (0, [.null, .null, .null, .null, .null, .null, .int 0]))] H at hP
  refine lv_aload_n hx hb dX0_init_0 rfl (lv_at hl 0 rfl) ?_
  refine W.objInit hx hb hown (htb _ m_187) (htb _ m_26) (htb _ m_27) rfl (by rw [hml]; exact hl.1) rfl dX0_init_1 (Nat.le_of_ble_eq_true rfl) (Nat.le_of_ble_eq_true rfl) ?_
  refine W.eq (g2 := F0 m 4 ls []) rfl ?_
  refine lv_aload_n hx hb dX0_init_4 rfl (lv_at hl 0 rfl) ?_
  refine lv_bipush (v := 60) hx hb dX0_init_5 (by decide) ?_
  refine va_newa (atype := .int) (a0 := (60, .inl (fun _ => 0))) (N' := 60) (ty := .int) hx hb (htb _ m_63) rfl hK hP hD hS hA (fun _ => rfl) (by decide) (by decide) (Nat.le_of_ble_eq_true rfl) (Nat.le_of_ble_eq_true rfl) (Nat.le_of_ble_eq_true rfl) dX0_init_7 ?_
  clear hP hD hS hK; intro q_1 a_2 H hK hP hD hS
  change va_P (dC, dI) vwCl [(h0, .inr (0, [.null, .null, .null, .null, .null, .null, .int 0])), (q_1, .inl (a_2, 60, .inl (fun _ => 0)))] H at hP
  change va_D A [(h0, .inr (0, [.null, .null, .null, .null, .null, .null, .int 0])), (q_1, .inl (a_2, 60, .inl (fun _ => 0)))] at hD
  change va_K (dC, dI) vwCl [(a_2, .int)] s at hK
  refine W.widen (k := 1) (n := 60) (Nat.le_of_ble_eq_true rfl) (Nat.le_of_ble_eq_true rfl) ?_
  refine va_putF (D := (dC, dI)) (ci := 0) (v := .ref q_1) (C := RX0) (T := TX0) (N := 7) hx hb htb iX0 tyX0 tyX0_ok nmX0 hown hK hP hD hS 0 rfl rfl 0 (Nat.le_of_ble_eq_true rfl) (htb _ m_190) (fun _ h9 => h9) rfl hin rfl (tyX0_ok 0 (Nat.le_of_ble_eq_true rfl)) rfl rfl (Nat.le_of_ble_eq_true rfl) dX0_init_9 ?_
  clear hP hD hS; intro H locs hP hD hS
  change va_P (dC, dI) vwCl [(h0, .inr (0, [.ref q_1, .null, .null, .null, .null, .null, .int 0])), (q_1, .inl (a_2, 60, .inl (fun _ => 0)))] H at hP
  change va_D A [(h0, .inr (0, [.ref q_1, .null, .null, .null, .null, .null, .int 0])), (q_1, .inl (a_2, 60, .inl (fun _ => 0)))] at hD
  refine lv_aload_n hx hb dX0_init_12 rfl (lv_at hl 0 rfl) ?_
  refine lv_bipush (v := 60) hx hb dX0_init_13 (by decide) ?_
  refine va_newa (atype := .int) (a0 := (60, .inl (fun _ => 0))) (N' := 60) (ty := .int) hx hb (htb _ m_63) rfl hK hP hD hS hA (fun _ => rfl) (by decide) (by decide) (Nat.le_of_ble_eq_true rfl) (Nat.le_of_ble_eq_true rfl) (Nat.le_of_ble_eq_true rfl) dX0_init_15 ?_
  clear hP hD hS hK; intro q_3 a_4 H hK hP hD hS
  change va_P (dC, dI) vwCl [(h0, .inr (0, [.ref q_1, .null, .null, .null, .null, .null, .int 0])), (q_1, .inl (a_2, 60, .inl (fun _ => 0))), (q_3, .inl (a_4, 60, .inl (fun _ => 0)))] H at hP
  change va_D A [(h0, .inr (0, [.ref q_1, .null, .null, .null, .null, .null, .int 0])), (q_1, .inl (a_2, 60, .inl (fun _ => 0))), (q_3, .inl (a_4, 60, .inl (fun _ => 0)))] at hD
  change va_K (dC, dI) vwCl [(a_2, .int), (a_4, .int)] s at hK
  refine W.widen (k := 2) (n := 120) (Nat.le_of_ble_eq_true rfl) (Nat.le_of_ble_eq_true rfl) ?_
  refine va_putF (D := (dC, dI)) (ci := 0) (v := .ref q_3) (C := RX0) (T := TX0) (N := 7) hx hb htb iX0 tyX0 tyX0_ok nmX0 hown hK hP hD hS 0 rfl rfl 1 (Nat.le_of_ble_eq_true rfl) (htb _ m_191) (fun _ h9 => h9) rfl hin rfl (tyX0_ok 1 (Nat.le_of_ble_eq_true rfl)) rfl rfl (Nat.le_of_ble_eq_true rfl) dX0_init_17 ?_
  clear hP hD hS; intro H locs hP hD hS
  change va_P (dC, dI) vwCl [(h0, .inr (0, [.ref q_1, .ref q_3, .null, .null, .null, .null, .int 0])), (q_1, .inl (a_2, 60, .inl (fun _ => 0))), (q_3, .inl (a_4, 60, .inl (fun _ => 0)))] H at hP
  change va_D A [(h0, .inr (0, [.ref q_1, .ref q_3, .null, .null, .null, .null, .int 0])), (q_1, .inl (a_2, 60, .inl (fun _ => 0))), (q_3, .inl (a_4, 60, .inl (fun _ => 0)))] at hD
  refine lv_aload_n hx hb dX0_init_20 rfl (lv_at hl 0 rfl) ?_
  refine lv_bipush (v := 60) hx hb dX0_init_21 (by decide) ?_
  refine va_newa (atype := .int) (a0 := (60, .inl (fun _ => 0))) (N' := 60) (ty := .int) hx hb (htb _ m_63) rfl hK hP hD hS hA (fun _ => rfl) (by decide) (by decide) (Nat.le_of_ble_eq_true rfl) (Nat.le_of_ble_eq_true rfl) (Nat.le_of_ble_eq_true rfl) dX0_init_23 ?_
  clear hP hD hS hK; intro q_5 a_6 H hK hP hD hS
  change va_P (dC, dI) vwCl [(h0, .inr (0, [.ref q_1, .ref q_3, .null, .null, .null, .null, .int 0])), (q_1, .inl (a_2, 60, .inl (fun _ => 0))), (q_3, .inl (a_4, 60, .inl (fun _ => 0))), (q_5, .inl (a_6, 60, .inl (fun _ => 0)))] H at hP
  change va_D A [(h0, .inr (0, [.ref q_1, .ref q_3, .null, .null, .null, .null, .int 0])), (q_1, .inl (a_2, 60, .inl (fun _ => 0))), (q_3, .inl (a_4, 60, .inl (fun _ => 0))), (q_5, .inl (a_6, 60, .inl (fun _ => 0)))] at hD
  change va_K (dC, dI) vwCl [(a_2, .int), (a_4, .int), (a_6, .int)] s at hK
  refine W.widen (k := 3) (n := 180) (Nat.le_of_ble_eq_true rfl) (Nat.le_of_ble_eq_true rfl) ?_
  refine va_putF (D := (dC, dI)) (ci := 0) (v := .ref q_5) (C := RX0) (T := TX0) (N := 7) hx hb htb iX0 tyX0 tyX0_ok nmX0 hown hK hP hD hS 0 rfl rfl 2 (Nat.le_of_ble_eq_true rfl) (htb _ m_192) (fun _ h9 => h9) rfl hin rfl (tyX0_ok 2 (Nat.le_of_ble_eq_true rfl)) rfl rfl (Nat.le_of_ble_eq_true rfl) dX0_init_25 ?_
  clear hP hD hS; intro H locs hP hD hS
  change va_P (dC, dI) vwCl [(h0, .inr (0, [.ref q_1, .ref q_3, .ref q_5, .null, .null, .null, .int 0])), (q_1, .inl (a_2, 60, .inl (fun _ => 0))), (q_3, .inl (a_4, 60, .inl (fun _ => 0))), (q_5, .inl (a_6, 60, .inl (fun _ => 0)))] H at hP
  change va_D A [(h0, .inr (0, [.ref q_1, .ref q_3, .ref q_5, .null, .null, .null, .int 0])), (q_1, .inl (a_2, 60, .inl (fun _ => 0))), (q_3, .inl (a_4, 60, .inl (fun _ => 0))), (q_5, .inl (a_6, 60, .inl (fun _ => 0)))] at hD
  refine lv_aload_n hx hb dX0_init_28 rfl (lv_at hl 0 rfl) ?_
  refine lv_bipush (v := 60) hx hb dX0_init_29 (by decide) ?_
  refine va_newa (atype := .int) (a0 := (60, .inl (fun _ => 0))) (N' := 60) (ty := .int) hx hb (htb _ m_63) rfl hK hP hD hS hA (fun _ => rfl) (by decide) (by decide) (Nat.le_of_ble_eq_true rfl) (Nat.le_of_ble_eq_true rfl) (Nat.le_of_ble_eq_true rfl) dX0_init_31 ?_
  clear hP hD hS hK; intro q_7 a_8 H hK hP hD hS
  change va_P (dC, dI) vwCl [(h0, .inr (0, [.ref q_1, .ref q_3, .ref q_5, .null, .null, .null, .int 0])), (q_1, .inl (a_2, 60, .inl (fun _ => 0))), (q_3, .inl (a_4, 60, .inl (fun _ => 0))), (q_5, .inl (a_6, 60, .inl (fun _ => 0))), (q_7, .inl (a_8, 60, .inl (fun _ => 0)))] H at hP
  change va_D A [(h0, .inr (0, [.ref q_1, .ref q_3, .ref q_5, .null, .null, .null, .int 0])), (q_1, .inl (a_2, 60, .inl (fun _ => 0))), (q_3, .inl (a_4, 60, .inl (fun _ => 0))), (q_5, .inl (a_6, 60, .inl (fun _ => 0))), (q_7, .inl (a_8, 60, .inl (fun _ => 0)))] at hD
  change va_K (dC, dI) vwCl [(a_2, .int), (a_4, .int), (a_6, .int), (a_8, .int)] s at hK
  refine W.widen (k := 4) (n := 240) (Nat.le_of_ble_eq_true rfl) (Nat.le_of_ble_eq_true rfl) ?_
  refine va_putF (D := (dC, dI)) (ci := 0) (v := .ref q_7) (C := RX0) (T := TX0) (N := 7) hx hb htb iX0 tyX0 tyX0_ok nmX0 hown hK hP hD hS 0 rfl rfl 3 (Nat.le_of_ble_eq_true rfl) (htb _ m_193) (fun _ h9 => h9) rfl hin rfl (tyX0_ok 3 (Nat.le_of_ble_eq_true rfl)) rfl rfl (Nat.le_of_ble_eq_true rfl) dX0_init_33 ?_
  clear hP hD hS; intro H locs hP hD hS
  change va_P (dC, dI) vwCl [(h0, .inr (0, [.ref q_1, .ref q_3, .ref q_5, .ref q_7, .null, .null, .int 0])), (q_1, .inl (a_2, 60, .inl (fun _ => 0))), (q_3, .inl (a_4, 60, .inl (fun _ => 0))), (q_5, .inl (a_6, 60, .inl (fun _ => 0))), (q_7, .inl (a_8, 60, .inl (fun _ => 0)))] H at hP
  change va_D A [(h0, .inr (0, [.ref q_1, .ref q_3, .ref q_5, .ref q_7, .null, .null, .int 0])), (q_1, .inl (a_2, 60, .inl (fun _ => 0))), (q_3, .inl (a_4, 60, .inl (fun _ => 0))), (q_5, .inl (a_6, 60, .inl (fun _ => 0))), (q_7, .inl (a_8, 60, .inl (fun _ => 0)))] at hD
  refine lv_aload_n hx hb dX0_init_36 rfl (lv_at hl 0 rfl) ?_
  refine lv_bipush (v := 60) hx hb dX0_init_37 (by decide) ?_
  refine va_newa (atype := .boolean) (a0 := (60, .inl (fun _ => 0))) (N' := 60) (ty := .boolean) hx hb (htb _ m_64) rfl hK hP hD hS hA (fun _ => rfl) (by decide) (by decide) (Nat.le_of_ble_eq_true rfl) (Nat.le_of_ble_eq_true rfl) (Nat.le_of_ble_eq_true rfl) dX0_init_39 ?_
  clear hP hD hS hK; intro q_9 a_10 H hK hP hD hS
  change va_P (dC, dI) vwCl [(h0, .inr (0, [.ref q_1, .ref q_3, .ref q_5, .ref q_7, .null, .null, .int 0])), (q_1, .inl (a_2, 60, .inl (fun _ => 0))), (q_3, .inl (a_4, 60, .inl (fun _ => 0))), (q_5, .inl (a_6, 60, .inl (fun _ => 0))), (q_7, .inl (a_8, 60, .inl (fun _ => 0))), (q_9, .inl (a_10, 60, .inl (fun _ => 0)))] H at hP
  change va_D A [(h0, .inr (0, [.ref q_1, .ref q_3, .ref q_5, .ref q_7, .null, .null, .int 0])), (q_1, .inl (a_2, 60, .inl (fun _ => 0))), (q_3, .inl (a_4, 60, .inl (fun _ => 0))), (q_5, .inl (a_6, 60, .inl (fun _ => 0))), (q_7, .inl (a_8, 60, .inl (fun _ => 0))), (q_9, .inl (a_10, 60, .inl (fun _ => 0)))] at hD
  change va_K (dC, dI) vwCl [(a_2, .int), (a_4, .int), (a_6, .int), (a_8, .int), (a_10, .boolean)] s at hK
  refine W.widen (k := 5) (n := 300) (Nat.le_of_ble_eq_true rfl) (Nat.le_of_ble_eq_true rfl) ?_
  refine va_putF (D := (dC, dI)) (ci := 0) (v := .ref q_9) (C := RX0) (T := TX0) (N := 7) hx hb htb iX0 tyX0 tyX0_ok nmX0 hown hK hP hD hS 0 rfl rfl 4 (Nat.le_of_ble_eq_true rfl) (htb _ m_194) (fun _ h9 => h9) rfl hin rfl (tyX0_ok 4 (Nat.le_of_ble_eq_true rfl)) rfl rfl (Nat.le_of_ble_eq_true rfl) dX0_init_41 ?_
  clear hP hD hS; intro H locs hP hD hS
  change va_P (dC, dI) vwCl [(h0, .inr (0, [.ref q_1, .ref q_3, .ref q_5, .ref q_7, .ref q_9, .null, .int 0])), (q_1, .inl (a_2, 60, .inl (fun _ => 0))), (q_3, .inl (a_4, 60, .inl (fun _ => 0))), (q_5, .inl (a_6, 60, .inl (fun _ => 0))), (q_7, .inl (a_8, 60, .inl (fun _ => 0))), (q_9, .inl (a_10, 60, .inl (fun _ => 0)))] H at hP
  change va_D A [(h0, .inr (0, [.ref q_1, .ref q_3, .ref q_5, .ref q_7, .ref q_9, .null, .int 0])), (q_1, .inl (a_2, 60, .inl (fun _ => 0))), (q_3, .inl (a_4, 60, .inl (fun _ => 0))), (q_5, .inl (a_6, 60, .inl (fun _ => 0))), (q_7, .inl (a_8, 60, .inl (fun _ => 0))), (q_9, .inl (a_10, 60, .inl (fun _ => 0)))] at hD
  refine lv_aload_n hx hb dX0_init_44 rfl (lv_at hl 0 rfl) ?_
  refine lv_iconst (v := 2) hx hb dX0_init_45 (by decide) ?_
  refine lv_bipush (v := 60) hx hb dX0_init_46 (by decide) ?_
  refine mna_1 hx hb hown (htb _ m_188) hN.2 (htb _ m_63) hP hD hS (Nat.le_of_ble_eq_true rfl) (Nat.le_of_ble_eq_true rfl) dX0_init_48 ?_
  clear hP hD hS; intro q_11 H hP hD hS
  refine W.widen (k := 8) (n := 422) (Nat.le_of_ble_eq_true rfl) (Nat.le_of_ble_eq_true rfl) ?_
  refine va_putF (D := (dC, dI)) (ci := 0) (v := .ref q_11) (C := RX0) (T := TX0) (N := 7) hx hb htb iX0 tyX0 tyX0_ok nmX0 hown hK hP hD hS 0 rfl rfl 5 (Nat.le_of_ble_eq_true rfl) (htb _ m_195) (fun _ h9 => h9) rfl hin rfl (tyX0_ok 5 (Nat.le_of_ble_eq_true rfl)) rfl rfl (Nat.le_of_ble_eq_true rfl) dX0_init_52 ?_
  clear hP hD hS; intro H locs hP hD hS
  change va_P (dC, dI) vwCl [(h0, .inr (0, [.ref q_1, .ref q_3, .ref q_5, .ref q_7, .ref q_9, .ref q_11, .int 0])), (q_1, .inl (a_2, 60, .inl (fun _ => 0))), (q_3, .inl (a_4, 60, .inl (fun _ => 0))), (q_5, .inl (a_6, 60, .inl (fun _ => 0))), (q_7, .inl (a_8, 60, .inl (fun _ => 0))), (q_9, .inl (a_10, 60, .inl (fun _ => 0)))] H at hP
  change va_D A [(h0, .inr (0, [.ref q_1, .ref q_3, .ref q_5, .ref q_7, .ref q_9, .ref q_11, .int 0])), (q_1, .inl (a_2, 60, .inl (fun _ => 0))), (q_3, .inl (a_4, 60, .inl (fun _ => 0))), (q_5, .inl (a_6, 60, .inl (fun _ => 0))), (q_7, .inl (a_8, 60, .inl (fun _ => 0))), (q_9, .inl (a_10, 60, .inl (fun _ => 0)))] at hD
  refine W.widen (k := 8) (n := 422) (Nat.le_of_ble_eq_true rfl) (Nat.le_of_ble_eq_true rfl) ?_
  have hP9 := hP.sub (ws' := [(h0, .inr (0, [.ref q_1, .ref q_3, .ref q_5, .ref q_7, .ref q_9, .ref q_11, .int 0]))]) [0] rfl
  have hD9 := hD.sub (ws' := [(h0, .inr (0, [.ref q_1, .ref q_3, .ref q_5, .ref q_7, .ref q_9, .ref q_11, .int 0]))]) [0] (by decide) rfl
  have hK9 := hK.sub (tys' := []) [] rfl
  exact W.vret hx hb hr (fun t ht hW => ⟨⟨(), rfl, trivial, ⟨q_1, q_3, q_5, q_7, q_9, q_11, by rw [ht]; exact hP9, va_K.moved hW.alike hK9, hD9⟩⟩, hS.F ht⟩) hS.2.2 dX0_init_55

theorem lf_X0_has_0 (v1 : Int32) (c_1 : ¬ v1 < 0) (c_2 : ¬ 0 ≤ v1) : False := by
  first | assumption | grind | (simp [Int32.lt_iff_toInt_lt, Int32.le_iff_toInt_le, ← Int32.toInt_inj] at *; omega)
set_option maxHeartbeats 4000000 in
set_option maxRecDepth 100000 in
theorem kX0_has (l : Launch) (dC : Nat → ClassId) (dI : Nat → Nat → Nat) (sz : Nat) (h0 : Nat) (c_parts : Nat) (c_strength : Nat) (c_drawnOn : Nat) (c_drawnIn : Nat) (c_sold : Nat) (c_looks : Nat) (v1 : Int32) : Met l yX0_has (Cond.code yX0_has cX0_has 2 (some .boolean) :: bg) ({ frames := 0, cells := 0, slots := 0, locals := 0 }) (pcW dC dI [.ref h0, .int v1] sz [(h0, .inr (0, [.ref c_parts, .ref c_strength, .ref c_drawnOn, .ref c_drawnIn, .ref c_sold, .ref c_looks, .int 0]))] []) (va_Qi (fun (r : Int32) (u : Unit) => r = 0) (fun (u : Unit) (t : State) => va_P (dC, dI) vwCl [(h0, .inr (0, [.ref c_parts, .ref c_strength, .ref c_drawnOn, .ref c_drawnIn, .ref c_sold, .ref c_looks, .int 0]))] t.heap ∧ va_K (dC, dI) vwCl [] t ∧ va_D (va_A [(h0, .inr (0, [.ref c_parts, .ref c_strength, .ref c_drawnOn, .ref c_drawnIn, .ref c_sold, .ref c_looks, .int 0]))] sz) [(h0, .inr (0, [.ref c_parts, .ref c_strength, .ref c_drawnOn, .ref c_drawnIn, .ref c_sold, .ref c_looks, .int 0]))]) (va_A [(h0, .inr (0, [.ref c_parts, .ref c_strength, .ref c_drawnOn, .ref c_drawnIn, .ref c_sold, .ref c_looks, .int 0]))] sz)) 0 0 (va_A [(h0, .inr (0, [.ref c_parts, .ref c_strength, .ref c_drawnOn, .ref c_drawnIn, .ref c_sold, .ref c_looks, .int 0]))] sz) := by
  refine Met.ofW (cc := cX0_has) (maxL := 2) (ret := (some .boolean)) pnX0 rfl ?_
  intro p e s m args below meth c s₁ B hml hv
  obtain ⟨rfl, hsz, hP, hK, hD0, hN⟩ := hv
  have hx := B.exec
  have hb := B.bytes
  have hr := B.returns
  have htb : ∀ w ∈ bg, w.before [.ref h0, .int v1].toArray s = true := fun w h => atoms_spec (ws := Cond.code yX0_has cX0_has 2 (some .boolean) :: bg) B.pre w (List.mem_cons_of_mem _ h)
  have hown : s.vm.findClass RX0 = some m.cls := findClass_of_methodNamed B.named
  have hlocks := B.notSynchronized
  subst hsz
  have hD := hD0.self (sz := s.heap.size)
  generalize hAe : va_A [(h0, .inr (0, [.ref c_parts, .ref c_strength, .ref c_drawnOn, .ref c_drawnIn, .ref c_sold, .ref c_looks, .int 0]))] s.heap.size = A at hD ⊢
  have hA : ∀ q : Nat, s.heap.size ≤ q → A q := fun q h => by rw [← hAe]; exact Or.inr h
  have hS : va_S A s.heap s.heap [] := va_S.rf
  have hl := lv_entry ([.ref h0, .int v1]) (n := 2) (Nat.le_of_ble_eq_true rfl)
  rw [lg_entry_eq]
  generalize (lg_sl ([.ref h0, .int v1]) ++ List.replicate (2 - (lg_sl ([.ref h0, .int v1])).length) Slot.unset).toArray = ls at hl ⊢
  change lv_has ls 2 [(0, .ref h0), (1, .int v1)] at hl
  clear hD0 hAe
  refine go0 (wsP := fun H => va_P (dC, dI) vwCl [(h0, .inr (0, [.ref c_parts, .ref c_strength, .ref c_drawnOn, .ref c_drawnIn, .ref c_sold, .ref c_looks, .int 0]))] H) hP hS ?_
  clear hP hS; intro H locs hP hS
  change va_P (dC, dI) vwCl [(h0, .inr (0, [.ref c_parts, .ref c_strength, .ref c_drawnOn, .ref c_drawnIn, .ref c_sold, .ref c_looks, .int 0]))] H at hP
  refine lv_iload_n hx hb dX0_has_0 rfl (lv_at hl 1 rfl) ?_
  refine lv_if_lt (tgt := 16) hx hb dX0_has_1 (by decide) (fun c_1 => ?_) (fun c_1 => ?_)
  · refine lv_iconst (v := 0) hx hb dX0_has_16 (by decide) ?_
    refine W.widen (k := 0) (n := 0) (Nat.le_of_ble_eq_true rfl) (Nat.le_of_ble_eq_true rfl) ?_
    have hP9 := hP.sub (ws' := [(h0, .inr (0, [.ref c_parts, .ref c_strength, .ref c_drawnOn, .ref c_drawnIn, .ref c_sold, .ref c_looks, .int 0]))]) [0] rfl
    have hD9 := hD.sub (ws' := [(h0, .inr (0, [.ref c_parts, .ref c_strength, .ref c_drawnOn, .ref c_drawnIn, .ref c_sold, .ref c_looks, .int 0]))]) [0] (by decide) rfl
    have hK9 := hK.sub (tys' := []) [] rfl
    exact W.zret (ty := .boolean) (v := 0) hx hb hr rfl (fun t ht hW => ⟨⟨0, (), rfl, (rfl), ⟨by rw [ht]; exact hP9, va_K.moved hW.alike hK9, hD9⟩⟩, hS.F ht⟩) hS.2.2 dX0_has_17
  · refine lv_iload_n hx hb dX0_has_4 rfl (lv_at hl 1 rfl) ?_
    refine lv_aload_n hx hb dX0_has_5 rfl (lv_at hl 0 rfl) ?_
    refine va_get (D := (dC, dI)) (ci := 0) (v := .int 0) (C := RX0) (T := TX0) (N := 7) hx hb htb iX0 hown hK hP 0 rfl rfl 6 (Nat.le_of_ble_eq_true rfl) (htb _ m_196) (fun _ h9 => h9) rfl dX0_has_6 ?_
    refine lv_icmp_ge (tgt := 16) hx hb dX0_has_9 (by decide) (fun c_2 => ?_) (fun c_2 => ?_)
    · refine lv_iconst (v := 0) hx hb dX0_has_16 (by decide) ?_
      refine W.widen (k := 0) (n := 0) (Nat.le_of_ble_eq_true rfl) (Nat.le_of_ble_eq_true rfl) ?_
      have hP9 := hP.sub (ws' := [(h0, .inr (0, [.ref c_parts, .ref c_strength, .ref c_drawnOn, .ref c_drawnIn, .ref c_sold, .ref c_looks, .int 0]))]) [0] rfl
      have hD9 := hD.sub (ws' := [(h0, .inr (0, [.ref c_parts, .ref c_strength, .ref c_drawnOn, .ref c_drawnIn, .ref c_sold, .ref c_looks, .int 0]))]) [0] (by decide) rfl
      have hK9 := hK.sub (tys' := []) [] rfl
      exact W.zret (ty := .boolean) (v := 0) hx hb hr rfl (fun t ht hW => ⟨⟨0, (), rfl, (rfl), ⟨by rw [ht]; exact hP9, va_K.moved hW.alike hK9, hD9⟩⟩, hS.F ht⟩) hS.2.2 dX0_has_17
    · refine lv_iconst (v := 1) hx hb dX0_has_12 (by decide) ?_
      refine lv_goto (tgt := 17) hx hb dX0_has_13 (by decide) ?_
      refine W.widen (k := 0) (n := 0) (Nat.le_of_ble_eq_true rfl) (Nat.le_of_ble_eq_true rfl) ?_
      have hP9 := hP.sub (ws' := [(h0, .inr (0, [.ref c_parts, .ref c_strength, .ref c_drawnOn, .ref c_drawnIn, .ref c_sold, .ref c_looks, .int 0]))]) [0] rfl
      have hD9 := hD.sub (ws' := [(h0, .inr (0, [.ref c_parts, .ref c_strength, .ref c_drawnOn, .ref c_drawnIn, .ref c_sold, .ref c_looks, .int 0]))]) [0] (by decide) rfl
      have hK9 := hK.sub (tys' := []) [] rfl
      exact False.elim (lf_X0_has_0 v1 c_1 c_2)

set_option maxHeartbeats 4000000 in
set_option maxRecDepth 100000 in
theorem kX1_init (l : Launch) (dC : Nat → ClassId) (dI : Nat → Nat → Nat) (sz : Nat) (h0 : Nat) : Met l yX1_init (Cond.code yX1_init cX1_init 1 none :: bg) ({ frames := 1, cells := 3, slots := 30, locals := 12 }) (pcW dC dI [.ref h0] sz [(h0, .inr (1, [.null, .null, .null]))] []) (va_Qv (fun (u : Unit) => True) (fun (u : Unit) (t : State) => ∃ (o_came : Nat) (o_coins : Nat) (o_rem : Nat) (k_came : ClassId) (k_coins : ClassId), va_P (dC, dI) vwCl [(h0, .inr (1, [.ref o_came, .ref o_coins, .ref o_rem])), (o_came, .inl (k_came, 10, .inl (fun _ => 0))), (o_coins, .inl (k_coins, 10, .inl (fun _ => 0)))] t.heap ∧ va_K (dC, dI) vwCl [(k_came, .int), (k_coins, .int)] t ∧ va_D (va_A [(h0, .inr (1, [.null, .null, .null]))] sz) [(h0, .inr (1, [.ref o_came, .ref o_coins, .ref o_rem])), (o_came, .inl (k_came, 10, .inl (fun _ => 0))), (o_coins, .inl (k_coins, 10, .inl (fun _ => 0)))]) (va_A [(h0, .inr (1, [.null, .null, .null]))] sz)) 3 30 (va_A [(h0, .inr (1, [.null, .null, .null]))] sz) := by
  refine Met.ofW (cc := cX1_init) (maxL := 1) (ret := none) pnX1 rfl ?_
  intro p e s m args below meth c s₁ B hml hv
  obtain ⟨rfl, hsz, hP, hK, hD0, hN⟩ := hv
  have hx := B.exec
  have hb := B.bytes
  have hr := B.returns
  have htb : ∀ w ∈ bg, w.before [.ref h0].toArray s = true := fun w h => atoms_spec (ws := Cond.code yX1_init cX1_init 1 none :: bg) B.pre w (List.mem_cons_of_mem _ h)
  have hown : s.vm.findClass RX1 = some m.cls := findClass_of_methodNamed B.named
  have hlocks := B.notSynchronized
  have hin : meth.name = "<init>" := (name_of_methodNamed B.named B.method).1
  subst hsz
  have hD := hD0.self (sz := s.heap.size)
  generalize hAe : va_A [(h0, .inr (1, [.null, .null, .null]))] s.heap.size = A at hD ⊢
  have hA : ∀ q : Nat, s.heap.size ≤ q → A q := fun q h => by rw [← hAe]; exact Or.inr h
  have hS : va_S A s.heap s.heap [] := va_S.rf
  have hl := lv_entry ([.ref h0]) (n := 1) (Nat.le_of_ble_eq_true rfl)
  rw [lg_entry_eq]
  generalize (lg_sl ([.ref h0]) ++ List.replicate (1 - (lg_sl ([.ref h0])).length) Slot.unset).toArray = ls at hl ⊢
  change lv_has ls 1 [(0, .ref h0)] at hl
  clear hD0 hAe
  refine go0 (wsP := fun H => va_P (dC, dI) vwCl [(h0, .inr (1, [.null, .null, .null]))] H) hP hS ?_
  clear hP hS; intro H locs hP hS
  change va_P (dC, dI) vwCl [(h0, .inr (1, [.null, .null, .null]))] H at hP
  refine lv_aload_n hx hb dX1_init_0 rfl (lv_at hl 0 rfl) ?_
  refine W.objInit hx hb hown (htb _ m_218) (htb _ m_26) (htb _ m_27) rfl (by rw [hml]; exact hl.1) rfl dX1_init_1 (Nat.le_of_ble_eq_true rfl) (Nat.le_of_ble_eq_true rfl) ?_
  refine W.eq (g2 := F0 m 4 ls []) rfl ?_
  refine lv_aload_n hx hb dX1_init_4 rfl (lv_at hl 0 rfl) ?_
  refine lv_bipush (v := 10) hx hb dX1_init_5 (by decide) ?_
  refine va_newa (atype := .int) (a0 := (10, .inl (fun _ => 0))) (N' := 10) (ty := .int) hx hb (htb _ m_63) rfl hK hP hD hS hA (fun _ => rfl) (by decide) (by decide) (Nat.le_of_ble_eq_true rfl) (Nat.le_of_ble_eq_true rfl) (Nat.le_of_ble_eq_true rfl) dX1_init_7 ?_
  clear hP hD hS hK; intro q_1 a_2 H hK hP hD hS
  change va_P (dC, dI) vwCl [(h0, .inr (1, [.null, .null, .null])), (q_1, .inl (a_2, 10, .inl (fun _ => 0)))] H at hP
  change va_D A [(h0, .inr (1, [.null, .null, .null])), (q_1, .inl (a_2, 10, .inl (fun _ => 0)))] at hD
  change va_K (dC, dI) vwCl [(a_2, .int)] s at hK
  refine W.widen (k := 1) (n := 10) (Nat.le_of_ble_eq_true rfl) (Nat.le_of_ble_eq_true rfl) ?_
  refine va_putF (D := (dC, dI)) (ci := 1) (v := .ref q_1) (C := RX1) (T := TX1) (N := 3) hx hb htb iX1 tyX1 tyX1_ok nmX1 hown hK hP hD hS 0 rfl rfl 0 (Nat.le_of_ble_eq_true rfl) (htb _ m_219) (fun _ h9 => h9) rfl hin rfl (tyX1_ok 0 (Nat.le_of_ble_eq_true rfl)) rfl rfl (Nat.le_of_ble_eq_true rfl) dX1_init_9 ?_
  clear hP hD hS; intro H locs hP hD hS
  change va_P (dC, dI) vwCl [(h0, .inr (1, [.ref q_1, .null, .null])), (q_1, .inl (a_2, 10, .inl (fun _ => 0)))] H at hP
  change va_D A [(h0, .inr (1, [.ref q_1, .null, .null])), (q_1, .inl (a_2, 10, .inl (fun _ => 0)))] at hD
  refine lv_aload_n hx hb dX1_init_12 rfl (lv_at hl 0 rfl) ?_
  refine lv_bipush (v := 10) hx hb dX1_init_13 (by decide) ?_
  refine va_newa (atype := .int) (a0 := (10, .inl (fun _ => 0))) (N' := 10) (ty := .int) hx hb (htb _ m_63) rfl hK hP hD hS hA (fun _ => rfl) (by decide) (by decide) (Nat.le_of_ble_eq_true rfl) (Nat.le_of_ble_eq_true rfl) (Nat.le_of_ble_eq_true rfl) dX1_init_15 ?_
  clear hP hD hS hK; intro q_3 a_4 H hK hP hD hS
  change va_P (dC, dI) vwCl [(h0, .inr (1, [.ref q_1, .null, .null])), (q_1, .inl (a_2, 10, .inl (fun _ => 0))), (q_3, .inl (a_4, 10, .inl (fun _ => 0)))] H at hP
  change va_D A [(h0, .inr (1, [.ref q_1, .null, .null])), (q_1, .inl (a_2, 10, .inl (fun _ => 0))), (q_3, .inl (a_4, 10, .inl (fun _ => 0)))] at hD
  change va_K (dC, dI) vwCl [(a_2, .int), (a_4, .int)] s at hK
  refine W.widen (k := 2) (n := 20) (Nat.le_of_ble_eq_true rfl) (Nat.le_of_ble_eq_true rfl) ?_
  refine va_putF (D := (dC, dI)) (ci := 1) (v := .ref q_3) (C := RX1) (T := TX1) (N := 3) hx hb htb iX1 tyX1 tyX1_ok nmX1 hown hK hP hD hS 0 rfl rfl 1 (Nat.le_of_ble_eq_true rfl) (htb _ m_220) (fun _ h9 => h9) rfl hin rfl (tyX1_ok 1 (Nat.le_of_ble_eq_true rfl)) rfl rfl (Nat.le_of_ble_eq_true rfl) dX1_init_17 ?_
  clear hP hD hS; intro H locs hP hD hS
  change va_P (dC, dI) vwCl [(h0, .inr (1, [.ref q_1, .ref q_3, .null])), (q_1, .inl (a_2, 10, .inl (fun _ => 0))), (q_3, .inl (a_4, 10, .inl (fun _ => 0)))] H at hP
  change va_D A [(h0, .inr (1, [.ref q_1, .ref q_3, .null])), (q_1, .inl (a_2, 10, .inl (fun _ => 0))), (q_3, .inl (a_4, 10, .inl (fun _ => 0)))] at hD
  refine lv_aload_n hx hb dX1_init_20 rfl (lv_at hl 0 rfl) ?_
  refine lv_bipush (v := 10) hx hb dX1_init_21 (by decide) ?_
  refine va_newa (atype := .long) (a0 := (10, .inr (.inl (fun _ => 0)))) (N' := 10) (ty := .long) hx hb (htb _ m_229) rfl hK hP hD hS hA (fun _ => rfl) (by decide) (by decide) (Nat.le_of_ble_eq_true rfl) (Nat.le_of_ble_eq_true rfl) (Nat.le_of_ble_eq_true rfl) dX1_init_23 ?_
  clear hP hD hS hK; intro q_5 a_6 H hK hP hD hS
  change va_P (dC, dI) vwCl [(h0, .inr (1, [.ref q_1, .ref q_3, .null])), (q_1, .inl (a_2, 10, .inl (fun _ => 0))), (q_3, .inl (a_4, 10, .inl (fun _ => 0))), (q_5, .inl (a_6, 10, .inr (.inl (fun _ => 0))))] H at hP
  change va_D A [(h0, .inr (1, [.ref q_1, .ref q_3, .null])), (q_1, .inl (a_2, 10, .inl (fun _ => 0))), (q_3, .inl (a_4, 10, .inl (fun _ => 0))), (q_5, .inl (a_6, 10, .inr (.inl (fun _ => 0))))] at hD
  change va_K (dC, dI) vwCl [(a_2, .int), (a_4, .int), (a_6, .long)] s at hK
  refine W.widen (k := 3) (n := 30) (Nat.le_of_ble_eq_true rfl) (Nat.le_of_ble_eq_true rfl) ?_
  refine va_putF (D := (dC, dI)) (ci := 1) (v := .ref q_5) (C := RX1) (T := TX1) (N := 3) hx hb htb iX1 tyX1 tyX1_ok nmX1 hown hK hP hD hS 0 rfl rfl 2 (Nat.le_of_ble_eq_true rfl) (htb _ m_221) (fun _ h9 => h9) rfl hin rfl (tyX1_ok 2 (Nat.le_of_ble_eq_true rfl)) rfl rfl (Nat.le_of_ble_eq_true rfl) dX1_init_25 ?_
  clear hP hD hS; intro H locs hP hD hS
  change va_P (dC, dI) vwCl [(h0, .inr (1, [.ref q_1, .ref q_3, .ref q_5])), (q_1, .inl (a_2, 10, .inl (fun _ => 0))), (q_3, .inl (a_4, 10, .inl (fun _ => 0))), (q_5, .inl (a_6, 10, .inr (.inl (fun _ => 0))))] H at hP
  change va_D A [(h0, .inr (1, [.ref q_1, .ref q_3, .ref q_5])), (q_1, .inl (a_2, 10, .inl (fun _ => 0))), (q_3, .inl (a_4, 10, .inl (fun _ => 0))), (q_5, .inl (a_6, 10, .inr (.inl (fun _ => 0))))] at hD
  refine W.widen (k := 3) (n := 30) (Nat.le_of_ble_eq_true rfl) (Nat.le_of_ble_eq_true rfl) ?_
  have hP9 := hP.sub (ws' := [(h0, .inr (1, [.ref q_1, .ref q_3, .ref q_5])), (q_1, .inl (a_2, 10, .inl (fun _ => 0))), (q_3, .inl (a_4, 10, .inl (fun _ => 0)))]) [0, 1, 2] rfl
  have hD9 := hD.sub (ws' := [(h0, .inr (1, [.ref q_1, .ref q_3, .ref q_5])), (q_1, .inl (a_2, 10, .inl (fun _ => 0))), (q_3, .inl (a_4, 10, .inl (fun _ => 0)))]) [0, 1, 2] (by decide) rfl
  have hK9 := hK.sub (tys' := [(a_2, .int), (a_4, .int)]) [0, 1] rfl
  exact W.vret hx hb hr (fun t ht hW => ⟨⟨(), rfl, trivial, ⟨q_1, q_3, q_5, a_2, a_4, by rw [ht]; exact hP9, va_K.moved hW.alike hK9, hD9⟩⟩, hS.F ht⟩) hS.2.2 dX1_init_28

set_option maxHeartbeats 4000000 in
set_option maxRecDepth 100000 in
theorem kX1_forgetYear (l : Launch) (dC : Nat → ClassId) (dI : Nat → Nat → Nat) (sz : Nat) (h0 : Nat) (o_came : Nat) (o_coins : Nat) (o_rem : Nat) (k_came : ClassId) : Met l yX1_forgetYear (Cond.code yX1_forgetYear cX1_forgetYear 1 none :: bg) ({ frames := 1, cells := 0, slots := 0, locals := 23 }) (pcW dC dI [.ref h0] sz [(h0, .inr (1, [.ref o_came, .ref o_coins, .ref o_rem])), (o_came, .inl (k_came, 10, .inl (fun _ => 0)))] [(k_came, .int)]) (va_Qv (fun (u : Unit) => True) (fun (u : Unit) (t : State) => True) (va_A [(h0, .inr (1, [.ref o_came, .ref o_coins, .ref o_rem])), (o_came, .inl (k_came, 10, .inl (fun _ => 0)))] sz)) 0 0 (va_A [(h0, .inr (1, [.ref o_came, .ref o_coins, .ref o_rem])), (o_came, .inl (k_came, 10, .inl (fun _ => 0)))] sz) := by
  refine Met.ofW (cc := cX1_forgetYear) (maxL := 1) (ret := none) pnX1 rfl ?_
  intro p e s m args below meth c s₁ B hml hv
  obtain ⟨rfl, hsz, hP, hK, hD0, hN⟩ := hv
  have hx := B.exec
  have hb := B.bytes
  have hr := B.returns
  have htb : ∀ w ∈ bg, w.before [.ref h0].toArray s = true := fun w h => atoms_spec (ws := Cond.code yX1_forgetYear cX1_forgetYear 1 none :: bg) B.pre w (List.mem_cons_of_mem _ h)
  have hown : s.vm.findClass RX1 = some m.cls := findClass_of_methodNamed B.named
  have hlocks := B.notSynchronized
  subst hsz
  have hD := hD0.self (sz := s.heap.size)
  generalize hAe : va_A [(h0, .inr (1, [.ref o_came, .ref o_coins, .ref o_rem])), (o_came, .inl (k_came, 10, .inl (fun _ => 0)))] s.heap.size = A at hD ⊢
  have hA : ∀ q : Nat, s.heap.size ≤ q → A q := fun q h => by rw [← hAe]; exact Or.inr h
  have hS : va_S A s.heap s.heap [] := va_S.rf
  have hl := lv_entry ([.ref h0]) (n := 1) (Nat.le_of_ble_eq_true rfl)
  rw [lg_entry_eq]
  generalize (lg_sl ([.ref h0]) ++ List.replicate (1 - (lg_sl ([.ref h0])).length) Slot.unset).toArray = ls at hl ⊢
  change lv_has ls 1 [(0, .ref h0)] at hl
  clear hD0 hAe
  refine go0 (wsP := fun H => va_P (dC, dI) vwCl [(h0, .inr (1, [.ref o_came, .ref o_coins, .ref o_rem])), (o_came, .inl (k_came, 10, .inl (fun _ => 0)))] H) hP hS ?_
  clear hP hS; intro H locs hP hS
  change va_P (dC, dI) vwCl [(h0, .inr (1, [.ref o_came, .ref o_coins, .ref o_rem])), (o_came, .inl (k_came, 10, .inl (fun _ => 0)))] H at hP
  refine lv_aload_n hx hb dX1_forgetYear_0 rfl (lv_at hl 0 rfl) ?_
  refine va_get (D := (dC, dI)) (ci := 1) (v := .ref o_came) (C := RX1) (T := TX1) (N := 3) hx hb htb iX1 hown hK hP 0 rfl rfl 0 (Nat.le_of_ble_eq_true rfl) (htb _ m_219) (fun _ h9 => h9) rfl dX1_forgetYear_1 ?_
  refine lv_iconst (v := 0) hx hb dX1_forgetYear_4 (by decide) ?_
  have hPc := hP.sub (ws' := [(o_came, .inl (k_came, 10, .inl (fun _ => 0)))]) [1] rfl
  have hDc := hD.sub (ws' := [(o_came, .inl (k_came, 10, .inl (fun _ => 0)))]) [1] (by decide) rfl
  have hKc := hK.sub (tys' := [(k_came, .int)]) [0] rfl
  have hFc := va_free (wc := [(o_came, .inl (k_came, 10, .inl (fun _ => 0)))]) hD hS hA [1] rfl
  refine va_callv (va_runS (As := [.ref o_came, .int 0]) (rest := []) ⟨hx, hb, hml, hown, htb⟩ (kJ7_fill_53178 l dC dI H.size o_came k_came 10 (fun _ => 0) 0 (by decide)) ⟨callB_of 2 htb (gd_c m_576) rfl rfl rfl (htb _ m_15) (htb _ m_581) hdJ7_fill_53178 ⟨(Nat.le_of_ble_eq_true rfl), (Nat.le_of_ble_eq_true rfl)⟩, htb _ m_575⟩ ⟨pcW_blind, pcW_at hPc hKc hDc hN⟩ rfl rfl hl.1 rfl (lv_room (Nat.le_of_ble_eq_true rfl)) dX1_forgetYear_5 ⟨(Nat.le_of_ble_eq_true rfl), (Nat.le_of_ble_eq_true rfl)⟩) hS (fun q _ h => hFc q h) hFc (fun u t H1 locs1 ht hvm h_2 hB hz1 hk1 hS1 => ?_)
  obtain ⟨hPn, hDn⟩ := va_join (wr := [(h0, .inr (1, [.ref o_came, .ref o_coins, .ref o_rem]))]) (w1 := []) hP hD [1] [0] rfl rfl (by decide) (by decide) hk1 hFc nilP nilD
  clear hP hD hS hPc hDc hKc hFc hk1 hz1 ht hvm hB
  clear t
  revert hS1 hPn hDn; generalize H1 = H; generalize locs1 = locs; intro hS hP hD
  change va_P (dC, dI) vwCl [(h0, .inr (1, [.ref o_came, .ref o_coins, .ref o_rem]))] H at hP
  change va_D A [(h0, .inr (1, [.ref o_came, .ref o_coins, .ref o_rem]))] at hD
  refine W.widen (k := 0) (n := 0) (Nat.le_of_ble_eq_true rfl) (Nat.le_of_ble_eq_true rfl) ?_
  exact W.vret hx hb hr (fun t ht hW => ⟨⟨(), rfl, trivial, trivial⟩, hS.F ht⟩) hS.2.2 dX1_forgetYear_8

set_option maxHeartbeats 4000000 in
set_option maxRecDepth 100000 in
theorem kX1_cameTogether (l : Launch) (dC : Nat → ClassId) (dI : Nat → Nat → Nat) (sz : Nat) (h0 : Nat) (o_came : Nat) (o_coins : Nat) (o_rem : Nat) (k_came : ClassId) : Met l yX1_cameTogether (Cond.code yX1_cameTogether cX1_cameTogether 3 (some .int) :: bg) ({ frames := 0, cells := 0, slots := 0, locals := 0 }) (pcW dC dI [.ref h0] sz [(h0, .inr (1, [.ref o_came, .ref o_coins, .ref o_rem])), (o_came, .inl (k_came, 10, .inl (fun _ => 0)))] [(k_came, .int)]) (va_Qi (fun (r : Int32) (u : Unit) => r = 0) (fun (u : Unit) (t : State) => True) (va_A [(h0, .inr (1, [.ref o_came, .ref o_coins, .ref o_rem])), (o_came, .inl (k_came, 10, .inl (fun _ => 0)))] sz)) 0 0 (va_A [(h0, .inr (1, [.ref o_came, .ref o_coins, .ref o_rem])), (o_came, .inl (k_came, 10, .inl (fun _ => 0)))] sz) := by
  refine Met.ofW (cc := cX1_cameTogether) (maxL := 3) (ret := (some .int)) pnX1 rfl ?_
  intro p e s m args below meth c s₁ B hml hv
  obtain ⟨rfl, hsz, hP, hK, hD0, hN⟩ := hv
  have hx := B.exec
  have hb := B.bytes
  have hr := B.returns
  have htb : ∀ w ∈ bg, w.before [.ref h0].toArray s = true := fun w h => atoms_spec (ws := Cond.code yX1_cameTogether cX1_cameTogether 3 (some .int) :: bg) B.pre w (List.mem_cons_of_mem _ h)
  have hown : s.vm.findClass RX1 = some m.cls := findClass_of_methodNamed B.named
  have hlocks := B.notSynchronized
  subst hsz
  have hD := hD0.self (sz := s.heap.size)
  generalize hAe : va_A [(h0, .inr (1, [.ref o_came, .ref o_coins, .ref o_rem])), (o_came, .inl (k_came, 10, .inl (fun _ => 0)))] s.heap.size = A at hD ⊢
  have hA : ∀ q : Nat, s.heap.size ≤ q → A q := fun q h => by rw [← hAe]; exact Or.inr h
  have hS : va_S A s.heap s.heap [] := va_S.rf
  have hl := lv_entry ([.ref h0]) (n := 3) (Nat.le_of_ble_eq_true rfl)
  rw [lg_entry_eq]
  generalize (lg_sl ([.ref h0]) ++ List.replicate (3 - (lg_sl ([.ref h0])).length) Slot.unset).toArray = ls at hl ⊢
  change lv_has ls 3 [(0, .ref h0)] at hl
  clear hD0 hAe
  refine go0 (wsP := fun H => va_P (dC, dI) vwCl [(h0, .inr (1, [.ref o_came, .ref o_coins, .ref o_rem])), (o_came, .inl (k_came, 10, .inl (fun _ => 0)))] H) hP hS ?_
  clear hP hS; intro H locs hP hS
  change va_P (dC, dI) vwCl [(h0, .inr (1, [.ref o_came, .ref o_coins, .ref o_rem])), (o_came, .inl (k_came, 10, .inl (fun _ => 0)))] H at hP
  refine lv_iconst (v := 0) hx hb dX1_cameTogether_0 (by decide) ?_
  refine lv_istore_n (lv' := [(1, .int 0), (0, .ref h0)]) hx hb dX1_cameTogether_1 rfl hl (by decide) rfl ?_
  clear hl; intro ls hl
  refine lv_iconst (v := 0) hx hb dX1_cameTogether_2 (by decide) ?_
  refine lv_istore_n (lv' := [(2, .int 0), (1, .int 0), (0, .ref h0)]) hx hb dX1_cameTogether_3 rfl hl (by decide) rfl ?_
  clear hl; intro ls hl
  refine lv_iload_n hx hb dX1_cameTogether_4 rfl (lv_at hl 0 rfl) ?_
  refine lv_bipush (v := 10) hx hb dX1_cameTogether_5 (by decide) ?_
  refine lv_icmp_ge (tgt := 25) hx hb dX1_cameTogether_7 (by decide) (fun c_1 => absurd c_1 (by decide)) ?_
  intro _
  refine lv_iload_n hx hb dX1_cameTogether_10 rfl (lv_at hl 1 rfl) ?_
  refine lv_aload_n hx hb dX1_cameTogether_11 rfl (lv_at hl 2 rfl) ?_
  refine va_get (D := (dC, dI)) (ci := 1) (v := .ref o_came) (C := RX1) (T := TX1) (N := 3) hx hb htb iX1 hown hK hP 0 rfl rfl 0 (Nat.le_of_ble_eq_true rfl) (htb _ m_219) (fun _ h9 => h9) rfl dX1_cameTogether_12 ?_
  refine lv_iload_n hx hb dX1_cameTogether_15 rfl (lv_at hl 0 rfl) ?_
  refine va_iald hx hb hK hP 1 0 rfl rfl (by unfold vp_in; decide) dX1_cameTogether_16 ?_
  refine lv_tope (y := 0) rfl ?_
  refine lv_iadd hx hb dX1_cameTogether_17 ?_
  refine lv_tope (y := 0) (by decide) ?_
  refine lv_istore_n (lv' := [(1, .int 0), (2, .int 0), (0, .ref h0)]) hx hb dX1_cameTogether_18 rfl hl (by decide) rfl ?_
  clear hl; intro ls hl
  refine lv_iinc (v := 1) (lv' := [(2, .int 1), (1, .int 0), (0, .ref h0)]) hx hb dX1_cameTogether_19 hl (k := 1) rfl (by decide) (by decide) rfl ?_
  clear hl; intro ls hl
  refine lv_goto (tgt := 4) hx hb dX1_cameTogether_22 (by decide) ?_
  refine lv_iload_n hx hb dX1_cameTogether_4 rfl (lv_at hl 0 rfl) ?_
  refine lv_bipush (v := 10) hx hb dX1_cameTogether_5 (by decide) ?_
  refine lv_icmp_ge (tgt := 25) hx hb dX1_cameTogether_7 (by decide) (fun c_2 => absurd c_2 (by decide)) ?_
  intro _
  refine lv_iload_n hx hb dX1_cameTogether_10 rfl (lv_at hl 1 rfl) ?_
  refine lv_aload_n hx hb dX1_cameTogether_11 rfl (lv_at hl 2 rfl) ?_
  refine va_get (D := (dC, dI)) (ci := 1) (v := .ref o_came) (C := RX1) (T := TX1) (N := 3) hx hb htb iX1 hown hK hP 0 rfl rfl 0 (Nat.le_of_ble_eq_true rfl) (htb _ m_219) (fun _ h9 => h9) rfl dX1_cameTogether_12 ?_
  refine lv_iload_n hx hb dX1_cameTogether_15 rfl (lv_at hl 0 rfl) ?_
  refine va_iald hx hb hK hP 1 0 rfl rfl (by unfold vp_in; decide) dX1_cameTogether_16 ?_
  refine lv_tope (y := 0) rfl ?_
  refine lv_iadd hx hb dX1_cameTogether_17 ?_
  refine lv_tope (y := 0) (by decide) ?_
  refine lv_istore_n (lv' := [(1, .int 0), (2, .int 1), (0, .ref h0)]) hx hb dX1_cameTogether_18 rfl hl (by decide) rfl ?_
  clear hl; intro ls hl
  refine lv_iinc (v := 2) (lv' := [(2, .int 2), (1, .int 0), (0, .ref h0)]) hx hb dX1_cameTogether_19 hl (k := 1) rfl (by decide) (by decide) rfl ?_
  clear hl; intro ls hl
  refine lv_goto (tgt := 4) hx hb dX1_cameTogether_22 (by decide) ?_
  refine lv_iload_n hx hb dX1_cameTogether_4 rfl (lv_at hl 0 rfl) ?_
  refine lv_bipush (v := 10) hx hb dX1_cameTogether_5 (by decide) ?_
  refine lv_icmp_ge (tgt := 25) hx hb dX1_cameTogether_7 (by decide) (fun c_3 => absurd c_3 (by decide)) ?_
  intro _
  refine lv_iload_n hx hb dX1_cameTogether_10 rfl (lv_at hl 1 rfl) ?_
  refine lv_aload_n hx hb dX1_cameTogether_11 rfl (lv_at hl 2 rfl) ?_
  refine va_get (D := (dC, dI)) (ci := 1) (v := .ref o_came) (C := RX1) (T := TX1) (N := 3) hx hb htb iX1 hown hK hP 0 rfl rfl 0 (Nat.le_of_ble_eq_true rfl) (htb _ m_219) (fun _ h9 => h9) rfl dX1_cameTogether_12 ?_
  refine lv_iload_n hx hb dX1_cameTogether_15 rfl (lv_at hl 0 rfl) ?_
  refine va_iald hx hb hK hP 1 0 rfl rfl (by unfold vp_in; decide) dX1_cameTogether_16 ?_
  refine lv_tope (y := 0) rfl ?_
  refine lv_iadd hx hb dX1_cameTogether_17 ?_
  refine lv_tope (y := 0) (by decide) ?_
  refine lv_istore_n (lv' := [(1, .int 0), (2, .int 2), (0, .ref h0)]) hx hb dX1_cameTogether_18 rfl hl (by decide) rfl ?_
  clear hl; intro ls hl
  refine lv_iinc (v := 3) (lv' := [(2, .int 3), (1, .int 0), (0, .ref h0)]) hx hb dX1_cameTogether_19 hl (k := 1) rfl (by decide) (by decide) rfl ?_
  clear hl; intro ls hl
  refine lv_goto (tgt := 4) hx hb dX1_cameTogether_22 (by decide) ?_
  refine lv_iload_n hx hb dX1_cameTogether_4 rfl (lv_at hl 0 rfl) ?_
  refine lv_bipush (v := 10) hx hb dX1_cameTogether_5 (by decide) ?_
  refine lv_icmp_ge (tgt := 25) hx hb dX1_cameTogether_7 (by decide) (fun c_4 => absurd c_4 (by decide)) ?_
  intro _
  refine lv_iload_n hx hb dX1_cameTogether_10 rfl (lv_at hl 1 rfl) ?_
  refine lv_aload_n hx hb dX1_cameTogether_11 rfl (lv_at hl 2 rfl) ?_
  refine va_get (D := (dC, dI)) (ci := 1) (v := .ref o_came) (C := RX1) (T := TX1) (N := 3) hx hb htb iX1 hown hK hP 0 rfl rfl 0 (Nat.le_of_ble_eq_true rfl) (htb _ m_219) (fun _ h9 => h9) rfl dX1_cameTogether_12 ?_
  refine lv_iload_n hx hb dX1_cameTogether_15 rfl (lv_at hl 0 rfl) ?_
  refine va_iald hx hb hK hP 1 0 rfl rfl (by unfold vp_in; decide) dX1_cameTogether_16 ?_
  refine lv_tope (y := 0) rfl ?_
  refine lv_iadd hx hb dX1_cameTogether_17 ?_
  refine lv_tope (y := 0) (by decide) ?_
  refine lv_istore_n (lv' := [(1, .int 0), (2, .int 3), (0, .ref h0)]) hx hb dX1_cameTogether_18 rfl hl (by decide) rfl ?_
  clear hl; intro ls hl
  refine lv_iinc (v := 4) (lv' := [(2, .int 4), (1, .int 0), (0, .ref h0)]) hx hb dX1_cameTogether_19 hl (k := 1) rfl (by decide) (by decide) rfl ?_
  clear hl; intro ls hl
  refine lv_goto (tgt := 4) hx hb dX1_cameTogether_22 (by decide) ?_
  refine lv_iload_n hx hb dX1_cameTogether_4 rfl (lv_at hl 0 rfl) ?_
  refine lv_bipush (v := 10) hx hb dX1_cameTogether_5 (by decide) ?_
  refine lv_icmp_ge (tgt := 25) hx hb dX1_cameTogether_7 (by decide) (fun c_5 => absurd c_5 (by decide)) ?_
  intro _
  refine lv_iload_n hx hb dX1_cameTogether_10 rfl (lv_at hl 1 rfl) ?_
  refine lv_aload_n hx hb dX1_cameTogether_11 rfl (lv_at hl 2 rfl) ?_
  refine va_get (D := (dC, dI)) (ci := 1) (v := .ref o_came) (C := RX1) (T := TX1) (N := 3) hx hb htb iX1 hown hK hP 0 rfl rfl 0 (Nat.le_of_ble_eq_true rfl) (htb _ m_219) (fun _ h9 => h9) rfl dX1_cameTogether_12 ?_
  refine lv_iload_n hx hb dX1_cameTogether_15 rfl (lv_at hl 0 rfl) ?_
  refine va_iald hx hb hK hP 1 0 rfl rfl (by unfold vp_in; decide) dX1_cameTogether_16 ?_
  refine lv_tope (y := 0) rfl ?_
  refine lv_iadd hx hb dX1_cameTogether_17 ?_
  refine lv_tope (y := 0) (by decide) ?_
  refine lv_istore_n (lv' := [(1, .int 0), (2, .int 4), (0, .ref h0)]) hx hb dX1_cameTogether_18 rfl hl (by decide) rfl ?_
  clear hl; intro ls hl
  refine lv_iinc (v := 5) (lv' := [(2, .int 5), (1, .int 0), (0, .ref h0)]) hx hb dX1_cameTogether_19 hl (k := 1) rfl (by decide) (by decide) rfl ?_
  clear hl; intro ls hl
  refine lv_goto (tgt := 4) hx hb dX1_cameTogether_22 (by decide) ?_
  refine lv_iload_n hx hb dX1_cameTogether_4 rfl (lv_at hl 0 rfl) ?_
  refine lv_bipush (v := 10) hx hb dX1_cameTogether_5 (by decide) ?_
  refine lv_icmp_ge (tgt := 25) hx hb dX1_cameTogether_7 (by decide) (fun c_6 => absurd c_6 (by decide)) ?_
  intro _
  refine lv_iload_n hx hb dX1_cameTogether_10 rfl (lv_at hl 1 rfl) ?_
  refine lv_aload_n hx hb dX1_cameTogether_11 rfl (lv_at hl 2 rfl) ?_
  refine va_get (D := (dC, dI)) (ci := 1) (v := .ref o_came) (C := RX1) (T := TX1) (N := 3) hx hb htb iX1 hown hK hP 0 rfl rfl 0 (Nat.le_of_ble_eq_true rfl) (htb _ m_219) (fun _ h9 => h9) rfl dX1_cameTogether_12 ?_
  refine lv_iload_n hx hb dX1_cameTogether_15 rfl (lv_at hl 0 rfl) ?_
  refine va_iald hx hb hK hP 1 0 rfl rfl (by unfold vp_in; decide) dX1_cameTogether_16 ?_
  refine lv_tope (y := 0) rfl ?_
  refine lv_iadd hx hb dX1_cameTogether_17 ?_
  refine lv_tope (y := 0) (by decide) ?_
  refine lv_istore_n (lv' := [(1, .int 0), (2, .int 5), (0, .ref h0)]) hx hb dX1_cameTogether_18 rfl hl (by decide) rfl ?_
  clear hl; intro ls hl
  refine lv_iinc (v := 6) (lv' := [(2, .int 6), (1, .int 0), (0, .ref h0)]) hx hb dX1_cameTogether_19 hl (k := 1) rfl (by decide) (by decide) rfl ?_
  clear hl; intro ls hl
  refine lv_goto (tgt := 4) hx hb dX1_cameTogether_22 (by decide) ?_
  refine lv_iload_n hx hb dX1_cameTogether_4 rfl (lv_at hl 0 rfl) ?_
  refine lv_bipush (v := 10) hx hb dX1_cameTogether_5 (by decide) ?_
  refine lv_icmp_ge (tgt := 25) hx hb dX1_cameTogether_7 (by decide) (fun c_7 => absurd c_7 (by decide)) ?_
  intro _
  refine lv_iload_n hx hb dX1_cameTogether_10 rfl (lv_at hl 1 rfl) ?_
  refine lv_aload_n hx hb dX1_cameTogether_11 rfl (lv_at hl 2 rfl) ?_
  refine va_get (D := (dC, dI)) (ci := 1) (v := .ref o_came) (C := RX1) (T := TX1) (N := 3) hx hb htb iX1 hown hK hP 0 rfl rfl 0 (Nat.le_of_ble_eq_true rfl) (htb _ m_219) (fun _ h9 => h9) rfl dX1_cameTogether_12 ?_
  refine lv_iload_n hx hb dX1_cameTogether_15 rfl (lv_at hl 0 rfl) ?_
  refine va_iald hx hb hK hP 1 0 rfl rfl (by unfold vp_in; decide) dX1_cameTogether_16 ?_
  refine lv_tope (y := 0) rfl ?_
  refine lv_iadd hx hb dX1_cameTogether_17 ?_
  refine lv_tope (y := 0) (by decide) ?_
  refine lv_istore_n (lv' := [(1, .int 0), (2, .int 6), (0, .ref h0)]) hx hb dX1_cameTogether_18 rfl hl (by decide) rfl ?_
  clear hl; intro ls hl
  refine lv_iinc (v := 7) (lv' := [(2, .int 7), (1, .int 0), (0, .ref h0)]) hx hb dX1_cameTogether_19 hl (k := 1) rfl (by decide) (by decide) rfl ?_
  clear hl; intro ls hl
  refine lv_goto (tgt := 4) hx hb dX1_cameTogether_22 (by decide) ?_
  refine lv_iload_n hx hb dX1_cameTogether_4 rfl (lv_at hl 0 rfl) ?_
  refine lv_bipush (v := 10) hx hb dX1_cameTogether_5 (by decide) ?_
  refine lv_icmp_ge (tgt := 25) hx hb dX1_cameTogether_7 (by decide) (fun c_8 => absurd c_8 (by decide)) ?_
  intro _
  refine lv_iload_n hx hb dX1_cameTogether_10 rfl (lv_at hl 1 rfl) ?_
  refine lv_aload_n hx hb dX1_cameTogether_11 rfl (lv_at hl 2 rfl) ?_
  refine va_get (D := (dC, dI)) (ci := 1) (v := .ref o_came) (C := RX1) (T := TX1) (N := 3) hx hb htb iX1 hown hK hP 0 rfl rfl 0 (Nat.le_of_ble_eq_true rfl) (htb _ m_219) (fun _ h9 => h9) rfl dX1_cameTogether_12 ?_
  refine lv_iload_n hx hb dX1_cameTogether_15 rfl (lv_at hl 0 rfl) ?_
  refine va_iald hx hb hK hP 1 0 rfl rfl (by unfold vp_in; decide) dX1_cameTogether_16 ?_
  refine lv_tope (y := 0) rfl ?_
  refine lv_iadd hx hb dX1_cameTogether_17 ?_
  refine lv_tope (y := 0) (by decide) ?_
  refine lv_istore_n (lv' := [(1, .int 0), (2, .int 7), (0, .ref h0)]) hx hb dX1_cameTogether_18 rfl hl (by decide) rfl ?_
  clear hl; intro ls hl
  refine lv_iinc (v := 8) (lv' := [(2, .int 8), (1, .int 0), (0, .ref h0)]) hx hb dX1_cameTogether_19 hl (k := 1) rfl (by decide) (by decide) rfl ?_
  clear hl; intro ls hl
  refine lv_goto (tgt := 4) hx hb dX1_cameTogether_22 (by decide) ?_
  refine lv_iload_n hx hb dX1_cameTogether_4 rfl (lv_at hl 0 rfl) ?_
  refine lv_bipush (v := 10) hx hb dX1_cameTogether_5 (by decide) ?_
  refine lv_icmp_ge (tgt := 25) hx hb dX1_cameTogether_7 (by decide) (fun c_9 => absurd c_9 (by decide)) ?_
  intro _
  refine lv_iload_n hx hb dX1_cameTogether_10 rfl (lv_at hl 1 rfl) ?_
  refine lv_aload_n hx hb dX1_cameTogether_11 rfl (lv_at hl 2 rfl) ?_
  refine va_get (D := (dC, dI)) (ci := 1) (v := .ref o_came) (C := RX1) (T := TX1) (N := 3) hx hb htb iX1 hown hK hP 0 rfl rfl 0 (Nat.le_of_ble_eq_true rfl) (htb _ m_219) (fun _ h9 => h9) rfl dX1_cameTogether_12 ?_
  refine lv_iload_n hx hb dX1_cameTogether_15 rfl (lv_at hl 0 rfl) ?_
  refine va_iald hx hb hK hP 1 0 rfl rfl (by unfold vp_in; decide) dX1_cameTogether_16 ?_
  refine lv_tope (y := 0) rfl ?_
  refine lv_iadd hx hb dX1_cameTogether_17 ?_
  refine lv_tope (y := 0) (by decide) ?_
  refine lv_istore_n (lv' := [(1, .int 0), (2, .int 8), (0, .ref h0)]) hx hb dX1_cameTogether_18 rfl hl (by decide) rfl ?_
  clear hl; intro ls hl
  refine lv_iinc (v := 9) (lv' := [(2, .int 9), (1, .int 0), (0, .ref h0)]) hx hb dX1_cameTogether_19 hl (k := 1) rfl (by decide) (by decide) rfl ?_
  clear hl; intro ls hl
  refine lv_goto (tgt := 4) hx hb dX1_cameTogether_22 (by decide) ?_
  refine lv_iload_n hx hb dX1_cameTogether_4 rfl (lv_at hl 0 rfl) ?_
  refine lv_bipush (v := 10) hx hb dX1_cameTogether_5 (by decide) ?_
  refine lv_icmp_ge (tgt := 25) hx hb dX1_cameTogether_7 (by decide) (fun c_10 => absurd c_10 (by decide)) ?_
  intro _
  refine lv_iload_n hx hb dX1_cameTogether_10 rfl (lv_at hl 1 rfl) ?_
  refine lv_aload_n hx hb dX1_cameTogether_11 rfl (lv_at hl 2 rfl) ?_
  refine va_get (D := (dC, dI)) (ci := 1) (v := .ref o_came) (C := RX1) (T := TX1) (N := 3) hx hb htb iX1 hown hK hP 0 rfl rfl 0 (Nat.le_of_ble_eq_true rfl) (htb _ m_219) (fun _ h9 => h9) rfl dX1_cameTogether_12 ?_
  refine lv_iload_n hx hb dX1_cameTogether_15 rfl (lv_at hl 0 rfl) ?_
  refine va_iald hx hb hK hP 1 0 rfl rfl (by unfold vp_in; decide) dX1_cameTogether_16 ?_
  refine lv_tope (y := 0) rfl ?_
  refine lv_iadd hx hb dX1_cameTogether_17 ?_
  refine lv_tope (y := 0) (by decide) ?_
  refine lv_istore_n (lv' := [(1, .int 0), (2, .int 9), (0, .ref h0)]) hx hb dX1_cameTogether_18 rfl hl (by decide) rfl ?_
  clear hl; intro ls hl
  refine lv_iinc (v := 10) (lv' := [(2, .int 10), (1, .int 0), (0, .ref h0)]) hx hb dX1_cameTogether_19 hl (k := 1) rfl (by decide) (by decide) rfl ?_
  clear hl; intro ls hl
  refine lv_goto (tgt := 4) hx hb dX1_cameTogether_22 (by decide) ?_
  refine lv_iload_n hx hb dX1_cameTogether_4 rfl (lv_at hl 0 rfl) ?_
  refine lv_bipush (v := 10) hx hb dX1_cameTogether_5 (by decide) ?_
  refine lv_icmp_ge (tgt := 25) hx hb dX1_cameTogether_7 (by decide) ?_ (fun c_11 => absurd (by decide) c_11)
  intro _
  refine lv_iload_n hx hb dX1_cameTogether_25 rfl (lv_at hl 1 rfl) ?_
  refine W.widen (k := 0) (n := 0) (Nat.le_of_ble_eq_true rfl) (Nat.le_of_ble_eq_true rfl) ?_
  exact W.iret (v := 0) hx hb hr (fun t ht hW => ⟨⟨0, (), rfl, (rfl), trivial⟩, hS.F ht⟩) hS.2.2 dX1_cameTogether_26

theorem lf_X1_tell_0 (v1 : Int32) (v2 : Int32) (h_2 : 0 ≤ v1 ∧ v1 ≤ 9) (e_4 : v2 = 0) : 0 = sp_member v1 v2 := by
  first | (simp_all [sp_member]; done) | grind [sp_member]
theorem lf_X1_tell_1 (v1 : Int32) (v2 : Int32) (h_2 : 0 ≤ v1 ∧ v1 ≤ 9) (e_4 : ¬ v2 = 0) (e_5 : v2 = 1) : 0 = sp_member v1 v2 := by
  first | (simp_all [sp_member]; done) | grind [sp_member]
theorem lf_X1_tell_2 (v1 : Int32) (v2 : Int32) (h_2 : 0 ≤ v1 ∧ v1 ≤ 9) (e_4 : ¬ v2 = 0) (e_5 : ¬ v2 = 1) : (-1) = sp_member v1 v2 := by
  first | (simp_all [sp_member]; done) | grind [sp_member]
theorem lf_X1_tell_3 (v1 : Int32) (v2 : Int32) (h_2 : ¬ (0 ≤ v1 ∧ v1 ≤ 9)) : (-1) = sp_member v1 v2 := by
  first | (simp_all [sp_member]; done) | grind [sp_member]
set_option maxHeartbeats 4000000 in
set_option maxRecDepth 100000 in
theorem kX1_tell (l : Launch) (dC : Nat → ClassId) (dI : Nat → Nat → Nat) (sz : Nat) (h0 : Nat) (o_came : Nat) (o_coins : Nat) (o_rem : Nat) (k_came : ClassId) (k_coins : ClassId) (v1 : Int32) (v2 : Int32) : Met l yX1_tell (Cond.code yX1_tell cX1_tell 3 (some .int) :: bg) ({ frames := 2, cells := 0, slots := 0, locals := 42 }) (pcW dC dI [.ref h0, .int v1, .int v2] sz [(h0, .inr (1, [.ref o_came, .ref o_coins, .ref o_rem])), (o_came, .inl (k_came, 10, .inl (fun _ => 0))), (o_coins, .inl (k_coins, 10, .inl (fun _ => 0)))] [(k_came, .int), (k_coins, .int)]) (va_Qi (fun (r : Int32) (u : Unit) => r = sp_member v1 v2) (fun (u : Unit) (t : State) => True) (va_A [(h0, .inr (1, [.ref o_came, .ref o_coins, .ref o_rem])), (o_came, .inl (k_came, 10, .inl (fun _ => 0))), (o_coins, .inl (k_coins, 10, .inl (fun _ => 0)))] sz)) 0 0 (va_A [(h0, .inr (1, [.ref o_came, .ref o_coins, .ref o_rem])), (o_came, .inl (k_came, 10, .inl (fun _ => 0))), (o_coins, .inl (k_coins, 10, .inl (fun _ => 0)))] sz) := by
  refine Met.ofW (cc := cX1_tell) (maxL := 3) (ret := (some .int)) pnX1 rfl ?_
  intro p e s m args below meth c s₁ B hml hv
  obtain ⟨rfl, hsz, hP, hK, hD0, hN⟩ := hv
  have hx := B.exec
  have hb := B.bytes
  have hr := B.returns
  have htb : ∀ w ∈ bg, w.before [.ref h0, .int v1, .int v2].toArray s = true := fun w h => atoms_spec (ws := Cond.code yX1_tell cX1_tell 3 (some .int) :: bg) B.pre w (List.mem_cons_of_mem _ h)
  have hown : s.vm.findClass RX1 = some m.cls := findClass_of_methodNamed B.named
  have hlocks := B.notSynchronized
  subst hsz
  have hD := hD0.self (sz := s.heap.size)
  generalize hAe : va_A [(h0, .inr (1, [.ref o_came, .ref o_coins, .ref o_rem])), (o_came, .inl (k_came, 10, .inl (fun _ => 0))), (o_coins, .inl (k_coins, 10, .inl (fun _ => 0)))] s.heap.size = A at hD ⊢
  have hA : ∀ q : Nat, s.heap.size ≤ q → A q := fun q h => by rw [← hAe]; exact Or.inr h
  have hS : va_S A s.heap s.heap [] := va_S.rf
  have hl := lv_entry ([.ref h0, .int v1, .int v2]) (n := 3) (Nat.le_of_ble_eq_true rfl)
  rw [lg_entry_eq]
  generalize (lg_sl ([.ref h0, .int v1, .int v2]) ++ List.replicate (3 - (lg_sl ([.ref h0, .int v1, .int v2])).length) Slot.unset).toArray = ls at hl ⊢
  change lv_has ls 3 [(0, .ref h0), (1, .int v1), (2, .int v2)] at hl
  clear hD0 hAe
  refine go0 (wsP := fun H => va_P (dC, dI) vwCl [(h0, .inr (1, [.ref o_came, .ref o_coins, .ref o_rem])), (o_came, .inl (k_came, 10, .inl (fun _ => 0))), (o_coins, .inl (k_coins, 10, .inl (fun _ => 0)))] H) hP hS ?_
  clear hP hS; intro H locs hP hS
  change va_P (dC, dI) vwCl [(h0, .inr (1, [.ref o_came, .ref o_coins, .ref o_rem])), (o_came, .inl (k_came, 10, .inl (fun _ => 0))), (o_coins, .inl (k_coins, 10, .inl (fun _ => 0)))] H at hP
  refine lv_iload_n hx hb dX1_tell_0 rfl (lv_at hl 1 rfl) ?_
  have hPc := hP.sub (ws' := []) [] rfl
  have hDc := hD.sub (ws' := []) [] (by decide) rfl
  have hKc := hK.sub (tys' := []) [] rfl
  have hFc := va_free (wc := []) hD hS hA [] rfl
  refine va_calli (va_runSN (As := [.int v1]) (rest := []) ⟨hx, hb, hml, hown, htb⟩ (kX11_isMember l dC dI H.size v1 ) ⟨va_cnB 1 htb (gd_c m_358) rfl rfl rfl (hN.1 _ nm_26) (htb _ m_1) hdX11_isMember ⟨(Nat.le_of_ble_eq_true rfl), (Nat.le_of_ble_eq_true rfl)⟩, htb _ m_357, trivial⟩ ⟨pcW_blind, pcW_at hPc hKc hDc hN⟩ rfl rfl hl.1 rfl (lv_room (Nat.le_of_ble_eq_true rfl)) dX1_tell_1 ⟨(Nat.le_of_ble_eq_true rfl), (Nat.le_of_ble_eq_true rfl)⟩) hS (fun q _ h => hFc q h) hFc (fun r_1 u t H1 locs1 ht hvm h_2 hB hz1 hk1 hS1 => ?_)
  obtain ⟨hP1, hK1, hD1⟩ := hB
  rw [ht] at hP1
  obtain ⟨hPn, hDn⟩ := va_join (wr := [(h0, .inr (1, [.ref o_came, .ref o_coins, .ref o_rem])), (o_came, .inl (k_came, 10, .inl (fun _ => 0))), (o_coins, .inl (k_coins, 10, .inl (fun _ => 0)))]) (w1 := []) hP hD [] [0, 1, 2] rfl rfl (by decide) (by decide) hk1 hFc hP1 hD1
  clear hP1 hD1 hK1
  clear hP hD hS hPc hDc hKc hFc hk1 hz1 ht hvm
  clear t
  revert hS1 hPn hDn; generalize H1 = H; generalize locs1 = locs; intro hS hP hD
  change va_P (dC, dI) vwCl [(h0, .inr (1, [.ref o_came, .ref o_coins, .ref o_rem])), (o_came, .inl (k_came, 10, .inl (fun _ => 0))), (o_coins, .inl (k_coins, 10, .inl (fun _ => 0)))] H at hP
  change va_D A [(h0, .inr (1, [.ref o_came, .ref o_coins, .ref o_rem])), (o_came, .inl (k_came, 10, .inl (fun _ => 0))), (o_coins, .inl (k_coins, 10, .inl (fun _ => 0)))] at hD
  rcases h_2 with ⟨rfl, h_2⟩ | ⟨rfl, h_2⟩
  · refine lv_if_ne (tgt := 9) hx hb dX1_tell_4 (by decide) ?_ (fun c_3 => absurd c_3 (by decide))
    intro _
    refine lv_iload_n hx hb dX1_tell_9 rfl (lv_at hl 2 rfl) ?_
    by_cases e_4 : v2 = 0
    · refine lv_lookup (off := 26) (tgt := 36) hx hb dX1_tell_10 (by decide) (by rw [e_4]; decide) (by decide) ?_
      refine lv_aload_n hx hb dX1_tell_36 rfl (lv_at hl 0 rfl) ?_
      refine va_get (D := (dC, dI)) (ci := 1) (v := .ref o_came) (C := RX1) (T := TX1) (N := 3) hx hb htb iX1 hown hK hP 0 rfl rfl 0 (Nat.le_of_ble_eq_true rfl) (htb _ m_219) (fun _ h9 => h9) rfl dX1_tell_37 ?_
      refine lv_iload_n hx hb dX1_tell_40 rfl (lv_at hl 1 rfl) ?_
      refine va_iald hx hb hK hP 1 0 rfl rfl (vin _ h_2.1 h_2.2 (by decide)) dX1_tell_41 ?_
      refine lv_tope (y := 0) rfl ?_
      refine W.widen (k := 0) (n := 0) (Nat.le_of_ble_eq_true rfl) (Nat.le_of_ble_eq_true rfl) ?_
      exact W.iret (v := 0) hx hb hr (fun t ht hW => ⟨⟨0, (), rfl, (lf_X1_tell_0 v1 v2 h_2 e_4), trivial⟩, hS.F ht⟩) hS.2.2 dX1_tell_42
    by_cases e_5 : v2 = 1
    · refine lv_lookup (off := 33) (tgt := 43) hx hb dX1_tell_10 (by decide) (by rw [e_5]; decide) (by decide) ?_
      refine lv_aload_n hx hb dX1_tell_43 rfl (lv_at hl 0 rfl) ?_
      refine va_get (D := (dC, dI)) (ci := 1) (v := .ref o_coins) (C := RX1) (T := TX1) (N := 3) hx hb htb iX1 hown hK hP 0 rfl rfl 1 (Nat.le_of_ble_eq_true rfl) (htb _ m_220) (fun _ h9 => h9) rfl dX1_tell_44 ?_
      refine lv_iload_n hx hb dX1_tell_47 rfl (lv_at hl 1 rfl) ?_
      refine va_iald hx hb hK hP 2 1 rfl rfl (vin _ h_2.1 h_2.2 (by decide)) dX1_tell_48 ?_
      refine lv_tope (y := 0) rfl ?_
      refine W.widen (k := 0) (n := 0) (Nat.le_of_ble_eq_true rfl) (Nat.le_of_ble_eq_true rfl) ?_
      exact W.iret (v := 0) hx hb hr (fun t ht hW => ⟨⟨0, (), rfl, (lf_X1_tell_1 v1 v2 h_2 e_4 e_5), trivial⟩, hS.F ht⟩) hS.2.2 dX1_tell_49
    refine lv_lookup (off := 40) (tgt := 50) hx hb dX1_tell_10 (by decide) ((lv_osw e_4 (by decide)).trans ((lv_osw e_5 (by decide)).trans rfl)) (by decide) ?_
    refine lv_iconst (v := (-1)) hx hb dX1_tell_50 (by decide) ?_
    refine W.widen (k := 0) (n := 0) (Nat.le_of_ble_eq_true rfl) (Nat.le_of_ble_eq_true rfl) ?_
    exact W.iret (v := (-1)) hx hb hr (fun t ht hW => ⟨⟨(-1), (), rfl, (lf_X1_tell_2 v1 v2 h_2 e_4 e_5), trivial⟩, hS.F ht⟩) hS.2.2 dX1_tell_51
  · refine lv_if_ne (tgt := 9) hx hb dX1_tell_4 (by decide) (fun c_6 => absurd (by decide) c_6) ?_
    intro _
    refine lv_iconst (v := (-1)) hx hb dX1_tell_7 (by decide) ?_
    refine W.widen (k := 0) (n := 0) (Nat.le_of_ble_eq_true rfl) (Nat.le_of_ble_eq_true rfl) ?_
    exact W.iret (v := (-1)) hx hb hr (fun t ht hW => ⟨⟨(-1), (), rfl, (lf_X1_tell_3 v1 v2 h_2), trivial⟩, hS.F ht⟩) hS.2.2 dX1_tell_8

set_option maxHeartbeats 4000000 in
set_option maxRecDepth 100000 in
theorem kX9_init (l : Launch) (dC : Nat → ClassId) (dI : Nat → Nat → Nat) (sz : Nat) (h0 : Nat) : Met l yX9_init (Cond.code yX9_init cX9_init 1 none :: bg) ({ frames := 1, cells := 3, slots := 1800, locals := 12 }) (pcW dC dI [.ref h0] sz [(h0, .inr (9, [.null, .null, .null, .int 0, .int 0, .int 0]))] []) (va_Qv (fun (u : Unit) => True) (fun (u : Unit) (t : State) => ∃ (p_bytes : Nat) (p_ts : Nat) (p_tc : Nat) (k_bytes : ClassId), va_P (dC, dI) vwCl [(h0, .inr (9, [.ref p_bytes, .ref p_ts, .ref p_tc, .int 0, .int 0, .int 0])), (p_bytes, .inl (k_bytes, 600, .inl (fun _ => 0)))] t.heap ∧ va_K (dC, dI) vwCl [(k_bytes, .byte)] t ∧ va_D (va_A [(h0, .inr (9, [.null, .null, .null, .int 0, .int 0, .int 0]))] sz) [(h0, .inr (9, [.ref p_bytes, .ref p_ts, .ref p_tc, .int 0, .int 0, .int 0])), (p_bytes, .inl (k_bytes, 600, .inl (fun _ => 0)))]) (va_A [(h0, .inr (9, [.null, .null, .null, .int 0, .int 0, .int 0]))] sz)) 3 1800 (va_A [(h0, .inr (9, [.null, .null, .null, .int 0, .int 0, .int 0]))] sz) := by
  refine Met.ofW (cc := cX9_init) (maxL := 1) (ret := none) pnX9 rfl ?_
  intro p e s m args below meth c s₁ B hml hv
  obtain ⟨rfl, hsz, hP, hK, hD0, hN⟩ := hv
  have hx := B.exec
  have hb := B.bytes
  have hr := B.returns
  have htb : ∀ w ∈ bg, w.before [.ref h0].toArray s = true := fun w h => atoms_spec (ws := Cond.code yX9_init cX9_init 1 none :: bg) B.pre w (List.mem_cons_of_mem _ h)
  have hown : s.vm.findClass RX9 = some m.cls := findClass_of_methodNamed B.named
  have hlocks := B.notSynchronized
  have hin : meth.name = "<init>" := (name_of_methodNamed B.named B.method).1
  subst hsz
  have hD := hD0.self (sz := s.heap.size)
  generalize hAe : va_A [(h0, .inr (9, [.null, .null, .null, .int 0, .int 0, .int 0]))] s.heap.size = A at hD ⊢
  have hA : ∀ q : Nat, s.heap.size ≤ q → A q := fun q h => by rw [← hAe]; exact Or.inr h
  have hS : va_S A s.heap s.heap [] := va_S.rf
  have hl := lv_entry ([.ref h0]) (n := 1) (Nat.le_of_ble_eq_true rfl)
  rw [lg_entry_eq]
  generalize (lg_sl ([.ref h0]) ++ List.replicate (1 - (lg_sl ([.ref h0])).length) Slot.unset).toArray = ls at hl ⊢
  change lv_has ls 1 [(0, .ref h0)] at hl
  clear hD0 hAe
  refine go0 (wsP := fun H => va_P (dC, dI) vwCl [(h0, .inr (9, [.null, .null, .null, .int 0, .int 0, .int 0]))] H) hP hS ?_
  clear hP hS; intro H locs hP hS
  change va_P (dC, dI) vwCl [(h0, .inr (9, [.null, .null, .null, .int 0, .int 0, .int 0]))] H at hP
  refine lv_aload_n hx hb dX9_init_0 rfl (lv_at hl 0 rfl) ?_
  refine W.objInit hx hb hown (htb _ m_235) (htb _ m_26) (htb _ m_27) rfl (by rw [hml]; exact hl.1) rfl dX9_init_1 (Nat.le_of_ble_eq_true rfl) (Nat.le_of_ble_eq_true rfl) ?_
  refine W.eq (g2 := F0 m 4 ls []) rfl ?_
  refine lv_aload_n hx hb dX9_init_4 rfl (lv_at hl 0 rfl) ?_
  refine lv_sipush (v := 600) hx hb dX9_init_5 (by decide) ?_
  refine va_newa (atype := .byte) (a0 := (600, .inl (fun _ => 0))) (N' := 600) (ty := .byte) hx hb (htb _ m_256) rfl hK hP hD hS hA (fun _ => rfl) (by decide) (by decide) (Nat.le_of_ble_eq_true rfl) (Nat.le_of_ble_eq_true rfl) (Nat.le_of_ble_eq_true rfl) dX9_init_8 ?_
  clear hP hD hS hK; intro q_1 a_2 H hK hP hD hS
  change va_P (dC, dI) vwCl [(h0, .inr (9, [.null, .null, .null, .int 0, .int 0, .int 0])), (q_1, .inl (a_2, 600, .inl (fun _ => 0)))] H at hP
  change va_D A [(h0, .inr (9, [.null, .null, .null, .int 0, .int 0, .int 0])), (q_1, .inl (a_2, 600, .inl (fun _ => 0)))] at hD
  change va_K (dC, dI) vwCl [(a_2, .byte)] s at hK
  refine W.widen (k := 1) (n := 600) (Nat.le_of_ble_eq_true rfl) (Nat.le_of_ble_eq_true rfl) ?_
  refine va_putF (D := (dC, dI)) (ci := 9) (v := .ref q_1) (C := RX9) (T := TX9) (N := 6) hx hb htb iX9 tyX9 tyX9_ok nmX9 hown hK hP hD hS 0 rfl rfl 0 (Nat.le_of_ble_eq_true rfl) (htb _ m_236) (fun _ h9 => h9) rfl hin rfl (tyX9_ok 0 (Nat.le_of_ble_eq_true rfl)) rfl rfl (Nat.le_of_ble_eq_true rfl) dX9_init_10 ?_
  clear hP hD hS; intro H locs hP hD hS
  change va_P (dC, dI) vwCl [(h0, .inr (9, [.ref q_1, .null, .null, .int 0, .int 0, .int 0])), (q_1, .inl (a_2, 600, .inl (fun _ => 0)))] H at hP
  change va_D A [(h0, .inr (9, [.ref q_1, .null, .null, .int 0, .int 0, .int 0])), (q_1, .inl (a_2, 600, .inl (fun _ => 0)))] at hD
  refine lv_aload_n hx hb dX9_init_13 rfl (lv_at hl 0 rfl) ?_
  refine lv_sipush (v := 600) hx hb dX9_init_14 (by decide) ?_
  refine va_newa (atype := .int) (a0 := (600, .inl (fun _ => 0))) (N' := 600) (ty := .int) hx hb (htb _ m_63) rfl hK hP hD hS hA (fun _ => rfl) (by decide) (by decide) (Nat.le_of_ble_eq_true rfl) (Nat.le_of_ble_eq_true rfl) (Nat.le_of_ble_eq_true rfl) dX9_init_17 ?_
  clear hP hD hS hK; intro q_3 a_4 H hK hP hD hS
  change va_P (dC, dI) vwCl [(h0, .inr (9, [.ref q_1, .null, .null, .int 0, .int 0, .int 0])), (q_1, .inl (a_2, 600, .inl (fun _ => 0))), (q_3, .inl (a_4, 600, .inl (fun _ => 0)))] H at hP
  change va_D A [(h0, .inr (9, [.ref q_1, .null, .null, .int 0, .int 0, .int 0])), (q_1, .inl (a_2, 600, .inl (fun _ => 0))), (q_3, .inl (a_4, 600, .inl (fun _ => 0)))] at hD
  change va_K (dC, dI) vwCl [(a_2, .byte), (a_4, .int)] s at hK
  refine W.widen (k := 2) (n := 1200) (Nat.le_of_ble_eq_true rfl) (Nat.le_of_ble_eq_true rfl) ?_
  refine va_putF (D := (dC, dI)) (ci := 9) (v := .ref q_3) (C := RX9) (T := TX9) (N := 6) hx hb htb iX9 tyX9 tyX9_ok nmX9 hown hK hP hD hS 0 rfl rfl 1 (Nat.le_of_ble_eq_true rfl) (htb _ m_237) (fun _ h9 => h9) rfl hin rfl (tyX9_ok 1 (Nat.le_of_ble_eq_true rfl)) rfl rfl (Nat.le_of_ble_eq_true rfl) dX9_init_19 ?_
  clear hP hD hS; intro H locs hP hD hS
  change va_P (dC, dI) vwCl [(h0, .inr (9, [.ref q_1, .ref q_3, .null, .int 0, .int 0, .int 0])), (q_1, .inl (a_2, 600, .inl (fun _ => 0))), (q_3, .inl (a_4, 600, .inl (fun _ => 0)))] H at hP
  change va_D A [(h0, .inr (9, [.ref q_1, .ref q_3, .null, .int 0, .int 0, .int 0])), (q_1, .inl (a_2, 600, .inl (fun _ => 0))), (q_3, .inl (a_4, 600, .inl (fun _ => 0)))] at hD
  refine lv_aload_n hx hb dX9_init_22 rfl (lv_at hl 0 rfl) ?_
  refine lv_sipush (v := 600) hx hb dX9_init_23 (by decide) ?_
  refine va_newa (atype := .int) (a0 := (600, .inl (fun _ => 0))) (N' := 600) (ty := .int) hx hb (htb _ m_63) rfl hK hP hD hS hA (fun _ => rfl) (by decide) (by decide) (Nat.le_of_ble_eq_true rfl) (Nat.le_of_ble_eq_true rfl) (Nat.le_of_ble_eq_true rfl) dX9_init_26 ?_
  clear hP hD hS hK; intro q_5 a_6 H hK hP hD hS
  change va_P (dC, dI) vwCl [(h0, .inr (9, [.ref q_1, .ref q_3, .null, .int 0, .int 0, .int 0])), (q_1, .inl (a_2, 600, .inl (fun _ => 0))), (q_3, .inl (a_4, 600, .inl (fun _ => 0))), (q_5, .inl (a_6, 600, .inl (fun _ => 0)))] H at hP
  change va_D A [(h0, .inr (9, [.ref q_1, .ref q_3, .null, .int 0, .int 0, .int 0])), (q_1, .inl (a_2, 600, .inl (fun _ => 0))), (q_3, .inl (a_4, 600, .inl (fun _ => 0))), (q_5, .inl (a_6, 600, .inl (fun _ => 0)))] at hD
  change va_K (dC, dI) vwCl [(a_2, .byte), (a_4, .int), (a_6, .int)] s at hK
  refine W.widen (k := 3) (n := 1800) (Nat.le_of_ble_eq_true rfl) (Nat.le_of_ble_eq_true rfl) ?_
  refine va_putF (D := (dC, dI)) (ci := 9) (v := .ref q_5) (C := RX9) (T := TX9) (N := 6) hx hb htb iX9 tyX9 tyX9_ok nmX9 hown hK hP hD hS 0 rfl rfl 2 (Nat.le_of_ble_eq_true rfl) (htb _ m_238) (fun _ h9 => h9) rfl hin rfl (tyX9_ok 2 (Nat.le_of_ble_eq_true rfl)) rfl rfl (Nat.le_of_ble_eq_true rfl) dX9_init_28 ?_
  clear hP hD hS; intro H locs hP hD hS
  change va_P (dC, dI) vwCl [(h0, .inr (9, [.ref q_1, .ref q_3, .ref q_5, .int 0, .int 0, .int 0])), (q_1, .inl (a_2, 600, .inl (fun _ => 0))), (q_3, .inl (a_4, 600, .inl (fun _ => 0))), (q_5, .inl (a_6, 600, .inl (fun _ => 0)))] H at hP
  change va_D A [(h0, .inr (9, [.ref q_1, .ref q_3, .ref q_5, .int 0, .int 0, .int 0])), (q_1, .inl (a_2, 600, .inl (fun _ => 0))), (q_3, .inl (a_4, 600, .inl (fun _ => 0))), (q_5, .inl (a_6, 600, .inl (fun _ => 0)))] at hD
  refine W.widen (k := 3) (n := 1800) (Nat.le_of_ble_eq_true rfl) (Nat.le_of_ble_eq_true rfl) ?_
  have hP9 := hP.sub (ws' := [(h0, .inr (9, [.ref q_1, .ref q_3, .ref q_5, .int 0, .int 0, .int 0])), (q_1, .inl (a_2, 600, .inl (fun _ => 0)))]) [0, 1] rfl
  have hD9 := hD.sub (ws' := [(h0, .inr (9, [.ref q_1, .ref q_3, .ref q_5, .int 0, .int 0, .int 0])), (q_1, .inl (a_2, 600, .inl (fun _ => 0)))]) [0, 1] (by decide) rfl
  have hK9 := hK.sub (tys' := [(a_2, .byte)]) [0] rfl
  exact W.vret hx hb hr (fun t ht hW => ⟨⟨(), rfl, trivial, ⟨q_1, q_3, q_5, a_2, by rw [ht]; exact hP9, va_K.moved hW.alike hK9, hD9⟩⟩, hS.F ht⟩) hS.2.2 dX9_init_31

set_option maxHeartbeats 4000000 in
set_option maxRecDepth 100000 in
theorem kX9_hasRoomFor_0_20 (l : Launch) (dC : Nat → ClassId) (dI : Nat → Nat → Nat) (sz : Nat) (h0 : Nat) (p_bytes : Nat) (p_ts : Nat) (p_tc : Nat) : Met l yX9_hasRoomFor (Cond.code yX9_hasRoomFor cX9_hasRoomFor 2 (some .boolean) :: bg) ({ frames := 0, cells := 0, slots := 0, locals := 0 }) (pcW dC dI [.ref h0, .int 20] sz [(h0, .inr (9, [.ref p_bytes, .ref p_ts, .ref p_tc, .int 0, .int 0, .int 0]))] []) (va_Qi (fun (r : Int32) (u : Unit) => r = 1) (fun (u : Unit) (t : State) => va_P (dC, dI) vwCl [(h0, .inr (9, [.ref p_bytes, .ref p_ts, .ref p_tc, .int 0, .int 0, .int 0]))] t.heap ∧ va_K (dC, dI) vwCl [] t ∧ va_D (va_A [(h0, .inr (9, [.ref p_bytes, .ref p_ts, .ref p_tc, .int 0, .int 0, .int 0]))] sz) [(h0, .inr (9, [.ref p_bytes, .ref p_ts, .ref p_tc, .int 0, .int 0, .int 0]))]) (va_A [(h0, .inr (9, [.ref p_bytes, .ref p_ts, .ref p_tc, .int 0, .int 0, .int 0]))] sz)) 0 0 (va_A [(h0, .inr (9, [.ref p_bytes, .ref p_ts, .ref p_tc, .int 0, .int 0, .int 0]))] sz) := by
  refine Met.ofW (cc := cX9_hasRoomFor) (maxL := 2) (ret := (some .boolean)) pnX9 rfl ?_
  intro p e s m args below meth c s₁ B hml hv
  obtain ⟨rfl, hsz, hP, hK, hD0, hN⟩ := hv
  have hx := B.exec
  have hb := B.bytes
  have hr := B.returns
  have htb : ∀ w ∈ bg, w.before [.ref h0, .int 20].toArray s = true := fun w h => atoms_spec (ws := Cond.code yX9_hasRoomFor cX9_hasRoomFor 2 (some .boolean) :: bg) B.pre w (List.mem_cons_of_mem _ h)
  have hown : s.vm.findClass RX9 = some m.cls := findClass_of_methodNamed B.named
  have hlocks := B.notSynchronized
  subst hsz
  have hD := hD0.self (sz := s.heap.size)
  generalize hAe : va_A [(h0, .inr (9, [.ref p_bytes, .ref p_ts, .ref p_tc, .int 0, .int 0, .int 0]))] s.heap.size = A at hD ⊢
  have hA : ∀ q : Nat, s.heap.size ≤ q → A q := fun q h => by rw [← hAe]; exact Or.inr h
  have hS : va_S A s.heap s.heap [] := va_S.rf
  have hl := lv_entry ([.ref h0, .int 20]) (n := 2) (Nat.le_of_ble_eq_true rfl)
  rw [lg_entry_eq]
  generalize (lg_sl ([.ref h0, .int 20]) ++ List.replicate (2 - (lg_sl ([.ref h0, .int 20])).length) Slot.unset).toArray = ls at hl ⊢
  change lv_has ls 2 [(0, .ref h0), (1, .int 20)] at hl
  clear hD0 hAe
  refine go0 (wsP := fun H => va_P (dC, dI) vwCl [(h0, .inr (9, [.ref p_bytes, .ref p_ts, .ref p_tc, .int 0, .int 0, .int 0]))] H) hP hS ?_
  clear hP hS; intro H locs hP hS
  change va_P (dC, dI) vwCl [(h0, .inr (9, [.ref p_bytes, .ref p_ts, .ref p_tc, .int 0, .int 0, .int 0]))] H at hP
  refine lv_aload_n hx hb dX9_hasRoomFor_0 rfl (lv_at hl 0 rfl) ?_
  refine va_get (D := (dC, dI)) (ci := 9) (v := .int 0) (C := RX9) (T := TX9) (N := 6) hx hb htb iX9 hown hK hP 0 rfl rfl 3 (Nat.le_of_ble_eq_true rfl) (htb _ m_239) (fun _ h9 => h9) rfl dX9_hasRoomFor_1 ?_
  refine lv_sipush (v := 600) hx hb dX9_hasRoomFor_4 (by decide) ?_
  refine lv_iload_n hx hb dX9_hasRoomFor_7 rfl (lv_at hl 1 rfl) ?_
  refine lv_isub hx hb dX9_hasRoomFor_8 ?_
  refine lv_tope (y := 580) (by decide) ?_
  refine lv_icmp_gt (tgt := 16) hx hb dX9_hasRoomFor_9 (by decide) (fun c_1 => absurd c_1 (by decide)) ?_
  intro _
  refine lv_iconst (v := 1) hx hb dX9_hasRoomFor_12 (by decide) ?_
  refine lv_goto (tgt := 17) hx hb dX9_hasRoomFor_13 (by decide) ?_
  refine W.widen (k := 0) (n := 0) (Nat.le_of_ble_eq_true rfl) (Nat.le_of_ble_eq_true rfl) ?_
  have hP9 := hP.sub (ws' := [(h0, .inr (9, [.ref p_bytes, .ref p_ts, .ref p_tc, .int 0, .int 0, .int 0]))]) [0] rfl
  have hD9 := hD.sub (ws' := [(h0, .inr (9, [.ref p_bytes, .ref p_ts, .ref p_tc, .int 0, .int 0, .int 0]))]) [0] (by decide) rfl
  have hK9 := hK.sub (tys' := []) [] rfl
  exact W.zret (ty := .boolean) (v := 1) hx hb hr rfl (fun t ht hW => ⟨⟨1, (), rfl, (rfl), ⟨by rw [ht]; exact hP9, va_K.moved hW.alike hK9, hD9⟩⟩, hS.F ht⟩) hS.2.2 dX9_hasRoomFor_17

set_option maxHeartbeats 4000000 in
set_option maxRecDepth 100000 in
theorem kX9_hasRoomFor_0_4 (l : Launch) (dC : Nat → ClassId) (dI : Nat → Nat → Nat) (sz : Nat) (h0 : Nat) (p_bytes : Nat) (p_ts : Nat) (p_tc : Nat) : Met l yX9_hasRoomFor (Cond.code yX9_hasRoomFor cX9_hasRoomFor 2 (some .boolean) :: bg) ({ frames := 0, cells := 0, slots := 0, locals := 0 }) (pcW dC dI [.ref h0, .int 4] sz [(h0, .inr (9, [.ref p_bytes, .ref p_ts, .ref p_tc, .int 0, .int 0, .int 0]))] []) (va_Qi (fun (r : Int32) (u : Unit) => r = 1) (fun (u : Unit) (t : State) => va_P (dC, dI) vwCl [(h0, .inr (9, [.ref p_bytes, .ref p_ts, .ref p_tc, .int 0, .int 0, .int 0]))] t.heap ∧ va_K (dC, dI) vwCl [] t ∧ va_D (va_A [(h0, .inr (9, [.ref p_bytes, .ref p_ts, .ref p_tc, .int 0, .int 0, .int 0]))] sz) [(h0, .inr (9, [.ref p_bytes, .ref p_ts, .ref p_tc, .int 0, .int 0, .int 0]))]) (va_A [(h0, .inr (9, [.ref p_bytes, .ref p_ts, .ref p_tc, .int 0, .int 0, .int 0]))] sz)) 0 0 (va_A [(h0, .inr (9, [.ref p_bytes, .ref p_ts, .ref p_tc, .int 0, .int 0, .int 0]))] sz) := by
  refine Met.ofW (cc := cX9_hasRoomFor) (maxL := 2) (ret := (some .boolean)) pnX9 rfl ?_
  intro p e s m args below meth c s₁ B hml hv
  obtain ⟨rfl, hsz, hP, hK, hD0, hN⟩ := hv
  have hx := B.exec
  have hb := B.bytes
  have hr := B.returns
  have htb : ∀ w ∈ bg, w.before [.ref h0, .int 4].toArray s = true := fun w h => atoms_spec (ws := Cond.code yX9_hasRoomFor cX9_hasRoomFor 2 (some .boolean) :: bg) B.pre w (List.mem_cons_of_mem _ h)
  have hown : s.vm.findClass RX9 = some m.cls := findClass_of_methodNamed B.named
  have hlocks := B.notSynchronized
  subst hsz
  have hD := hD0.self (sz := s.heap.size)
  generalize hAe : va_A [(h0, .inr (9, [.ref p_bytes, .ref p_ts, .ref p_tc, .int 0, .int 0, .int 0]))] s.heap.size = A at hD ⊢
  have hA : ∀ q : Nat, s.heap.size ≤ q → A q := fun q h => by rw [← hAe]; exact Or.inr h
  have hS : va_S A s.heap s.heap [] := va_S.rf
  have hl := lv_entry ([.ref h0, .int 4]) (n := 2) (Nat.le_of_ble_eq_true rfl)
  rw [lg_entry_eq]
  generalize (lg_sl ([.ref h0, .int 4]) ++ List.replicate (2 - (lg_sl ([.ref h0, .int 4])).length) Slot.unset).toArray = ls at hl ⊢
  change lv_has ls 2 [(0, .ref h0), (1, .int 4)] at hl
  clear hD0 hAe
  refine go0 (wsP := fun H => va_P (dC, dI) vwCl [(h0, .inr (9, [.ref p_bytes, .ref p_ts, .ref p_tc, .int 0, .int 0, .int 0]))] H) hP hS ?_
  clear hP hS; intro H locs hP hS
  change va_P (dC, dI) vwCl [(h0, .inr (9, [.ref p_bytes, .ref p_ts, .ref p_tc, .int 0, .int 0, .int 0]))] H at hP
  refine lv_aload_n hx hb dX9_hasRoomFor_0 rfl (lv_at hl 0 rfl) ?_
  refine va_get (D := (dC, dI)) (ci := 9) (v := .int 0) (C := RX9) (T := TX9) (N := 6) hx hb htb iX9 hown hK hP 0 rfl rfl 3 (Nat.le_of_ble_eq_true rfl) (htb _ m_239) (fun _ h9 => h9) rfl dX9_hasRoomFor_1 ?_
  refine lv_sipush (v := 600) hx hb dX9_hasRoomFor_4 (by decide) ?_
  refine lv_iload_n hx hb dX9_hasRoomFor_7 rfl (lv_at hl 1 rfl) ?_
  refine lv_isub hx hb dX9_hasRoomFor_8 ?_
  refine lv_tope (y := 596) (by decide) ?_
  refine lv_icmp_gt (tgt := 16) hx hb dX9_hasRoomFor_9 (by decide) (fun c_1 => absurd c_1 (by decide)) ?_
  intro _
  refine lv_iconst (v := 1) hx hb dX9_hasRoomFor_12 (by decide) ?_
  refine lv_goto (tgt := 17) hx hb dX9_hasRoomFor_13 (by decide) ?_
  refine W.widen (k := 0) (n := 0) (Nat.le_of_ble_eq_true rfl) (Nat.le_of_ble_eq_true rfl) ?_
  have hP9 := hP.sub (ws' := [(h0, .inr (9, [.ref p_bytes, .ref p_ts, .ref p_tc, .int 0, .int 0, .int 0]))]) [0] rfl
  have hD9 := hD.sub (ws' := [(h0, .inr (9, [.ref p_bytes, .ref p_ts, .ref p_tc, .int 0, .int 0, .int 0]))]) [0] (by decide) rfl
  have hK9 := hK.sub (tys' := []) [] rfl
  exact W.zret (ty := .boolean) (v := 1) hx hb hr rfl (fun t ht hW => ⟨⟨1, (), rfl, (rfl), ⟨by rw [ht]; exact hP9, va_K.moved hW.alike hK9, hD9⟩⟩, hS.F ht⟩) hS.2.2 dX9_hasRoomFor_17

set_option maxHeartbeats 4000000 in
set_option maxRecDepth 100000 in
theorem kX9_hasRoomFor_4_4 (l : Launch) (dC : Nat → ClassId) (dI : Nat → Nat → Nat) (sz : Nat) (h0 : Nat) (p_bytes : Nat) (p_ts : Nat) (p_tc : Nat) : Met l yX9_hasRoomFor (Cond.code yX9_hasRoomFor cX9_hasRoomFor 2 (some .boolean) :: bg) ({ frames := 0, cells := 0, slots := 0, locals := 0 }) (pcW dC dI [.ref h0, .int 4] sz [(h0, .inr (9, [.ref p_bytes, .ref p_ts, .ref p_tc, .int 4, .int 0, .int 0]))] []) (va_Qi (fun (r : Int32) (u : Unit) => r = 1) (fun (u : Unit) (t : State) => va_P (dC, dI) vwCl [(h0, .inr (9, [.ref p_bytes, .ref p_ts, .ref p_tc, .int 4, .int 0, .int 0]))] t.heap ∧ va_K (dC, dI) vwCl [] t ∧ va_D (va_A [(h0, .inr (9, [.ref p_bytes, .ref p_ts, .ref p_tc, .int 4, .int 0, .int 0]))] sz) [(h0, .inr (9, [.ref p_bytes, .ref p_ts, .ref p_tc, .int 4, .int 0, .int 0]))]) (va_A [(h0, .inr (9, [.ref p_bytes, .ref p_ts, .ref p_tc, .int 4, .int 0, .int 0]))] sz)) 0 0 (va_A [(h0, .inr (9, [.ref p_bytes, .ref p_ts, .ref p_tc, .int 4, .int 0, .int 0]))] sz) := by
  refine Met.ofW (cc := cX9_hasRoomFor) (maxL := 2) (ret := (some .boolean)) pnX9 rfl ?_
  intro p e s m args below meth c s₁ B hml hv
  obtain ⟨rfl, hsz, hP, hK, hD0, hN⟩ := hv
  have hx := B.exec
  have hb := B.bytes
  have hr := B.returns
  have htb : ∀ w ∈ bg, w.before [.ref h0, .int 4].toArray s = true := fun w h => atoms_spec (ws := Cond.code yX9_hasRoomFor cX9_hasRoomFor 2 (some .boolean) :: bg) B.pre w (List.mem_cons_of_mem _ h)
  have hown : s.vm.findClass RX9 = some m.cls := findClass_of_methodNamed B.named
  have hlocks := B.notSynchronized
  subst hsz
  have hD := hD0.self (sz := s.heap.size)
  generalize hAe : va_A [(h0, .inr (9, [.ref p_bytes, .ref p_ts, .ref p_tc, .int 4, .int 0, .int 0]))] s.heap.size = A at hD ⊢
  have hA : ∀ q : Nat, s.heap.size ≤ q → A q := fun q h => by rw [← hAe]; exact Or.inr h
  have hS : va_S A s.heap s.heap [] := va_S.rf
  have hl := lv_entry ([.ref h0, .int 4]) (n := 2) (Nat.le_of_ble_eq_true rfl)
  rw [lg_entry_eq]
  generalize (lg_sl ([.ref h0, .int 4]) ++ List.replicate (2 - (lg_sl ([.ref h0, .int 4])).length) Slot.unset).toArray = ls at hl ⊢
  change lv_has ls 2 [(0, .ref h0), (1, .int 4)] at hl
  clear hD0 hAe
  refine go0 (wsP := fun H => va_P (dC, dI) vwCl [(h0, .inr (9, [.ref p_bytes, .ref p_ts, .ref p_tc, .int 4, .int 0, .int 0]))] H) hP hS ?_
  clear hP hS; intro H locs hP hS
  change va_P (dC, dI) vwCl [(h0, .inr (9, [.ref p_bytes, .ref p_ts, .ref p_tc, .int 4, .int 0, .int 0]))] H at hP
  refine lv_aload_n hx hb dX9_hasRoomFor_0 rfl (lv_at hl 0 rfl) ?_
  refine va_get (D := (dC, dI)) (ci := 9) (v := .int 4) (C := RX9) (T := TX9) (N := 6) hx hb htb iX9 hown hK hP 0 rfl rfl 3 (Nat.le_of_ble_eq_true rfl) (htb _ m_239) (fun _ h9 => h9) rfl dX9_hasRoomFor_1 ?_
  refine lv_sipush (v := 600) hx hb dX9_hasRoomFor_4 (by decide) ?_
  refine lv_iload_n hx hb dX9_hasRoomFor_7 rfl (lv_at hl 1 rfl) ?_
  refine lv_isub hx hb dX9_hasRoomFor_8 ?_
  refine lv_tope (y := 596) (by decide) ?_
  refine lv_icmp_gt (tgt := 16) hx hb dX9_hasRoomFor_9 (by decide) (fun c_1 => absurd c_1 (by decide)) ?_
  intro _
  refine lv_iconst (v := 1) hx hb dX9_hasRoomFor_12 (by decide) ?_
  refine lv_goto (tgt := 17) hx hb dX9_hasRoomFor_13 (by decide) ?_
  refine W.widen (k := 0) (n := 0) (Nat.le_of_ble_eq_true rfl) (Nat.le_of_ble_eq_true rfl) ?_
  have hP9 := hP.sub (ws' := [(h0, .inr (9, [.ref p_bytes, .ref p_ts, .ref p_tc, .int 4, .int 0, .int 0]))]) [0] rfl
  have hD9 := hD.sub (ws' := [(h0, .inr (9, [.ref p_bytes, .ref p_ts, .ref p_tc, .int 4, .int 0, .int 0]))]) [0] (by decide) rfl
  have hK9 := hK.sub (tys' := []) [] rfl
  exact W.zret (ty := .boolean) (v := 1) hx hb hr rfl (fun t ht hW => ⟨⟨1, (), rfl, (rfl), ⟨by rw [ht]; exact hP9, va_K.moved hW.alike hK9, hD9⟩⟩, hS.F ht⟩) hS.2.2 dX9_hasRoomFor_17

set_option maxHeartbeats 4000000 in
set_option maxRecDepth 100000 in
theorem kX9_hasRoomFor_8_4 (l : Launch) (dC : Nat → ClassId) (dI : Nat → Nat → Nat) (sz : Nat) (h0 : Nat) (p_bytes : Nat) (p_ts : Nat) (p_tc : Nat) : Met l yX9_hasRoomFor (Cond.code yX9_hasRoomFor cX9_hasRoomFor 2 (some .boolean) :: bg) ({ frames := 0, cells := 0, slots := 0, locals := 0 }) (pcW dC dI [.ref h0, .int 4] sz [(h0, .inr (9, [.ref p_bytes, .ref p_ts, .ref p_tc, .int 8, .int 0, .int 0]))] []) (va_Qi (fun (r : Int32) (u : Unit) => r = 1) (fun (u : Unit) (t : State) => va_P (dC, dI) vwCl [(h0, .inr (9, [.ref p_bytes, .ref p_ts, .ref p_tc, .int 8, .int 0, .int 0]))] t.heap ∧ va_K (dC, dI) vwCl [] t ∧ va_D (va_A [(h0, .inr (9, [.ref p_bytes, .ref p_ts, .ref p_tc, .int 8, .int 0, .int 0]))] sz) [(h0, .inr (9, [.ref p_bytes, .ref p_ts, .ref p_tc, .int 8, .int 0, .int 0]))]) (va_A [(h0, .inr (9, [.ref p_bytes, .ref p_ts, .ref p_tc, .int 8, .int 0, .int 0]))] sz)) 0 0 (va_A [(h0, .inr (9, [.ref p_bytes, .ref p_ts, .ref p_tc, .int 8, .int 0, .int 0]))] sz) := by
  refine Met.ofW (cc := cX9_hasRoomFor) (maxL := 2) (ret := (some .boolean)) pnX9 rfl ?_
  intro p e s m args below meth c s₁ B hml hv
  obtain ⟨rfl, hsz, hP, hK, hD0, hN⟩ := hv
  have hx := B.exec
  have hb := B.bytes
  have hr := B.returns
  have htb : ∀ w ∈ bg, w.before [.ref h0, .int 4].toArray s = true := fun w h => atoms_spec (ws := Cond.code yX9_hasRoomFor cX9_hasRoomFor 2 (some .boolean) :: bg) B.pre w (List.mem_cons_of_mem _ h)
  have hown : s.vm.findClass RX9 = some m.cls := findClass_of_methodNamed B.named
  have hlocks := B.notSynchronized
  subst hsz
  have hD := hD0.self (sz := s.heap.size)
  generalize hAe : va_A [(h0, .inr (9, [.ref p_bytes, .ref p_ts, .ref p_tc, .int 8, .int 0, .int 0]))] s.heap.size = A at hD ⊢
  have hA : ∀ q : Nat, s.heap.size ≤ q → A q := fun q h => by rw [← hAe]; exact Or.inr h
  have hS : va_S A s.heap s.heap [] := va_S.rf
  have hl := lv_entry ([.ref h0, .int 4]) (n := 2) (Nat.le_of_ble_eq_true rfl)
  rw [lg_entry_eq]
  generalize (lg_sl ([.ref h0, .int 4]) ++ List.replicate (2 - (lg_sl ([.ref h0, .int 4])).length) Slot.unset).toArray = ls at hl ⊢
  change lv_has ls 2 [(0, .ref h0), (1, .int 4)] at hl
  clear hD0 hAe
  refine go0 (wsP := fun H => va_P (dC, dI) vwCl [(h0, .inr (9, [.ref p_bytes, .ref p_ts, .ref p_tc, .int 8, .int 0, .int 0]))] H) hP hS ?_
  clear hP hS; intro H locs hP hS
  change va_P (dC, dI) vwCl [(h0, .inr (9, [.ref p_bytes, .ref p_ts, .ref p_tc, .int 8, .int 0, .int 0]))] H at hP
  refine lv_aload_n hx hb dX9_hasRoomFor_0 rfl (lv_at hl 0 rfl) ?_
  refine va_get (D := (dC, dI)) (ci := 9) (v := .int 8) (C := RX9) (T := TX9) (N := 6) hx hb htb iX9 hown hK hP 0 rfl rfl 3 (Nat.le_of_ble_eq_true rfl) (htb _ m_239) (fun _ h9 => h9) rfl dX9_hasRoomFor_1 ?_
  refine lv_sipush (v := 600) hx hb dX9_hasRoomFor_4 (by decide) ?_
  refine lv_iload_n hx hb dX9_hasRoomFor_7 rfl (lv_at hl 1 rfl) ?_
  refine lv_isub hx hb dX9_hasRoomFor_8 ?_
  refine lv_tope (y := 596) (by decide) ?_
  refine lv_icmp_gt (tgt := 16) hx hb dX9_hasRoomFor_9 (by decide) (fun c_1 => absurd c_1 (by decide)) ?_
  intro _
  refine lv_iconst (v := 1) hx hb dX9_hasRoomFor_12 (by decide) ?_
  refine lv_goto (tgt := 17) hx hb dX9_hasRoomFor_13 (by decide) ?_
  refine W.widen (k := 0) (n := 0) (Nat.le_of_ble_eq_true rfl) (Nat.le_of_ble_eq_true rfl) ?_
  have hP9 := hP.sub (ws' := [(h0, .inr (9, [.ref p_bytes, .ref p_ts, .ref p_tc, .int 8, .int 0, .int 0]))]) [0] rfl
  have hD9 := hD.sub (ws' := [(h0, .inr (9, [.ref p_bytes, .ref p_ts, .ref p_tc, .int 8, .int 0, .int 0]))]) [0] (by decide) rfl
  have hK9 := hK.sub (tys' := []) [] rfl
  exact W.zret (ty := .boolean) (v := 1) hx hb hr rfl (fun t ht hW => ⟨⟨1, (), rfl, (rfl), ⟨by rw [ht]; exact hP9, va_K.moved hW.alike hK9, hD9⟩⟩, hS.F ht⟩) hS.2.2 dX9_hasRoomFor_17

set_option maxHeartbeats 4000000 in
set_option maxRecDepth 100000 in
theorem kX9_hasRoomFor_12_4 (l : Launch) (dC : Nat → ClassId) (dI : Nat → Nat → Nat) (sz : Nat) (h0 : Nat) (p_bytes : Nat) (p_ts : Nat) (p_tc : Nat) : Met l yX9_hasRoomFor (Cond.code yX9_hasRoomFor cX9_hasRoomFor 2 (some .boolean) :: bg) ({ frames := 0, cells := 0, slots := 0, locals := 0 }) (pcW dC dI [.ref h0, .int 4] sz [(h0, .inr (9, [.ref p_bytes, .ref p_ts, .ref p_tc, .int 12, .int 0, .int 0]))] []) (va_Qi (fun (r : Int32) (u : Unit) => r = 1) (fun (u : Unit) (t : State) => va_P (dC, dI) vwCl [(h0, .inr (9, [.ref p_bytes, .ref p_ts, .ref p_tc, .int 12, .int 0, .int 0]))] t.heap ∧ va_K (dC, dI) vwCl [] t ∧ va_D (va_A [(h0, .inr (9, [.ref p_bytes, .ref p_ts, .ref p_tc, .int 12, .int 0, .int 0]))] sz) [(h0, .inr (9, [.ref p_bytes, .ref p_ts, .ref p_tc, .int 12, .int 0, .int 0]))]) (va_A [(h0, .inr (9, [.ref p_bytes, .ref p_ts, .ref p_tc, .int 12, .int 0, .int 0]))] sz)) 0 0 (va_A [(h0, .inr (9, [.ref p_bytes, .ref p_ts, .ref p_tc, .int 12, .int 0, .int 0]))] sz) := by
  refine Met.ofW (cc := cX9_hasRoomFor) (maxL := 2) (ret := (some .boolean)) pnX9 rfl ?_
  intro p e s m args below meth c s₁ B hml hv
  obtain ⟨rfl, hsz, hP, hK, hD0, hN⟩ := hv
  have hx := B.exec
  have hb := B.bytes
  have hr := B.returns
  have htb : ∀ w ∈ bg, w.before [.ref h0, .int 4].toArray s = true := fun w h => atoms_spec (ws := Cond.code yX9_hasRoomFor cX9_hasRoomFor 2 (some .boolean) :: bg) B.pre w (List.mem_cons_of_mem _ h)
  have hown : s.vm.findClass RX9 = some m.cls := findClass_of_methodNamed B.named
  have hlocks := B.notSynchronized
  subst hsz
  have hD := hD0.self (sz := s.heap.size)
  generalize hAe : va_A [(h0, .inr (9, [.ref p_bytes, .ref p_ts, .ref p_tc, .int 12, .int 0, .int 0]))] s.heap.size = A at hD ⊢
  have hA : ∀ q : Nat, s.heap.size ≤ q → A q := fun q h => by rw [← hAe]; exact Or.inr h
  have hS : va_S A s.heap s.heap [] := va_S.rf
  have hl := lv_entry ([.ref h0, .int 4]) (n := 2) (Nat.le_of_ble_eq_true rfl)
  rw [lg_entry_eq]
  generalize (lg_sl ([.ref h0, .int 4]) ++ List.replicate (2 - (lg_sl ([.ref h0, .int 4])).length) Slot.unset).toArray = ls at hl ⊢
  change lv_has ls 2 [(0, .ref h0), (1, .int 4)] at hl
  clear hD0 hAe
  refine go0 (wsP := fun H => va_P (dC, dI) vwCl [(h0, .inr (9, [.ref p_bytes, .ref p_ts, .ref p_tc, .int 12, .int 0, .int 0]))] H) hP hS ?_
  clear hP hS; intro H locs hP hS
  change va_P (dC, dI) vwCl [(h0, .inr (9, [.ref p_bytes, .ref p_ts, .ref p_tc, .int 12, .int 0, .int 0]))] H at hP
  refine lv_aload_n hx hb dX9_hasRoomFor_0 rfl (lv_at hl 0 rfl) ?_
  refine va_get (D := (dC, dI)) (ci := 9) (v := .int 12) (C := RX9) (T := TX9) (N := 6) hx hb htb iX9 hown hK hP 0 rfl rfl 3 (Nat.le_of_ble_eq_true rfl) (htb _ m_239) (fun _ h9 => h9) rfl dX9_hasRoomFor_1 ?_
  refine lv_sipush (v := 600) hx hb dX9_hasRoomFor_4 (by decide) ?_
  refine lv_iload_n hx hb dX9_hasRoomFor_7 rfl (lv_at hl 1 rfl) ?_
  refine lv_isub hx hb dX9_hasRoomFor_8 ?_
  refine lv_tope (y := 596) (by decide) ?_
  refine lv_icmp_gt (tgt := 16) hx hb dX9_hasRoomFor_9 (by decide) (fun c_1 => absurd c_1 (by decide)) ?_
  intro _
  refine lv_iconst (v := 1) hx hb dX9_hasRoomFor_12 (by decide) ?_
  refine lv_goto (tgt := 17) hx hb dX9_hasRoomFor_13 (by decide) ?_
  refine W.widen (k := 0) (n := 0) (Nat.le_of_ble_eq_true rfl) (Nat.le_of_ble_eq_true rfl) ?_
  have hP9 := hP.sub (ws' := [(h0, .inr (9, [.ref p_bytes, .ref p_ts, .ref p_tc, .int 12, .int 0, .int 0]))]) [0] rfl
  have hD9 := hD.sub (ws' := [(h0, .inr (9, [.ref p_bytes, .ref p_ts, .ref p_tc, .int 12, .int 0, .int 0]))]) [0] (by decide) rfl
  have hK9 := hK.sub (tys' := []) [] rfl
  exact W.zret (ty := .boolean) (v := 1) hx hb hr rfl (fun t ht hW => ⟨⟨1, (), rfl, (rfl), ⟨by rw [ht]; exact hP9, va_K.moved hW.alike hK9, hD9⟩⟩, hS.F ht⟩) hS.2.2 dX9_hasRoomFor_17

set_option maxHeartbeats 4000000 in
set_option maxRecDepth 100000 in
theorem kX9_hasRoomFor_16_4 (l : Launch) (dC : Nat → ClassId) (dI : Nat → Nat → Nat) (sz : Nat) (h0 : Nat) (p_bytes : Nat) (p_ts : Nat) (p_tc : Nat) : Met l yX9_hasRoomFor (Cond.code yX9_hasRoomFor cX9_hasRoomFor 2 (some .boolean) :: bg) ({ frames := 0, cells := 0, slots := 0, locals := 0 }) (pcW dC dI [.ref h0, .int 4] sz [(h0, .inr (9, [.ref p_bytes, .ref p_ts, .ref p_tc, .int 16, .int 0, .int 0]))] []) (va_Qi (fun (r : Int32) (u : Unit) => r = 1) (fun (u : Unit) (t : State) => va_P (dC, dI) vwCl [(h0, .inr (9, [.ref p_bytes, .ref p_ts, .ref p_tc, .int 16, .int 0, .int 0]))] t.heap ∧ va_K (dC, dI) vwCl [] t ∧ va_D (va_A [(h0, .inr (9, [.ref p_bytes, .ref p_ts, .ref p_tc, .int 16, .int 0, .int 0]))] sz) [(h0, .inr (9, [.ref p_bytes, .ref p_ts, .ref p_tc, .int 16, .int 0, .int 0]))]) (va_A [(h0, .inr (9, [.ref p_bytes, .ref p_ts, .ref p_tc, .int 16, .int 0, .int 0]))] sz)) 0 0 (va_A [(h0, .inr (9, [.ref p_bytes, .ref p_ts, .ref p_tc, .int 16, .int 0, .int 0]))] sz) := by
  refine Met.ofW (cc := cX9_hasRoomFor) (maxL := 2) (ret := (some .boolean)) pnX9 rfl ?_
  intro p e s m args below meth c s₁ B hml hv
  obtain ⟨rfl, hsz, hP, hK, hD0, hN⟩ := hv
  have hx := B.exec
  have hb := B.bytes
  have hr := B.returns
  have htb : ∀ w ∈ bg, w.before [.ref h0, .int 4].toArray s = true := fun w h => atoms_spec (ws := Cond.code yX9_hasRoomFor cX9_hasRoomFor 2 (some .boolean) :: bg) B.pre w (List.mem_cons_of_mem _ h)
  have hown : s.vm.findClass RX9 = some m.cls := findClass_of_methodNamed B.named
  have hlocks := B.notSynchronized
  subst hsz
  have hD := hD0.self (sz := s.heap.size)
  generalize hAe : va_A [(h0, .inr (9, [.ref p_bytes, .ref p_ts, .ref p_tc, .int 16, .int 0, .int 0]))] s.heap.size = A at hD ⊢
  have hA : ∀ q : Nat, s.heap.size ≤ q → A q := fun q h => by rw [← hAe]; exact Or.inr h
  have hS : va_S A s.heap s.heap [] := va_S.rf
  have hl := lv_entry ([.ref h0, .int 4]) (n := 2) (Nat.le_of_ble_eq_true rfl)
  rw [lg_entry_eq]
  generalize (lg_sl ([.ref h0, .int 4]) ++ List.replicate (2 - (lg_sl ([.ref h0, .int 4])).length) Slot.unset).toArray = ls at hl ⊢
  change lv_has ls 2 [(0, .ref h0), (1, .int 4)] at hl
  clear hD0 hAe
  refine go0 (wsP := fun H => va_P (dC, dI) vwCl [(h0, .inr (9, [.ref p_bytes, .ref p_ts, .ref p_tc, .int 16, .int 0, .int 0]))] H) hP hS ?_
  clear hP hS; intro H locs hP hS
  change va_P (dC, dI) vwCl [(h0, .inr (9, [.ref p_bytes, .ref p_ts, .ref p_tc, .int 16, .int 0, .int 0]))] H at hP
  refine lv_aload_n hx hb dX9_hasRoomFor_0 rfl (lv_at hl 0 rfl) ?_
  refine va_get (D := (dC, dI)) (ci := 9) (v := .int 16) (C := RX9) (T := TX9) (N := 6) hx hb htb iX9 hown hK hP 0 rfl rfl 3 (Nat.le_of_ble_eq_true rfl) (htb _ m_239) (fun _ h9 => h9) rfl dX9_hasRoomFor_1 ?_
  refine lv_sipush (v := 600) hx hb dX9_hasRoomFor_4 (by decide) ?_
  refine lv_iload_n hx hb dX9_hasRoomFor_7 rfl (lv_at hl 1 rfl) ?_
  refine lv_isub hx hb dX9_hasRoomFor_8 ?_
  refine lv_tope (y := 596) (by decide) ?_
  refine lv_icmp_gt (tgt := 16) hx hb dX9_hasRoomFor_9 (by decide) (fun c_1 => absurd c_1 (by decide)) ?_
  intro _
  refine lv_iconst (v := 1) hx hb dX9_hasRoomFor_12 (by decide) ?_
  refine lv_goto (tgt := 17) hx hb dX9_hasRoomFor_13 (by decide) ?_
  refine W.widen (k := 0) (n := 0) (Nat.le_of_ble_eq_true rfl) (Nat.le_of_ble_eq_true rfl) ?_
  have hP9 := hP.sub (ws' := [(h0, .inr (9, [.ref p_bytes, .ref p_ts, .ref p_tc, .int 16, .int 0, .int 0]))]) [0] rfl
  have hD9 := hD.sub (ws' := [(h0, .inr (9, [.ref p_bytes, .ref p_ts, .ref p_tc, .int 16, .int 0, .int 0]))]) [0] (by decide) rfl
  have hK9 := hK.sub (tys' := []) [] rfl
  exact W.zret (ty := .boolean) (v := 1) hx hb hr rfl (fun t ht hW => ⟨⟨1, (), rfl, (rfl), ⟨by rw [ht]; exact hP9, va_K.moved hW.alike hK9, hD9⟩⟩, hS.F ht⟩) hS.2.2 dX9_hasRoomFor_17

set_option maxHeartbeats 4000000 in
set_option maxRecDepth 100000 in
theorem kX9_append_0 (l : Launch) (dC : Nat → ClassId) (dI : Nat → Nat → Nat) (sz : Nat) (h0 : Nat) (p_bytes : Nat) (p_ts : Nat) (p_tc : Nat) (k_bytes : ClassId) (f_bytes : Nat → Int32) (v1 : Int32) : Met l yX9_append (Cond.code yX9_append cX9_append 3 none :: bg) ({ frames := 1, cells := 0, slots := 0, locals := 21 }) (pcW dC dI [.ref h0, .int v1] sz [(h0, .inr (9, [.ref p_bytes, .ref p_ts, .ref p_tc, .int 0, .int 0, .int 0])), (p_bytes, .inl (k_bytes, 600, .inl f_bytes))] [(k_bytes, .byte)]) (va_Qv (fun (u : Unit) => True) (fun (u : Unit) (t : State) => ∃ (g_bytes : Nat → Int32), va_P (dC, dI) vwCl [(h0, .inr (9, [.ref p_bytes, .ref p_ts, .ref p_tc, .int 4, .int 0, .int 0])), (p_bytes, .inl (k_bytes, 600, .inl g_bytes))] t.heap ∧ va_K (dC, dI) vwCl [] t ∧ va_D (va_A [(h0, .inr (9, [.ref p_bytes, .ref p_ts, .ref p_tc, .int 0, .int 0, .int 0])), (p_bytes, .inl (k_bytes, 600, .inl f_bytes))] sz) [(h0, .inr (9, [.ref p_bytes, .ref p_ts, .ref p_tc, .int 4, .int 0, .int 0])), (p_bytes, .inl (k_bytes, 600, .inl g_bytes))]) (va_A [(h0, .inr (9, [.ref p_bytes, .ref p_ts, .ref p_tc, .int 0, .int 0, .int 0])), (p_bytes, .inl (k_bytes, 600, .inl f_bytes))] sz)) 0 0 (va_A [(h0, .inr (9, [.ref p_bytes, .ref p_ts, .ref p_tc, .int 0, .int 0, .int 0])), (p_bytes, .inl (k_bytes, 600, .inl f_bytes))] sz) := by
  refine Met.ofW (cc := cX9_append) (maxL := 3) (ret := none) pnX9 rfl ?_
  intro p e s m args below meth c s₁ B hml hv
  obtain ⟨rfl, hsz, hP, hK, hD0, hN⟩ := hv
  have hx := B.exec
  have hb := B.bytes
  have hr := B.returns
  have htb : ∀ w ∈ bg, w.before [.ref h0, .int v1].toArray s = true := fun w h => atoms_spec (ws := Cond.code yX9_append cX9_append 3 none :: bg) B.pre w (List.mem_cons_of_mem _ h)
  have hown : s.vm.findClass RX9 = some m.cls := findClass_of_methodNamed B.named
  have hlocks := B.notSynchronized
  subst hsz
  have hD := hD0.self (sz := s.heap.size)
  generalize hAe : va_A [(h0, .inr (9, [.ref p_bytes, .ref p_ts, .ref p_tc, .int 0, .int 0, .int 0])), (p_bytes, .inl (k_bytes, 600, .inl f_bytes))] s.heap.size = A at hD ⊢
  have hA : ∀ q : Nat, s.heap.size ≤ q → A q := fun q h => by rw [← hAe]; exact Or.inr h
  have hS : va_S A s.heap s.heap [] := va_S.rf
  have hl := lv_entry ([.ref h0, .int v1]) (n := 3) (Nat.le_of_ble_eq_true rfl)
  rw [lg_entry_eq]
  generalize (lg_sl ([.ref h0, .int v1]) ++ List.replicate (3 - (lg_sl ([.ref h0, .int v1])).length) Slot.unset).toArray = ls at hl ⊢
  change lv_has ls 3 [(0, .ref h0), (1, .int v1)] at hl
  clear hD0 hAe
  refine go0 (wsP := fun H => va_P (dC, dI) vwCl [(h0, .inr (9, [.ref p_bytes, .ref p_ts, .ref p_tc, .int 0, .int 0, .int 0])), (p_bytes, .inl (k_bytes, 600, .inl f_bytes))] H) hP hS ?_
  clear hP hS; intro H locs hP hS
  change va_P (dC, dI) vwCl [(h0, .inr (9, [.ref p_bytes, .ref p_ts, .ref p_tc, .int 0, .int 0, .int 0])), (p_bytes, .inl (k_bytes, 600, .inl f_bytes))] H at hP
  refine lv_aload_n hx hb dX9_append_0 rfl (lv_at hl 0 rfl) ?_
  refine lv_iconst (v := 4) hx hb dX9_append_1 (by decide) ?_
  have hPc := hP.sub (ws' := [(h0, .inr (9, [.ref p_bytes, .ref p_ts, .ref p_tc, .int 0, .int 0, .int 0]))]) [0] rfl
  have hDc := hD.sub (ws' := [(h0, .inr (9, [.ref p_bytes, .ref p_ts, .ref p_tc, .int 0, .int 0, .int 0]))]) [0] (by decide) rfl
  have hKc := hK.sub (tys' := []) [] rfl
  have hFc := va_free (wc := [(h0, .inr (9, [.ref p_bytes, .ref p_ts, .ref p_tc, .int 0, .int 0, .int 0]))]) hD hS hA [0] rfl
  refine va_calli (va_runV (C := RX9) (As := [.int 4]) (rest := []) ⟨hx, hb, hml, hown, htb⟩ (kX9_hasRoomFor_0_4 l dC dI H.size h0 p_bytes p_ts p_tc ) ⟨callB_of 1 htb (gd_c m_794) rfl rfl rfl (htb _ m_10) (htb _ m_799) hdX9_hasRoomFor ⟨(Nat.le_of_ble_eq_true rfl), (Nat.le_of_ble_eq_true rfl)⟩, htb _ m_792, htb _ m_793⟩ ⟨pcW_blind, va_recv hKc hPc (ci := 9) (q0 := 0) rfl rfl, pcW_at hPc hKc hDc hN⟩ rfl rfl hl.1 rfl (lv_room (Nat.le_of_ble_eq_true rfl)) dX9_append_2 ⟨(Nat.le_of_ble_eq_true rfl), (Nat.le_of_ble_eq_true rfl)⟩) hS (fun q _ h => hFc q h) hFc (fun r_1 u t H1 locs1 ht hvm h_2 hB hz1 hk1 hS1 => ?_)
  obtain ⟨hP1, hK1, hD1⟩ := hB
  rw [ht] at hP1
  obtain ⟨hPn, hDn⟩ := va_join (wr := [(p_bytes, .inl (k_bytes, 600, .inl f_bytes))]) (w1 := [(h0, .inr (9, [.ref p_bytes, .ref p_ts, .ref p_tc, .int 0, .int 0, .int 0]))]) hP hD [0] [1] rfl rfl (by decide) (by decide) hk1 hFc hP1 hD1
  clear hP1 hD1 hK1
  clear hP hD hS hPc hDc hKc hFc hk1 hz1 ht hvm
  clear t
  revert hS1 hPn hDn; generalize H1 = H; generalize locs1 = locs; intro hS hP hD
  change va_P (dC, dI) vwCl [(p_bytes, .inl (k_bytes, 600, .inl f_bytes)), (h0, .inr (9, [.ref p_bytes, .ref p_ts, .ref p_tc, .int 0, .int 0, .int 0]))] H at hP
  change va_D A [(p_bytes, .inl (k_bytes, 600, .inl f_bytes)), (h0, .inr (9, [.ref p_bytes, .ref p_ts, .ref p_tc, .int 0, .int 0, .int 0]))] at hD
  subst h_2
  refine lv_if_ne (tgt := 9) hx hb dX9_append_5 (by decide) ?_ (fun c_3 => absurd c_3 (by decide))
  intro _
  refine lv_bipush (v := 24) hx hb dX9_append_9 (by decide) ?_
  refine lv_istore_n (lv' := [(2, .int 24), (0, .ref h0), (1, .int v1)]) hx hb dX9_append_11 rfl hl (by decide) rfl ?_
  clear hl; intro ls hl
  refine lv_iload_n hx hb dX9_append_12 rfl (lv_at hl 0 rfl) ?_
  refine lv_if_lt (tgt := 45) hx hb dX9_append_13 (by decide) (fun c_4 => absurd c_4 (by decide)) ?_
  intro _
  refine lv_aload_n hx hb dX9_append_16 rfl (lv_at hl 1 rfl) ?_
  refine va_get (D := (dC, dI)) (ci := 9) (v := .ref p_bytes) (C := RX9) (T := TX9) (N := 6) hx hb htb iX9 hown hK hP 1 rfl rfl 0 (Nat.le_of_ble_eq_true rfl) (htb _ m_236) (fun _ h9 => h9) rfl dX9_append_17 ?_
  refine lv_aload_n hx hb dX9_append_20 rfl (lv_at hl 1 rfl) ?_
  refine va_get (D := (dC, dI)) (ci := 9) (v := .int 0) (C := RX9) (T := TX9) (N := 6) hx hb htb iX9 hown hK hP 1 rfl rfl 3 (Nat.le_of_ble_eq_true rfl) (htb _ m_239) (fun _ h9 => h9) rfl dX9_append_21 ?_
  refine lv_iload_n hx hb dX9_append_24 rfl (lv_at hl 2 rfl) ?_
  refine lv_iload_n hx hb dX9_append_25 rfl (lv_at hl 0 rfl) ?_
  refine lv_iushr hx hb dX9_append_26 rfl ?_
  refine lv_topi (fun x_5 ex_6 => ?_)
  refine lv_i2b hx hb dX9_append_27 rfl ?_
  refine lv_topi (fun x_7 ex_8 => ?_)
  refine va_bast hx hb hK hP hD hS 0 0 rfl rfl (by unfold vp_in; decide) dX9_append_28 ?_
  clear hP hD hS; intro H locs hP hD hS
  change va_P (dC, dI) vwCl [(p_bytes, .inl (k_bytes, 600, .inl (upd f_bytes (Int32.toNatClampNeg 0) (vp_nar .byte x_7)))), (h0, .inr (9, [.ref p_bytes, .ref p_ts, .ref p_tc, .int 0, .int 0, .int 0]))] H at hP
  change va_D A [(p_bytes, .inl (k_bytes, 600, .inl (upd f_bytes (Int32.toNatClampNeg 0) (vp_nar .byte x_7)))), (h0, .inr (9, [.ref p_bytes, .ref p_ts, .ref p_tc, .int 0, .int 0, .int 0]))] at hD
  refine lv_aload_n hx hb dX9_append_29 rfl (lv_at hl 1 rfl) ?_
  refine lv_dup hx hb dX9_append_30 rfl ?_
  refine va_get (D := (dC, dI)) (ci := 9) (v := .int 0) (C := RX9) (T := TX9) (N := 6) hx hb htb iX9 hown hK hP 1 rfl rfl 3 (Nat.le_of_ble_eq_true rfl) (htb _ m_239) (fun _ h9 => h9) rfl dX9_append_31 ?_
  refine lv_iconst (v := 1) hx hb dX9_append_34 (by decide) ?_
  refine lv_iadd hx hb dX9_append_35 ?_
  refine lv_tope (y := 1) (by decide) ?_
  refine va_put (D := (dC, dI)) (ci := 9) (v := .int 1) (C := RX9) (T := TX9) (N := 6) hx hb htb iX9 tyX9 tyX9_ok nmX9 hown hK hP hD hS 1 rfl rfl 3 (Nat.le_of_ble_eq_true rfl) (htb _ m_239) (fun _ h9 => h9) rfl (tyX9_ok 3 (Nat.le_of_ble_eq_true rfl)) rfl rfl (Nat.le_of_ble_eq_true rfl) dX9_append_36 ?_
  clear hP hD hS; intro H locs hP hD hS
  change va_P (dC, dI) vwCl [(p_bytes, .inl (k_bytes, 600, .inl (upd f_bytes (Int32.toNatClampNeg 0) (vp_nar .byte x_7)))), (h0, .inr (9, [.ref p_bytes, .ref p_ts, .ref p_tc, .int 1, .int 0, .int 0]))] H at hP
  change va_D A [(p_bytes, .inl (k_bytes, 600, .inl (upd f_bytes (Int32.toNatClampNeg 0) (vp_nar .byte x_7)))), (h0, .inr (9, [.ref p_bytes, .ref p_ts, .ref p_tc, .int 1, .int 0, .int 0]))] at hD
  refine lv_iinc (v := 16) (lv' := [(2, .int 16), (0, .ref h0), (1, .int v1)]) hx hb dX9_append_39 hl (k := 0) rfl (by decide) (by decide) rfl ?_
  clear hl; intro ls hl
  refine lv_goto (tgt := 12) hx hb dX9_append_42 (by decide) ?_
  refine lv_iload_n hx hb dX9_append_12 rfl (lv_at hl 0 rfl) ?_
  refine lv_if_lt (tgt := 45) hx hb dX9_append_13 (by decide) (fun c_9 => absurd c_9 (by decide)) ?_
  intro _
  refine lv_aload_n hx hb dX9_append_16 rfl (lv_at hl 1 rfl) ?_
  refine va_get (D := (dC, dI)) (ci := 9) (v := .ref p_bytes) (C := RX9) (T := TX9) (N := 6) hx hb htb iX9 hown hK hP 1 rfl rfl 0 (Nat.le_of_ble_eq_true rfl) (htb _ m_236) (fun _ h9 => h9) rfl dX9_append_17 ?_
  refine lv_aload_n hx hb dX9_append_20 rfl (lv_at hl 1 rfl) ?_
  refine va_get (D := (dC, dI)) (ci := 9) (v := .int 1) (C := RX9) (T := TX9) (N := 6) hx hb htb iX9 hown hK hP 1 rfl rfl 3 (Nat.le_of_ble_eq_true rfl) (htb _ m_239) (fun _ h9 => h9) rfl dX9_append_21 ?_
  refine lv_iload_n hx hb dX9_append_24 rfl (lv_at hl 2 rfl) ?_
  refine lv_iload_n hx hb dX9_append_25 rfl (lv_at hl 0 rfl) ?_
  refine lv_iushr hx hb dX9_append_26 rfl ?_
  refine lv_topi (fun x_10 ex_11 => ?_)
  refine lv_i2b hx hb dX9_append_27 rfl ?_
  refine lv_topi (fun x_12 ex_13 => ?_)
  refine va_bast hx hb hK hP hD hS 0 0 rfl rfl (by unfold vp_in; decide) dX9_append_28 ?_
  clear hP hD hS; intro H locs hP hD hS
  change va_P (dC, dI) vwCl [(p_bytes, .inl (k_bytes, 600, .inl (upd (upd f_bytes (Int32.toNatClampNeg 0) (vp_nar .byte x_7)) (Int32.toNatClampNeg 1) (vp_nar .byte x_12)))), (h0, .inr (9, [.ref p_bytes, .ref p_ts, .ref p_tc, .int 1, .int 0, .int 0]))] H at hP
  change va_D A [(p_bytes, .inl (k_bytes, 600, .inl (upd (upd f_bytes (Int32.toNatClampNeg 0) (vp_nar .byte x_7)) (Int32.toNatClampNeg 1) (vp_nar .byte x_12)))), (h0, .inr (9, [.ref p_bytes, .ref p_ts, .ref p_tc, .int 1, .int 0, .int 0]))] at hD
  refine lv_aload_n hx hb dX9_append_29 rfl (lv_at hl 1 rfl) ?_
  refine lv_dup hx hb dX9_append_30 rfl ?_
  refine va_get (D := (dC, dI)) (ci := 9) (v := .int 1) (C := RX9) (T := TX9) (N := 6) hx hb htb iX9 hown hK hP 1 rfl rfl 3 (Nat.le_of_ble_eq_true rfl) (htb _ m_239) (fun _ h9 => h9) rfl dX9_append_31 ?_
  refine lv_iconst (v := 1) hx hb dX9_append_34 (by decide) ?_
  refine lv_iadd hx hb dX9_append_35 ?_
  refine lv_tope (y := 2) (by decide) ?_
  refine va_put (D := (dC, dI)) (ci := 9) (v := .int 2) (C := RX9) (T := TX9) (N := 6) hx hb htb iX9 tyX9 tyX9_ok nmX9 hown hK hP hD hS 1 rfl rfl 3 (Nat.le_of_ble_eq_true rfl) (htb _ m_239) (fun _ h9 => h9) rfl (tyX9_ok 3 (Nat.le_of_ble_eq_true rfl)) rfl rfl (Nat.le_of_ble_eq_true rfl) dX9_append_36 ?_
  clear hP hD hS; intro H locs hP hD hS
  change va_P (dC, dI) vwCl [(p_bytes, .inl (k_bytes, 600, .inl (upd (upd f_bytes (Int32.toNatClampNeg 0) (vp_nar .byte x_7)) (Int32.toNatClampNeg 1) (vp_nar .byte x_12)))), (h0, .inr (9, [.ref p_bytes, .ref p_ts, .ref p_tc, .int 2, .int 0, .int 0]))] H at hP
  change va_D A [(p_bytes, .inl (k_bytes, 600, .inl (upd (upd f_bytes (Int32.toNatClampNeg 0) (vp_nar .byte x_7)) (Int32.toNatClampNeg 1) (vp_nar .byte x_12)))), (h0, .inr (9, [.ref p_bytes, .ref p_ts, .ref p_tc, .int 2, .int 0, .int 0]))] at hD
  refine lv_iinc (v := 8) (lv' := [(2, .int 8), (0, .ref h0), (1, .int v1)]) hx hb dX9_append_39 hl (k := 0) rfl (by decide) (by decide) rfl ?_
  clear hl; intro ls hl
  refine lv_goto (tgt := 12) hx hb dX9_append_42 (by decide) ?_
  refine lv_iload_n hx hb dX9_append_12 rfl (lv_at hl 0 rfl) ?_
  refine lv_if_lt (tgt := 45) hx hb dX9_append_13 (by decide) (fun c_14 => absurd c_14 (by decide)) ?_
  intro _
  refine lv_aload_n hx hb dX9_append_16 rfl (lv_at hl 1 rfl) ?_
  refine va_get (D := (dC, dI)) (ci := 9) (v := .ref p_bytes) (C := RX9) (T := TX9) (N := 6) hx hb htb iX9 hown hK hP 1 rfl rfl 0 (Nat.le_of_ble_eq_true rfl) (htb _ m_236) (fun _ h9 => h9) rfl dX9_append_17 ?_
  refine lv_aload_n hx hb dX9_append_20 rfl (lv_at hl 1 rfl) ?_
  refine va_get (D := (dC, dI)) (ci := 9) (v := .int 2) (C := RX9) (T := TX9) (N := 6) hx hb htb iX9 hown hK hP 1 rfl rfl 3 (Nat.le_of_ble_eq_true rfl) (htb _ m_239) (fun _ h9 => h9) rfl dX9_append_21 ?_
  refine lv_iload_n hx hb dX9_append_24 rfl (lv_at hl 2 rfl) ?_
  refine lv_iload_n hx hb dX9_append_25 rfl (lv_at hl 0 rfl) ?_
  refine lv_iushr hx hb dX9_append_26 rfl ?_
  refine lv_topi (fun x_15 ex_16 => ?_)
  refine lv_i2b hx hb dX9_append_27 rfl ?_
  refine lv_topi (fun x_17 ex_18 => ?_)
  refine va_bast hx hb hK hP hD hS 0 0 rfl rfl (by unfold vp_in; decide) dX9_append_28 ?_
  clear hP hD hS; intro H locs hP hD hS
  change va_P (dC, dI) vwCl [(p_bytes, .inl (k_bytes, 600, .inl (upd (upd (upd f_bytes (Int32.toNatClampNeg 0) (vp_nar .byte x_7)) (Int32.toNatClampNeg 1) (vp_nar .byte x_12)) (Int32.toNatClampNeg 2) (vp_nar .byte x_17)))), (h0, .inr (9, [.ref p_bytes, .ref p_ts, .ref p_tc, .int 2, .int 0, .int 0]))] H at hP
  change va_D A [(p_bytes, .inl (k_bytes, 600, .inl (upd (upd (upd f_bytes (Int32.toNatClampNeg 0) (vp_nar .byte x_7)) (Int32.toNatClampNeg 1) (vp_nar .byte x_12)) (Int32.toNatClampNeg 2) (vp_nar .byte x_17)))), (h0, .inr (9, [.ref p_bytes, .ref p_ts, .ref p_tc, .int 2, .int 0, .int 0]))] at hD
  refine lv_aload_n hx hb dX9_append_29 rfl (lv_at hl 1 rfl) ?_
  refine lv_dup hx hb dX9_append_30 rfl ?_
  refine va_get (D := (dC, dI)) (ci := 9) (v := .int 2) (C := RX9) (T := TX9) (N := 6) hx hb htb iX9 hown hK hP 1 rfl rfl 3 (Nat.le_of_ble_eq_true rfl) (htb _ m_239) (fun _ h9 => h9) rfl dX9_append_31 ?_
  refine lv_iconst (v := 1) hx hb dX9_append_34 (by decide) ?_
  refine lv_iadd hx hb dX9_append_35 ?_
  refine lv_tope (y := 3) (by decide) ?_
  refine va_put (D := (dC, dI)) (ci := 9) (v := .int 3) (C := RX9) (T := TX9) (N := 6) hx hb htb iX9 tyX9 tyX9_ok nmX9 hown hK hP hD hS 1 rfl rfl 3 (Nat.le_of_ble_eq_true rfl) (htb _ m_239) (fun _ h9 => h9) rfl (tyX9_ok 3 (Nat.le_of_ble_eq_true rfl)) rfl rfl (Nat.le_of_ble_eq_true rfl) dX9_append_36 ?_
  clear hP hD hS; intro H locs hP hD hS
  change va_P (dC, dI) vwCl [(p_bytes, .inl (k_bytes, 600, .inl (upd (upd (upd f_bytes (Int32.toNatClampNeg 0) (vp_nar .byte x_7)) (Int32.toNatClampNeg 1) (vp_nar .byte x_12)) (Int32.toNatClampNeg 2) (vp_nar .byte x_17)))), (h0, .inr (9, [.ref p_bytes, .ref p_ts, .ref p_tc, .int 3, .int 0, .int 0]))] H at hP
  change va_D A [(p_bytes, .inl (k_bytes, 600, .inl (upd (upd (upd f_bytes (Int32.toNatClampNeg 0) (vp_nar .byte x_7)) (Int32.toNatClampNeg 1) (vp_nar .byte x_12)) (Int32.toNatClampNeg 2) (vp_nar .byte x_17)))), (h0, .inr (9, [.ref p_bytes, .ref p_ts, .ref p_tc, .int 3, .int 0, .int 0]))] at hD
  refine lv_iinc (v := 0) (lv' := [(2, .int 0), (0, .ref h0), (1, .int v1)]) hx hb dX9_append_39 hl (k := 0) rfl (by decide) (by decide) rfl ?_
  clear hl; intro ls hl
  refine lv_goto (tgt := 12) hx hb dX9_append_42 (by decide) ?_
  refine lv_iload_n hx hb dX9_append_12 rfl (lv_at hl 0 rfl) ?_
  refine lv_if_lt (tgt := 45) hx hb dX9_append_13 (by decide) (fun c_19 => absurd c_19 (by decide)) ?_
  intro _
  refine lv_aload_n hx hb dX9_append_16 rfl (lv_at hl 1 rfl) ?_
  refine va_get (D := (dC, dI)) (ci := 9) (v := .ref p_bytes) (C := RX9) (T := TX9) (N := 6) hx hb htb iX9 hown hK hP 1 rfl rfl 0 (Nat.le_of_ble_eq_true rfl) (htb _ m_236) (fun _ h9 => h9) rfl dX9_append_17 ?_
  refine lv_aload_n hx hb dX9_append_20 rfl (lv_at hl 1 rfl) ?_
  refine va_get (D := (dC, dI)) (ci := 9) (v := .int 3) (C := RX9) (T := TX9) (N := 6) hx hb htb iX9 hown hK hP 1 rfl rfl 3 (Nat.le_of_ble_eq_true rfl) (htb _ m_239) (fun _ h9 => h9) rfl dX9_append_21 ?_
  refine lv_iload_n hx hb dX9_append_24 rfl (lv_at hl 2 rfl) ?_
  refine lv_iload_n hx hb dX9_append_25 rfl (lv_at hl 0 rfl) ?_
  refine lv_iushr hx hb dX9_append_26 rfl ?_
  refine lv_topi (fun x_20 ex_21 => ?_)
  refine lv_i2b hx hb dX9_append_27 rfl ?_
  refine lv_topi (fun x_22 ex_23 => ?_)
  refine va_bast hx hb hK hP hD hS 0 0 rfl rfl (by unfold vp_in; decide) dX9_append_28 ?_
  clear hP hD hS; intro H locs hP hD hS
  change va_P (dC, dI) vwCl [(p_bytes, .inl (k_bytes, 600, .inl (upd (upd (upd (upd f_bytes (Int32.toNatClampNeg 0) (vp_nar .byte x_7)) (Int32.toNatClampNeg 1) (vp_nar .byte x_12)) (Int32.toNatClampNeg 2) (vp_nar .byte x_17)) (Int32.toNatClampNeg 3) (vp_nar .byte x_22)))), (h0, .inr (9, [.ref p_bytes, .ref p_ts, .ref p_tc, .int 3, .int 0, .int 0]))] H at hP
  change va_D A [(p_bytes, .inl (k_bytes, 600, .inl (upd (upd (upd (upd f_bytes (Int32.toNatClampNeg 0) (vp_nar .byte x_7)) (Int32.toNatClampNeg 1) (vp_nar .byte x_12)) (Int32.toNatClampNeg 2) (vp_nar .byte x_17)) (Int32.toNatClampNeg 3) (vp_nar .byte x_22)))), (h0, .inr (9, [.ref p_bytes, .ref p_ts, .ref p_tc, .int 3, .int 0, .int 0]))] at hD
  refine lv_aload_n hx hb dX9_append_29 rfl (lv_at hl 1 rfl) ?_
  refine lv_dup hx hb dX9_append_30 rfl ?_
  refine va_get (D := (dC, dI)) (ci := 9) (v := .int 3) (C := RX9) (T := TX9) (N := 6) hx hb htb iX9 hown hK hP 1 rfl rfl 3 (Nat.le_of_ble_eq_true rfl) (htb _ m_239) (fun _ h9 => h9) rfl dX9_append_31 ?_
  refine lv_iconst (v := 1) hx hb dX9_append_34 (by decide) ?_
  refine lv_iadd hx hb dX9_append_35 ?_
  refine lv_tope (y := 4) (by decide) ?_
  refine va_put (D := (dC, dI)) (ci := 9) (v := .int 4) (C := RX9) (T := TX9) (N := 6) hx hb htb iX9 tyX9 tyX9_ok nmX9 hown hK hP hD hS 1 rfl rfl 3 (Nat.le_of_ble_eq_true rfl) (htb _ m_239) (fun _ h9 => h9) rfl (tyX9_ok 3 (Nat.le_of_ble_eq_true rfl)) rfl rfl (Nat.le_of_ble_eq_true rfl) dX9_append_36 ?_
  clear hP hD hS; intro H locs hP hD hS
  change va_P (dC, dI) vwCl [(p_bytes, .inl (k_bytes, 600, .inl (upd (upd (upd (upd f_bytes (Int32.toNatClampNeg 0) (vp_nar .byte x_7)) (Int32.toNatClampNeg 1) (vp_nar .byte x_12)) (Int32.toNatClampNeg 2) (vp_nar .byte x_17)) (Int32.toNatClampNeg 3) (vp_nar .byte x_22)))), (h0, .inr (9, [.ref p_bytes, .ref p_ts, .ref p_tc, .int 4, .int 0, .int 0]))] H at hP
  change va_D A [(p_bytes, .inl (k_bytes, 600, .inl (upd (upd (upd (upd f_bytes (Int32.toNatClampNeg 0) (vp_nar .byte x_7)) (Int32.toNatClampNeg 1) (vp_nar .byte x_12)) (Int32.toNatClampNeg 2) (vp_nar .byte x_17)) (Int32.toNatClampNeg 3) (vp_nar .byte x_22)))), (h0, .inr (9, [.ref p_bytes, .ref p_ts, .ref p_tc, .int 4, .int 0, .int 0]))] at hD
  refine lv_iinc (v := (-8)) (lv' := [(2, .int (-8)), (0, .ref h0), (1, .int v1)]) hx hb dX9_append_39 hl (k := 0) rfl (by decide) (by decide) rfl ?_
  clear hl; intro ls hl
  refine lv_goto (tgt := 12) hx hb dX9_append_42 (by decide) ?_
  refine lv_iload_n hx hb dX9_append_12 rfl (lv_at hl 0 rfl) ?_
  refine lv_if_lt (tgt := 45) hx hb dX9_append_13 (by decide) ?_ (fun c_24 => absurd (by decide) c_24)
  intro _
  refine W.widen (k := 0) (n := 0) (Nat.le_of_ble_eq_true rfl) (Nat.le_of_ble_eq_true rfl) ?_
  have hP9 := hP.sub (ws' := [(h0, .inr (9, [.ref p_bytes, .ref p_ts, .ref p_tc, .int 4, .int 0, .int 0])), (p_bytes, .inl (k_bytes, 600, .inl (upd (upd (upd (upd f_bytes (Int32.toNatClampNeg 0) (vp_nar .byte x_7)) (Int32.toNatClampNeg 1) (vp_nar .byte x_12)) (Int32.toNatClampNeg 2) (vp_nar .byte x_17)) (Int32.toNatClampNeg 3) (vp_nar .byte x_22))))]) [1, 0] rfl
  have hD9 := hD.sub (ws' := [(h0, .inr (9, [.ref p_bytes, .ref p_ts, .ref p_tc, .int 4, .int 0, .int 0])), (p_bytes, .inl (k_bytes, 600, .inl (upd (upd (upd (upd f_bytes (Int32.toNatClampNeg 0) (vp_nar .byte x_7)) (Int32.toNatClampNeg 1) (vp_nar .byte x_12)) (Int32.toNatClampNeg 2) (vp_nar .byte x_17)) (Int32.toNatClampNeg 3) (vp_nar .byte x_22))))]) [1, 0] (by decide) rfl
  have hK9 := hK.sub (tys' := []) [] rfl
  exact W.vret hx hb hr (fun t ht hW => ⟨⟨(), rfl, trivial, ⟨(upd (upd (upd (upd f_bytes (Int32.toNatClampNeg 0) (vp_nar .byte x_7)) (Int32.toNatClampNeg 1) (vp_nar .byte x_12)) (Int32.toNatClampNeg 2) (vp_nar .byte x_17)) (Int32.toNatClampNeg 3) (vp_nar .byte x_22)), by rw [ht]; exact hP9, va_K.moved hW.alike hK9, hD9⟩⟩, hS.F ht⟩) hS.2.2 dX9_append_45

set_option maxHeartbeats 4000000 in
set_option maxRecDepth 100000 in
theorem kX9_append_4 (l : Launch) (dC : Nat → ClassId) (dI : Nat → Nat → Nat) (sz : Nat) (h0 : Nat) (p_bytes : Nat) (p_ts : Nat) (p_tc : Nat) (k_bytes : ClassId) (f_bytes : Nat → Int32) (v1 : Int32) : Met l yX9_append (Cond.code yX9_append cX9_append 3 none :: bg) ({ frames := 1, cells := 0, slots := 0, locals := 21 }) (pcW dC dI [.ref h0, .int v1] sz [(h0, .inr (9, [.ref p_bytes, .ref p_ts, .ref p_tc, .int 4, .int 0, .int 0])), (p_bytes, .inl (k_bytes, 600, .inl f_bytes))] [(k_bytes, .byte)]) (va_Qv (fun (u : Unit) => True) (fun (u : Unit) (t : State) => ∃ (g_bytes : Nat → Int32), va_P (dC, dI) vwCl [(h0, .inr (9, [.ref p_bytes, .ref p_ts, .ref p_tc, .int 8, .int 0, .int 0])), (p_bytes, .inl (k_bytes, 600, .inl g_bytes))] t.heap ∧ va_K (dC, dI) vwCl [] t ∧ va_D (va_A [(h0, .inr (9, [.ref p_bytes, .ref p_ts, .ref p_tc, .int 4, .int 0, .int 0])), (p_bytes, .inl (k_bytes, 600, .inl f_bytes))] sz) [(h0, .inr (9, [.ref p_bytes, .ref p_ts, .ref p_tc, .int 8, .int 0, .int 0])), (p_bytes, .inl (k_bytes, 600, .inl g_bytes))]) (va_A [(h0, .inr (9, [.ref p_bytes, .ref p_ts, .ref p_tc, .int 4, .int 0, .int 0])), (p_bytes, .inl (k_bytes, 600, .inl f_bytes))] sz)) 0 0 (va_A [(h0, .inr (9, [.ref p_bytes, .ref p_ts, .ref p_tc, .int 4, .int 0, .int 0])), (p_bytes, .inl (k_bytes, 600, .inl f_bytes))] sz) := by
  refine Met.ofW (cc := cX9_append) (maxL := 3) (ret := none) pnX9 rfl ?_
  intro p e s m args below meth c s₁ B hml hv
  obtain ⟨rfl, hsz, hP, hK, hD0, hN⟩ := hv
  have hx := B.exec
  have hb := B.bytes
  have hr := B.returns
  have htb : ∀ w ∈ bg, w.before [.ref h0, .int v1].toArray s = true := fun w h => atoms_spec (ws := Cond.code yX9_append cX9_append 3 none :: bg) B.pre w (List.mem_cons_of_mem _ h)
  have hown : s.vm.findClass RX9 = some m.cls := findClass_of_methodNamed B.named
  have hlocks := B.notSynchronized
  subst hsz
  have hD := hD0.self (sz := s.heap.size)
  generalize hAe : va_A [(h0, .inr (9, [.ref p_bytes, .ref p_ts, .ref p_tc, .int 4, .int 0, .int 0])), (p_bytes, .inl (k_bytes, 600, .inl f_bytes))] s.heap.size = A at hD ⊢
  have hA : ∀ q : Nat, s.heap.size ≤ q → A q := fun q h => by rw [← hAe]; exact Or.inr h
  have hS : va_S A s.heap s.heap [] := va_S.rf
  have hl := lv_entry ([.ref h0, .int v1]) (n := 3) (Nat.le_of_ble_eq_true rfl)
  rw [lg_entry_eq]
  generalize (lg_sl ([.ref h0, .int v1]) ++ List.replicate (3 - (lg_sl ([.ref h0, .int v1])).length) Slot.unset).toArray = ls at hl ⊢
  change lv_has ls 3 [(0, .ref h0), (1, .int v1)] at hl
  clear hD0 hAe
  refine go0 (wsP := fun H => va_P (dC, dI) vwCl [(h0, .inr (9, [.ref p_bytes, .ref p_ts, .ref p_tc, .int 4, .int 0, .int 0])), (p_bytes, .inl (k_bytes, 600, .inl f_bytes))] H) hP hS ?_
  clear hP hS; intro H locs hP hS
  change va_P (dC, dI) vwCl [(h0, .inr (9, [.ref p_bytes, .ref p_ts, .ref p_tc, .int 4, .int 0, .int 0])), (p_bytes, .inl (k_bytes, 600, .inl f_bytes))] H at hP
  refine lv_aload_n hx hb dX9_append_0 rfl (lv_at hl 0 rfl) ?_
  refine lv_iconst (v := 4) hx hb dX9_append_1 (by decide) ?_
  have hPc := hP.sub (ws' := [(h0, .inr (9, [.ref p_bytes, .ref p_ts, .ref p_tc, .int 4, .int 0, .int 0]))]) [0] rfl
  have hDc := hD.sub (ws' := [(h0, .inr (9, [.ref p_bytes, .ref p_ts, .ref p_tc, .int 4, .int 0, .int 0]))]) [0] (by decide) rfl
  have hKc := hK.sub (tys' := []) [] rfl
  have hFc := va_free (wc := [(h0, .inr (9, [.ref p_bytes, .ref p_ts, .ref p_tc, .int 4, .int 0, .int 0]))]) hD hS hA [0] rfl
  refine va_calli (va_runV (C := RX9) (As := [.int 4]) (rest := []) ⟨hx, hb, hml, hown, htb⟩ (kX9_hasRoomFor_4_4 l dC dI H.size h0 p_bytes p_ts p_tc ) ⟨callB_of 1 htb (gd_c m_794) rfl rfl rfl (htb _ m_10) (htb _ m_799) hdX9_hasRoomFor ⟨(Nat.le_of_ble_eq_true rfl), (Nat.le_of_ble_eq_true rfl)⟩, htb _ m_792, htb _ m_793⟩ ⟨pcW_blind, va_recv hKc hPc (ci := 9) (q0 := 0) rfl rfl, pcW_at hPc hKc hDc hN⟩ rfl rfl hl.1 rfl (lv_room (Nat.le_of_ble_eq_true rfl)) dX9_append_2 ⟨(Nat.le_of_ble_eq_true rfl), (Nat.le_of_ble_eq_true rfl)⟩) hS (fun q _ h => hFc q h) hFc (fun r_1 u t H1 locs1 ht hvm h_2 hB hz1 hk1 hS1 => ?_)
  obtain ⟨hP1, hK1, hD1⟩ := hB
  rw [ht] at hP1
  obtain ⟨hPn, hDn⟩ := va_join (wr := [(p_bytes, .inl (k_bytes, 600, .inl f_bytes))]) (w1 := [(h0, .inr (9, [.ref p_bytes, .ref p_ts, .ref p_tc, .int 4, .int 0, .int 0]))]) hP hD [0] [1] rfl rfl (by decide) (by decide) hk1 hFc hP1 hD1
  clear hP1 hD1 hK1
  clear hP hD hS hPc hDc hKc hFc hk1 hz1 ht hvm
  clear t
  revert hS1 hPn hDn; generalize H1 = H; generalize locs1 = locs; intro hS hP hD
  change va_P (dC, dI) vwCl [(p_bytes, .inl (k_bytes, 600, .inl f_bytes)), (h0, .inr (9, [.ref p_bytes, .ref p_ts, .ref p_tc, .int 4, .int 0, .int 0]))] H at hP
  change va_D A [(p_bytes, .inl (k_bytes, 600, .inl f_bytes)), (h0, .inr (9, [.ref p_bytes, .ref p_ts, .ref p_tc, .int 4, .int 0, .int 0]))] at hD
  subst h_2
  refine lv_if_ne (tgt := 9) hx hb dX9_append_5 (by decide) ?_ (fun c_3 => absurd c_3 (by decide))
  intro _
  refine lv_bipush (v := 24) hx hb dX9_append_9 (by decide) ?_
  refine lv_istore_n (lv' := [(2, .int 24), (0, .ref h0), (1, .int v1)]) hx hb dX9_append_11 rfl hl (by decide) rfl ?_
  clear hl; intro ls hl
  refine lv_iload_n hx hb dX9_append_12 rfl (lv_at hl 0 rfl) ?_
  refine lv_if_lt (tgt := 45) hx hb dX9_append_13 (by decide) (fun c_4 => absurd c_4 (by decide)) ?_
  intro _
  refine lv_aload_n hx hb dX9_append_16 rfl (lv_at hl 1 rfl) ?_
  refine va_get (D := (dC, dI)) (ci := 9) (v := .ref p_bytes) (C := RX9) (T := TX9) (N := 6) hx hb htb iX9 hown hK hP 1 rfl rfl 0 (Nat.le_of_ble_eq_true rfl) (htb _ m_236) (fun _ h9 => h9) rfl dX9_append_17 ?_
  refine lv_aload_n hx hb dX9_append_20 rfl (lv_at hl 1 rfl) ?_
  refine va_get (D := (dC, dI)) (ci := 9) (v := .int 4) (C := RX9) (T := TX9) (N := 6) hx hb htb iX9 hown hK hP 1 rfl rfl 3 (Nat.le_of_ble_eq_true rfl) (htb _ m_239) (fun _ h9 => h9) rfl dX9_append_21 ?_
  refine lv_iload_n hx hb dX9_append_24 rfl (lv_at hl 2 rfl) ?_
  refine lv_iload_n hx hb dX9_append_25 rfl (lv_at hl 0 rfl) ?_
  refine lv_iushr hx hb dX9_append_26 rfl ?_
  refine lv_topi (fun x_5 ex_6 => ?_)
  refine lv_i2b hx hb dX9_append_27 rfl ?_
  refine lv_topi (fun x_7 ex_8 => ?_)
  refine va_bast hx hb hK hP hD hS 0 0 rfl rfl (by unfold vp_in; decide) dX9_append_28 ?_
  clear hP hD hS; intro H locs hP hD hS
  change va_P (dC, dI) vwCl [(p_bytes, .inl (k_bytes, 600, .inl (upd f_bytes (Int32.toNatClampNeg 4) (vp_nar .byte x_7)))), (h0, .inr (9, [.ref p_bytes, .ref p_ts, .ref p_tc, .int 4, .int 0, .int 0]))] H at hP
  change va_D A [(p_bytes, .inl (k_bytes, 600, .inl (upd f_bytes (Int32.toNatClampNeg 4) (vp_nar .byte x_7)))), (h0, .inr (9, [.ref p_bytes, .ref p_ts, .ref p_tc, .int 4, .int 0, .int 0]))] at hD
  refine lv_aload_n hx hb dX9_append_29 rfl (lv_at hl 1 rfl) ?_
  refine lv_dup hx hb dX9_append_30 rfl ?_
  refine va_get (D := (dC, dI)) (ci := 9) (v := .int 4) (C := RX9) (T := TX9) (N := 6) hx hb htb iX9 hown hK hP 1 rfl rfl 3 (Nat.le_of_ble_eq_true rfl) (htb _ m_239) (fun _ h9 => h9) rfl dX9_append_31 ?_
  refine lv_iconst (v := 1) hx hb dX9_append_34 (by decide) ?_
  refine lv_iadd hx hb dX9_append_35 ?_
  refine lv_tope (y := 5) (by decide) ?_
  refine va_put (D := (dC, dI)) (ci := 9) (v := .int 5) (C := RX9) (T := TX9) (N := 6) hx hb htb iX9 tyX9 tyX9_ok nmX9 hown hK hP hD hS 1 rfl rfl 3 (Nat.le_of_ble_eq_true rfl) (htb _ m_239) (fun _ h9 => h9) rfl (tyX9_ok 3 (Nat.le_of_ble_eq_true rfl)) rfl rfl (Nat.le_of_ble_eq_true rfl) dX9_append_36 ?_
  clear hP hD hS; intro H locs hP hD hS
  change va_P (dC, dI) vwCl [(p_bytes, .inl (k_bytes, 600, .inl (upd f_bytes (Int32.toNatClampNeg 4) (vp_nar .byte x_7)))), (h0, .inr (9, [.ref p_bytes, .ref p_ts, .ref p_tc, .int 5, .int 0, .int 0]))] H at hP
  change va_D A [(p_bytes, .inl (k_bytes, 600, .inl (upd f_bytes (Int32.toNatClampNeg 4) (vp_nar .byte x_7)))), (h0, .inr (9, [.ref p_bytes, .ref p_ts, .ref p_tc, .int 5, .int 0, .int 0]))] at hD
  refine lv_iinc (v := 16) (lv' := [(2, .int 16), (0, .ref h0), (1, .int v1)]) hx hb dX9_append_39 hl (k := 0) rfl (by decide) (by decide) rfl ?_
  clear hl; intro ls hl
  refine lv_goto (tgt := 12) hx hb dX9_append_42 (by decide) ?_
  refine lv_iload_n hx hb dX9_append_12 rfl (lv_at hl 0 rfl) ?_
  refine lv_if_lt (tgt := 45) hx hb dX9_append_13 (by decide) (fun c_9 => absurd c_9 (by decide)) ?_
  intro _
  refine lv_aload_n hx hb dX9_append_16 rfl (lv_at hl 1 rfl) ?_
  refine va_get (D := (dC, dI)) (ci := 9) (v := .ref p_bytes) (C := RX9) (T := TX9) (N := 6) hx hb htb iX9 hown hK hP 1 rfl rfl 0 (Nat.le_of_ble_eq_true rfl) (htb _ m_236) (fun _ h9 => h9) rfl dX9_append_17 ?_
  refine lv_aload_n hx hb dX9_append_20 rfl (lv_at hl 1 rfl) ?_
  refine va_get (D := (dC, dI)) (ci := 9) (v := .int 5) (C := RX9) (T := TX9) (N := 6) hx hb htb iX9 hown hK hP 1 rfl rfl 3 (Nat.le_of_ble_eq_true rfl) (htb _ m_239) (fun _ h9 => h9) rfl dX9_append_21 ?_
  refine lv_iload_n hx hb dX9_append_24 rfl (lv_at hl 2 rfl) ?_
  refine lv_iload_n hx hb dX9_append_25 rfl (lv_at hl 0 rfl) ?_
  refine lv_iushr hx hb dX9_append_26 rfl ?_
  refine lv_topi (fun x_10 ex_11 => ?_)
  refine lv_i2b hx hb dX9_append_27 rfl ?_
  refine lv_topi (fun x_12 ex_13 => ?_)
  refine va_bast hx hb hK hP hD hS 0 0 rfl rfl (by unfold vp_in; decide) dX9_append_28 ?_
  clear hP hD hS; intro H locs hP hD hS
  change va_P (dC, dI) vwCl [(p_bytes, .inl (k_bytes, 600, .inl (upd (upd f_bytes (Int32.toNatClampNeg 4) (vp_nar .byte x_7)) (Int32.toNatClampNeg 5) (vp_nar .byte x_12)))), (h0, .inr (9, [.ref p_bytes, .ref p_ts, .ref p_tc, .int 5, .int 0, .int 0]))] H at hP
  change va_D A [(p_bytes, .inl (k_bytes, 600, .inl (upd (upd f_bytes (Int32.toNatClampNeg 4) (vp_nar .byte x_7)) (Int32.toNatClampNeg 5) (vp_nar .byte x_12)))), (h0, .inr (9, [.ref p_bytes, .ref p_ts, .ref p_tc, .int 5, .int 0, .int 0]))] at hD
  refine lv_aload_n hx hb dX9_append_29 rfl (lv_at hl 1 rfl) ?_
  refine lv_dup hx hb dX9_append_30 rfl ?_
  refine va_get (D := (dC, dI)) (ci := 9) (v := .int 5) (C := RX9) (T := TX9) (N := 6) hx hb htb iX9 hown hK hP 1 rfl rfl 3 (Nat.le_of_ble_eq_true rfl) (htb _ m_239) (fun _ h9 => h9) rfl dX9_append_31 ?_
  refine lv_iconst (v := 1) hx hb dX9_append_34 (by decide) ?_
  refine lv_iadd hx hb dX9_append_35 ?_
  refine lv_tope (y := 6) (by decide) ?_
  refine va_put (D := (dC, dI)) (ci := 9) (v := .int 6) (C := RX9) (T := TX9) (N := 6) hx hb htb iX9 tyX9 tyX9_ok nmX9 hown hK hP hD hS 1 rfl rfl 3 (Nat.le_of_ble_eq_true rfl) (htb _ m_239) (fun _ h9 => h9) rfl (tyX9_ok 3 (Nat.le_of_ble_eq_true rfl)) rfl rfl (Nat.le_of_ble_eq_true rfl) dX9_append_36 ?_
  clear hP hD hS; intro H locs hP hD hS
  change va_P (dC, dI) vwCl [(p_bytes, .inl (k_bytes, 600, .inl (upd (upd f_bytes (Int32.toNatClampNeg 4) (vp_nar .byte x_7)) (Int32.toNatClampNeg 5) (vp_nar .byte x_12)))), (h0, .inr (9, [.ref p_bytes, .ref p_ts, .ref p_tc, .int 6, .int 0, .int 0]))] H at hP
  change va_D A [(p_bytes, .inl (k_bytes, 600, .inl (upd (upd f_bytes (Int32.toNatClampNeg 4) (vp_nar .byte x_7)) (Int32.toNatClampNeg 5) (vp_nar .byte x_12)))), (h0, .inr (9, [.ref p_bytes, .ref p_ts, .ref p_tc, .int 6, .int 0, .int 0]))] at hD
  refine lv_iinc (v := 8) (lv' := [(2, .int 8), (0, .ref h0), (1, .int v1)]) hx hb dX9_append_39 hl (k := 0) rfl (by decide) (by decide) rfl ?_
  clear hl; intro ls hl
  refine lv_goto (tgt := 12) hx hb dX9_append_42 (by decide) ?_
  refine lv_iload_n hx hb dX9_append_12 rfl (lv_at hl 0 rfl) ?_
  refine lv_if_lt (tgt := 45) hx hb dX9_append_13 (by decide) (fun c_14 => absurd c_14 (by decide)) ?_
  intro _
  refine lv_aload_n hx hb dX9_append_16 rfl (lv_at hl 1 rfl) ?_
  refine va_get (D := (dC, dI)) (ci := 9) (v := .ref p_bytes) (C := RX9) (T := TX9) (N := 6) hx hb htb iX9 hown hK hP 1 rfl rfl 0 (Nat.le_of_ble_eq_true rfl) (htb _ m_236) (fun _ h9 => h9) rfl dX9_append_17 ?_
  refine lv_aload_n hx hb dX9_append_20 rfl (lv_at hl 1 rfl) ?_
  refine va_get (D := (dC, dI)) (ci := 9) (v := .int 6) (C := RX9) (T := TX9) (N := 6) hx hb htb iX9 hown hK hP 1 rfl rfl 3 (Nat.le_of_ble_eq_true rfl) (htb _ m_239) (fun _ h9 => h9) rfl dX9_append_21 ?_
  refine lv_iload_n hx hb dX9_append_24 rfl (lv_at hl 2 rfl) ?_
  refine lv_iload_n hx hb dX9_append_25 rfl (lv_at hl 0 rfl) ?_
  refine lv_iushr hx hb dX9_append_26 rfl ?_
  refine lv_topi (fun x_15 ex_16 => ?_)
  refine lv_i2b hx hb dX9_append_27 rfl ?_
  refine lv_topi (fun x_17 ex_18 => ?_)
  refine va_bast hx hb hK hP hD hS 0 0 rfl rfl (by unfold vp_in; decide) dX9_append_28 ?_
  clear hP hD hS; intro H locs hP hD hS
  change va_P (dC, dI) vwCl [(p_bytes, .inl (k_bytes, 600, .inl (upd (upd (upd f_bytes (Int32.toNatClampNeg 4) (vp_nar .byte x_7)) (Int32.toNatClampNeg 5) (vp_nar .byte x_12)) (Int32.toNatClampNeg 6) (vp_nar .byte x_17)))), (h0, .inr (9, [.ref p_bytes, .ref p_ts, .ref p_tc, .int 6, .int 0, .int 0]))] H at hP
  change va_D A [(p_bytes, .inl (k_bytes, 600, .inl (upd (upd (upd f_bytes (Int32.toNatClampNeg 4) (vp_nar .byte x_7)) (Int32.toNatClampNeg 5) (vp_nar .byte x_12)) (Int32.toNatClampNeg 6) (vp_nar .byte x_17)))), (h0, .inr (9, [.ref p_bytes, .ref p_ts, .ref p_tc, .int 6, .int 0, .int 0]))] at hD
  refine lv_aload_n hx hb dX9_append_29 rfl (lv_at hl 1 rfl) ?_
  refine lv_dup hx hb dX9_append_30 rfl ?_
  refine va_get (D := (dC, dI)) (ci := 9) (v := .int 6) (C := RX9) (T := TX9) (N := 6) hx hb htb iX9 hown hK hP 1 rfl rfl 3 (Nat.le_of_ble_eq_true rfl) (htb _ m_239) (fun _ h9 => h9) rfl dX9_append_31 ?_
  refine lv_iconst (v := 1) hx hb dX9_append_34 (by decide) ?_
  refine lv_iadd hx hb dX9_append_35 ?_
  refine lv_tope (y := 7) (by decide) ?_
  refine va_put (D := (dC, dI)) (ci := 9) (v := .int 7) (C := RX9) (T := TX9) (N := 6) hx hb htb iX9 tyX9 tyX9_ok nmX9 hown hK hP hD hS 1 rfl rfl 3 (Nat.le_of_ble_eq_true rfl) (htb _ m_239) (fun _ h9 => h9) rfl (tyX9_ok 3 (Nat.le_of_ble_eq_true rfl)) rfl rfl (Nat.le_of_ble_eq_true rfl) dX9_append_36 ?_
  clear hP hD hS; intro H locs hP hD hS
  change va_P (dC, dI) vwCl [(p_bytes, .inl (k_bytes, 600, .inl (upd (upd (upd f_bytes (Int32.toNatClampNeg 4) (vp_nar .byte x_7)) (Int32.toNatClampNeg 5) (vp_nar .byte x_12)) (Int32.toNatClampNeg 6) (vp_nar .byte x_17)))), (h0, .inr (9, [.ref p_bytes, .ref p_ts, .ref p_tc, .int 7, .int 0, .int 0]))] H at hP
  change va_D A [(p_bytes, .inl (k_bytes, 600, .inl (upd (upd (upd f_bytes (Int32.toNatClampNeg 4) (vp_nar .byte x_7)) (Int32.toNatClampNeg 5) (vp_nar .byte x_12)) (Int32.toNatClampNeg 6) (vp_nar .byte x_17)))), (h0, .inr (9, [.ref p_bytes, .ref p_ts, .ref p_tc, .int 7, .int 0, .int 0]))] at hD
  refine lv_iinc (v := 0) (lv' := [(2, .int 0), (0, .ref h0), (1, .int v1)]) hx hb dX9_append_39 hl (k := 0) rfl (by decide) (by decide) rfl ?_
  clear hl; intro ls hl
  refine lv_goto (tgt := 12) hx hb dX9_append_42 (by decide) ?_
  refine lv_iload_n hx hb dX9_append_12 rfl (lv_at hl 0 rfl) ?_
  refine lv_if_lt (tgt := 45) hx hb dX9_append_13 (by decide) (fun c_19 => absurd c_19 (by decide)) ?_
  intro _
  refine lv_aload_n hx hb dX9_append_16 rfl (lv_at hl 1 rfl) ?_
  refine va_get (D := (dC, dI)) (ci := 9) (v := .ref p_bytes) (C := RX9) (T := TX9) (N := 6) hx hb htb iX9 hown hK hP 1 rfl rfl 0 (Nat.le_of_ble_eq_true rfl) (htb _ m_236) (fun _ h9 => h9) rfl dX9_append_17 ?_
  refine lv_aload_n hx hb dX9_append_20 rfl (lv_at hl 1 rfl) ?_
  refine va_get (D := (dC, dI)) (ci := 9) (v := .int 7) (C := RX9) (T := TX9) (N := 6) hx hb htb iX9 hown hK hP 1 rfl rfl 3 (Nat.le_of_ble_eq_true rfl) (htb _ m_239) (fun _ h9 => h9) rfl dX9_append_21 ?_
  refine lv_iload_n hx hb dX9_append_24 rfl (lv_at hl 2 rfl) ?_
  refine lv_iload_n hx hb dX9_append_25 rfl (lv_at hl 0 rfl) ?_
  refine lv_iushr hx hb dX9_append_26 rfl ?_
  refine lv_topi (fun x_20 ex_21 => ?_)
  refine lv_i2b hx hb dX9_append_27 rfl ?_
  refine lv_topi (fun x_22 ex_23 => ?_)
  refine va_bast hx hb hK hP hD hS 0 0 rfl rfl (by unfold vp_in; decide) dX9_append_28 ?_
  clear hP hD hS; intro H locs hP hD hS
  change va_P (dC, dI) vwCl [(p_bytes, .inl (k_bytes, 600, .inl (upd (upd (upd (upd f_bytes (Int32.toNatClampNeg 4) (vp_nar .byte x_7)) (Int32.toNatClampNeg 5) (vp_nar .byte x_12)) (Int32.toNatClampNeg 6) (vp_nar .byte x_17)) (Int32.toNatClampNeg 7) (vp_nar .byte x_22)))), (h0, .inr (9, [.ref p_bytes, .ref p_ts, .ref p_tc, .int 7, .int 0, .int 0]))] H at hP
  change va_D A [(p_bytes, .inl (k_bytes, 600, .inl (upd (upd (upd (upd f_bytes (Int32.toNatClampNeg 4) (vp_nar .byte x_7)) (Int32.toNatClampNeg 5) (vp_nar .byte x_12)) (Int32.toNatClampNeg 6) (vp_nar .byte x_17)) (Int32.toNatClampNeg 7) (vp_nar .byte x_22)))), (h0, .inr (9, [.ref p_bytes, .ref p_ts, .ref p_tc, .int 7, .int 0, .int 0]))] at hD
  refine lv_aload_n hx hb dX9_append_29 rfl (lv_at hl 1 rfl) ?_
  refine lv_dup hx hb dX9_append_30 rfl ?_
  refine va_get (D := (dC, dI)) (ci := 9) (v := .int 7) (C := RX9) (T := TX9) (N := 6) hx hb htb iX9 hown hK hP 1 rfl rfl 3 (Nat.le_of_ble_eq_true rfl) (htb _ m_239) (fun _ h9 => h9) rfl dX9_append_31 ?_
  refine lv_iconst (v := 1) hx hb dX9_append_34 (by decide) ?_
  refine lv_iadd hx hb dX9_append_35 ?_
  refine lv_tope (y := 8) (by decide) ?_
  refine va_put (D := (dC, dI)) (ci := 9) (v := .int 8) (C := RX9) (T := TX9) (N := 6) hx hb htb iX9 tyX9 tyX9_ok nmX9 hown hK hP hD hS 1 rfl rfl 3 (Nat.le_of_ble_eq_true rfl) (htb _ m_239) (fun _ h9 => h9) rfl (tyX9_ok 3 (Nat.le_of_ble_eq_true rfl)) rfl rfl (Nat.le_of_ble_eq_true rfl) dX9_append_36 ?_
  clear hP hD hS; intro H locs hP hD hS
  change va_P (dC, dI) vwCl [(p_bytes, .inl (k_bytes, 600, .inl (upd (upd (upd (upd f_bytes (Int32.toNatClampNeg 4) (vp_nar .byte x_7)) (Int32.toNatClampNeg 5) (vp_nar .byte x_12)) (Int32.toNatClampNeg 6) (vp_nar .byte x_17)) (Int32.toNatClampNeg 7) (vp_nar .byte x_22)))), (h0, .inr (9, [.ref p_bytes, .ref p_ts, .ref p_tc, .int 8, .int 0, .int 0]))] H at hP
  change va_D A [(p_bytes, .inl (k_bytes, 600, .inl (upd (upd (upd (upd f_bytes (Int32.toNatClampNeg 4) (vp_nar .byte x_7)) (Int32.toNatClampNeg 5) (vp_nar .byte x_12)) (Int32.toNatClampNeg 6) (vp_nar .byte x_17)) (Int32.toNatClampNeg 7) (vp_nar .byte x_22)))), (h0, .inr (9, [.ref p_bytes, .ref p_ts, .ref p_tc, .int 8, .int 0, .int 0]))] at hD
  refine lv_iinc (v := (-8)) (lv' := [(2, .int (-8)), (0, .ref h0), (1, .int v1)]) hx hb dX9_append_39 hl (k := 0) rfl (by decide) (by decide) rfl ?_
  clear hl; intro ls hl
  refine lv_goto (tgt := 12) hx hb dX9_append_42 (by decide) ?_
  refine lv_iload_n hx hb dX9_append_12 rfl (lv_at hl 0 rfl) ?_
  refine lv_if_lt (tgt := 45) hx hb dX9_append_13 (by decide) ?_ (fun c_24 => absurd (by decide) c_24)
  intro _
  refine W.widen (k := 0) (n := 0) (Nat.le_of_ble_eq_true rfl) (Nat.le_of_ble_eq_true rfl) ?_
  have hP9 := hP.sub (ws' := [(h0, .inr (9, [.ref p_bytes, .ref p_ts, .ref p_tc, .int 8, .int 0, .int 0])), (p_bytes, .inl (k_bytes, 600, .inl (upd (upd (upd (upd f_bytes (Int32.toNatClampNeg 4) (vp_nar .byte x_7)) (Int32.toNatClampNeg 5) (vp_nar .byte x_12)) (Int32.toNatClampNeg 6) (vp_nar .byte x_17)) (Int32.toNatClampNeg 7) (vp_nar .byte x_22))))]) [1, 0] rfl
  have hD9 := hD.sub (ws' := [(h0, .inr (9, [.ref p_bytes, .ref p_ts, .ref p_tc, .int 8, .int 0, .int 0])), (p_bytes, .inl (k_bytes, 600, .inl (upd (upd (upd (upd f_bytes (Int32.toNatClampNeg 4) (vp_nar .byte x_7)) (Int32.toNatClampNeg 5) (vp_nar .byte x_12)) (Int32.toNatClampNeg 6) (vp_nar .byte x_17)) (Int32.toNatClampNeg 7) (vp_nar .byte x_22))))]) [1, 0] (by decide) rfl
  have hK9 := hK.sub (tys' := []) [] rfl
  exact W.vret hx hb hr (fun t ht hW => ⟨⟨(), rfl, trivial, ⟨(upd (upd (upd (upd f_bytes (Int32.toNatClampNeg 4) (vp_nar .byte x_7)) (Int32.toNatClampNeg 5) (vp_nar .byte x_12)) (Int32.toNatClampNeg 6) (vp_nar .byte x_17)) (Int32.toNatClampNeg 7) (vp_nar .byte x_22)), by rw [ht]; exact hP9, va_K.moved hW.alike hK9, hD9⟩⟩, hS.F ht⟩) hS.2.2 dX9_append_45

set_option maxHeartbeats 4000000 in
set_option maxRecDepth 100000 in
theorem kX9_append_8 (l : Launch) (dC : Nat → ClassId) (dI : Nat → Nat → Nat) (sz : Nat) (h0 : Nat) (p_bytes : Nat) (p_ts : Nat) (p_tc : Nat) (k_bytes : ClassId) (f_bytes : Nat → Int32) (v1 : Int32) : Met l yX9_append (Cond.code yX9_append cX9_append 3 none :: bg) ({ frames := 1, cells := 0, slots := 0, locals := 21 }) (pcW dC dI [.ref h0, .int v1] sz [(h0, .inr (9, [.ref p_bytes, .ref p_ts, .ref p_tc, .int 8, .int 0, .int 0])), (p_bytes, .inl (k_bytes, 600, .inl f_bytes))] [(k_bytes, .byte)]) (va_Qv (fun (u : Unit) => True) (fun (u : Unit) (t : State) => ∃ (g_bytes : Nat → Int32), va_P (dC, dI) vwCl [(h0, .inr (9, [.ref p_bytes, .ref p_ts, .ref p_tc, .int 12, .int 0, .int 0])), (p_bytes, .inl (k_bytes, 600, .inl g_bytes))] t.heap ∧ va_K (dC, dI) vwCl [] t ∧ va_D (va_A [(h0, .inr (9, [.ref p_bytes, .ref p_ts, .ref p_tc, .int 8, .int 0, .int 0])), (p_bytes, .inl (k_bytes, 600, .inl f_bytes))] sz) [(h0, .inr (9, [.ref p_bytes, .ref p_ts, .ref p_tc, .int 12, .int 0, .int 0])), (p_bytes, .inl (k_bytes, 600, .inl g_bytes))]) (va_A [(h0, .inr (9, [.ref p_bytes, .ref p_ts, .ref p_tc, .int 8, .int 0, .int 0])), (p_bytes, .inl (k_bytes, 600, .inl f_bytes))] sz)) 0 0 (va_A [(h0, .inr (9, [.ref p_bytes, .ref p_ts, .ref p_tc, .int 8, .int 0, .int 0])), (p_bytes, .inl (k_bytes, 600, .inl f_bytes))] sz) := by
  refine Met.ofW (cc := cX9_append) (maxL := 3) (ret := none) pnX9 rfl ?_
  intro p e s m args below meth c s₁ B hml hv
  obtain ⟨rfl, hsz, hP, hK, hD0, hN⟩ := hv
  have hx := B.exec
  have hb := B.bytes
  have hr := B.returns
  have htb : ∀ w ∈ bg, w.before [.ref h0, .int v1].toArray s = true := fun w h => atoms_spec (ws := Cond.code yX9_append cX9_append 3 none :: bg) B.pre w (List.mem_cons_of_mem _ h)
  have hown : s.vm.findClass RX9 = some m.cls := findClass_of_methodNamed B.named
  have hlocks := B.notSynchronized
  subst hsz
  have hD := hD0.self (sz := s.heap.size)
  generalize hAe : va_A [(h0, .inr (9, [.ref p_bytes, .ref p_ts, .ref p_tc, .int 8, .int 0, .int 0])), (p_bytes, .inl (k_bytes, 600, .inl f_bytes))] s.heap.size = A at hD ⊢
  have hA : ∀ q : Nat, s.heap.size ≤ q → A q := fun q h => by rw [← hAe]; exact Or.inr h
  have hS : va_S A s.heap s.heap [] := va_S.rf
  have hl := lv_entry ([.ref h0, .int v1]) (n := 3) (Nat.le_of_ble_eq_true rfl)
  rw [lg_entry_eq]
  generalize (lg_sl ([.ref h0, .int v1]) ++ List.replicate (3 - (lg_sl ([.ref h0, .int v1])).length) Slot.unset).toArray = ls at hl ⊢
  change lv_has ls 3 [(0, .ref h0), (1, .int v1)] at hl
  clear hD0 hAe
  refine go0 (wsP := fun H => va_P (dC, dI) vwCl [(h0, .inr (9, [.ref p_bytes, .ref p_ts, .ref p_tc, .int 8, .int 0, .int 0])), (p_bytes, .inl (k_bytes, 600, .inl f_bytes))] H) hP hS ?_
  clear hP hS; intro H locs hP hS
  change va_P (dC, dI) vwCl [(h0, .inr (9, [.ref p_bytes, .ref p_ts, .ref p_tc, .int 8, .int 0, .int 0])), (p_bytes, .inl (k_bytes, 600, .inl f_bytes))] H at hP
  refine lv_aload_n hx hb dX9_append_0 rfl (lv_at hl 0 rfl) ?_
  refine lv_iconst (v := 4) hx hb dX9_append_1 (by decide) ?_
  have hPc := hP.sub (ws' := [(h0, .inr (9, [.ref p_bytes, .ref p_ts, .ref p_tc, .int 8, .int 0, .int 0]))]) [0] rfl
  have hDc := hD.sub (ws' := [(h0, .inr (9, [.ref p_bytes, .ref p_ts, .ref p_tc, .int 8, .int 0, .int 0]))]) [0] (by decide) rfl
  have hKc := hK.sub (tys' := []) [] rfl
  have hFc := va_free (wc := [(h0, .inr (9, [.ref p_bytes, .ref p_ts, .ref p_tc, .int 8, .int 0, .int 0]))]) hD hS hA [0] rfl
  refine va_calli (va_runV (C := RX9) (As := [.int 4]) (rest := []) ⟨hx, hb, hml, hown, htb⟩ (kX9_hasRoomFor_8_4 l dC dI H.size h0 p_bytes p_ts p_tc ) ⟨callB_of 1 htb (gd_c m_794) rfl rfl rfl (htb _ m_10) (htb _ m_799) hdX9_hasRoomFor ⟨(Nat.le_of_ble_eq_true rfl), (Nat.le_of_ble_eq_true rfl)⟩, htb _ m_792, htb _ m_793⟩ ⟨pcW_blind, va_recv hKc hPc (ci := 9) (q0 := 0) rfl rfl, pcW_at hPc hKc hDc hN⟩ rfl rfl hl.1 rfl (lv_room (Nat.le_of_ble_eq_true rfl)) dX9_append_2 ⟨(Nat.le_of_ble_eq_true rfl), (Nat.le_of_ble_eq_true rfl)⟩) hS (fun q _ h => hFc q h) hFc (fun r_1 u t H1 locs1 ht hvm h_2 hB hz1 hk1 hS1 => ?_)
  obtain ⟨hP1, hK1, hD1⟩ := hB
  rw [ht] at hP1
  obtain ⟨hPn, hDn⟩ := va_join (wr := [(p_bytes, .inl (k_bytes, 600, .inl f_bytes))]) (w1 := [(h0, .inr (9, [.ref p_bytes, .ref p_ts, .ref p_tc, .int 8, .int 0, .int 0]))]) hP hD [0] [1] rfl rfl (by decide) (by decide) hk1 hFc hP1 hD1
  clear hP1 hD1 hK1
  clear hP hD hS hPc hDc hKc hFc hk1 hz1 ht hvm
  clear t
  revert hS1 hPn hDn; generalize H1 = H; generalize locs1 = locs; intro hS hP hD
  change va_P (dC, dI) vwCl [(p_bytes, .inl (k_bytes, 600, .inl f_bytes)), (h0, .inr (9, [.ref p_bytes, .ref p_ts, .ref p_tc, .int 8, .int 0, .int 0]))] H at hP
  change va_D A [(p_bytes, .inl (k_bytes, 600, .inl f_bytes)), (h0, .inr (9, [.ref p_bytes, .ref p_ts, .ref p_tc, .int 8, .int 0, .int 0]))] at hD
  subst h_2
  refine lv_if_ne (tgt := 9) hx hb dX9_append_5 (by decide) ?_ (fun c_3 => absurd c_3 (by decide))
  intro _
  refine lv_bipush (v := 24) hx hb dX9_append_9 (by decide) ?_
  refine lv_istore_n (lv' := [(2, .int 24), (0, .ref h0), (1, .int v1)]) hx hb dX9_append_11 rfl hl (by decide) rfl ?_
  clear hl; intro ls hl
  refine lv_iload_n hx hb dX9_append_12 rfl (lv_at hl 0 rfl) ?_
  refine lv_if_lt (tgt := 45) hx hb dX9_append_13 (by decide) (fun c_4 => absurd c_4 (by decide)) ?_
  intro _
  refine lv_aload_n hx hb dX9_append_16 rfl (lv_at hl 1 rfl) ?_
  refine va_get (D := (dC, dI)) (ci := 9) (v := .ref p_bytes) (C := RX9) (T := TX9) (N := 6) hx hb htb iX9 hown hK hP 1 rfl rfl 0 (Nat.le_of_ble_eq_true rfl) (htb _ m_236) (fun _ h9 => h9) rfl dX9_append_17 ?_
  refine lv_aload_n hx hb dX9_append_20 rfl (lv_at hl 1 rfl) ?_
  refine va_get (D := (dC, dI)) (ci := 9) (v := .int 8) (C := RX9) (T := TX9) (N := 6) hx hb htb iX9 hown hK hP 1 rfl rfl 3 (Nat.le_of_ble_eq_true rfl) (htb _ m_239) (fun _ h9 => h9) rfl dX9_append_21 ?_
  refine lv_iload_n hx hb dX9_append_24 rfl (lv_at hl 2 rfl) ?_
  refine lv_iload_n hx hb dX9_append_25 rfl (lv_at hl 0 rfl) ?_
  refine lv_iushr hx hb dX9_append_26 rfl ?_
  refine lv_topi (fun x_5 ex_6 => ?_)
  refine lv_i2b hx hb dX9_append_27 rfl ?_
  refine lv_topi (fun x_7 ex_8 => ?_)
  refine va_bast hx hb hK hP hD hS 0 0 rfl rfl (by unfold vp_in; decide) dX9_append_28 ?_
  clear hP hD hS; intro H locs hP hD hS
  change va_P (dC, dI) vwCl [(p_bytes, .inl (k_bytes, 600, .inl (upd f_bytes (Int32.toNatClampNeg 8) (vp_nar .byte x_7)))), (h0, .inr (9, [.ref p_bytes, .ref p_ts, .ref p_tc, .int 8, .int 0, .int 0]))] H at hP
  change va_D A [(p_bytes, .inl (k_bytes, 600, .inl (upd f_bytes (Int32.toNatClampNeg 8) (vp_nar .byte x_7)))), (h0, .inr (9, [.ref p_bytes, .ref p_ts, .ref p_tc, .int 8, .int 0, .int 0]))] at hD
  refine lv_aload_n hx hb dX9_append_29 rfl (lv_at hl 1 rfl) ?_
  refine lv_dup hx hb dX9_append_30 rfl ?_
  refine va_get (D := (dC, dI)) (ci := 9) (v := .int 8) (C := RX9) (T := TX9) (N := 6) hx hb htb iX9 hown hK hP 1 rfl rfl 3 (Nat.le_of_ble_eq_true rfl) (htb _ m_239) (fun _ h9 => h9) rfl dX9_append_31 ?_
  refine lv_iconst (v := 1) hx hb dX9_append_34 (by decide) ?_
  refine lv_iadd hx hb dX9_append_35 ?_
  refine lv_tope (y := 9) (by decide) ?_
  refine va_put (D := (dC, dI)) (ci := 9) (v := .int 9) (C := RX9) (T := TX9) (N := 6) hx hb htb iX9 tyX9 tyX9_ok nmX9 hown hK hP hD hS 1 rfl rfl 3 (Nat.le_of_ble_eq_true rfl) (htb _ m_239) (fun _ h9 => h9) rfl (tyX9_ok 3 (Nat.le_of_ble_eq_true rfl)) rfl rfl (Nat.le_of_ble_eq_true rfl) dX9_append_36 ?_
  clear hP hD hS; intro H locs hP hD hS
  change va_P (dC, dI) vwCl [(p_bytes, .inl (k_bytes, 600, .inl (upd f_bytes (Int32.toNatClampNeg 8) (vp_nar .byte x_7)))), (h0, .inr (9, [.ref p_bytes, .ref p_ts, .ref p_tc, .int 9, .int 0, .int 0]))] H at hP
  change va_D A [(p_bytes, .inl (k_bytes, 600, .inl (upd f_bytes (Int32.toNatClampNeg 8) (vp_nar .byte x_7)))), (h0, .inr (9, [.ref p_bytes, .ref p_ts, .ref p_tc, .int 9, .int 0, .int 0]))] at hD
  refine lv_iinc (v := 16) (lv' := [(2, .int 16), (0, .ref h0), (1, .int v1)]) hx hb dX9_append_39 hl (k := 0) rfl (by decide) (by decide) rfl ?_
  clear hl; intro ls hl
  refine lv_goto (tgt := 12) hx hb dX9_append_42 (by decide) ?_
  refine lv_iload_n hx hb dX9_append_12 rfl (lv_at hl 0 rfl) ?_
  refine lv_if_lt (tgt := 45) hx hb dX9_append_13 (by decide) (fun c_9 => absurd c_9 (by decide)) ?_
  intro _
  refine lv_aload_n hx hb dX9_append_16 rfl (lv_at hl 1 rfl) ?_
  refine va_get (D := (dC, dI)) (ci := 9) (v := .ref p_bytes) (C := RX9) (T := TX9) (N := 6) hx hb htb iX9 hown hK hP 1 rfl rfl 0 (Nat.le_of_ble_eq_true rfl) (htb _ m_236) (fun _ h9 => h9) rfl dX9_append_17 ?_
  refine lv_aload_n hx hb dX9_append_20 rfl (lv_at hl 1 rfl) ?_
  refine va_get (D := (dC, dI)) (ci := 9) (v := .int 9) (C := RX9) (T := TX9) (N := 6) hx hb htb iX9 hown hK hP 1 rfl rfl 3 (Nat.le_of_ble_eq_true rfl) (htb _ m_239) (fun _ h9 => h9) rfl dX9_append_21 ?_
  refine lv_iload_n hx hb dX9_append_24 rfl (lv_at hl 2 rfl) ?_
  refine lv_iload_n hx hb dX9_append_25 rfl (lv_at hl 0 rfl) ?_
  refine lv_iushr hx hb dX9_append_26 rfl ?_
  refine lv_topi (fun x_10 ex_11 => ?_)
  refine lv_i2b hx hb dX9_append_27 rfl ?_
  refine lv_topi (fun x_12 ex_13 => ?_)
  refine va_bast hx hb hK hP hD hS 0 0 rfl rfl (by unfold vp_in; decide) dX9_append_28 ?_
  clear hP hD hS; intro H locs hP hD hS
  change va_P (dC, dI) vwCl [(p_bytes, .inl (k_bytes, 600, .inl (upd (upd f_bytes (Int32.toNatClampNeg 8) (vp_nar .byte x_7)) (Int32.toNatClampNeg 9) (vp_nar .byte x_12)))), (h0, .inr (9, [.ref p_bytes, .ref p_ts, .ref p_tc, .int 9, .int 0, .int 0]))] H at hP
  change va_D A [(p_bytes, .inl (k_bytes, 600, .inl (upd (upd f_bytes (Int32.toNatClampNeg 8) (vp_nar .byte x_7)) (Int32.toNatClampNeg 9) (vp_nar .byte x_12)))), (h0, .inr (9, [.ref p_bytes, .ref p_ts, .ref p_tc, .int 9, .int 0, .int 0]))] at hD
  refine lv_aload_n hx hb dX9_append_29 rfl (lv_at hl 1 rfl) ?_
  refine lv_dup hx hb dX9_append_30 rfl ?_
  refine va_get (D := (dC, dI)) (ci := 9) (v := .int 9) (C := RX9) (T := TX9) (N := 6) hx hb htb iX9 hown hK hP 1 rfl rfl 3 (Nat.le_of_ble_eq_true rfl) (htb _ m_239) (fun _ h9 => h9) rfl dX9_append_31 ?_
  refine lv_iconst (v := 1) hx hb dX9_append_34 (by decide) ?_
  refine lv_iadd hx hb dX9_append_35 ?_
  refine lv_tope (y := 10) (by decide) ?_
  refine va_put (D := (dC, dI)) (ci := 9) (v := .int 10) (C := RX9) (T := TX9) (N := 6) hx hb htb iX9 tyX9 tyX9_ok nmX9 hown hK hP hD hS 1 rfl rfl 3 (Nat.le_of_ble_eq_true rfl) (htb _ m_239) (fun _ h9 => h9) rfl (tyX9_ok 3 (Nat.le_of_ble_eq_true rfl)) rfl rfl (Nat.le_of_ble_eq_true rfl) dX9_append_36 ?_
  clear hP hD hS; intro H locs hP hD hS
  change va_P (dC, dI) vwCl [(p_bytes, .inl (k_bytes, 600, .inl (upd (upd f_bytes (Int32.toNatClampNeg 8) (vp_nar .byte x_7)) (Int32.toNatClampNeg 9) (vp_nar .byte x_12)))), (h0, .inr (9, [.ref p_bytes, .ref p_ts, .ref p_tc, .int 10, .int 0, .int 0]))] H at hP
  change va_D A [(p_bytes, .inl (k_bytes, 600, .inl (upd (upd f_bytes (Int32.toNatClampNeg 8) (vp_nar .byte x_7)) (Int32.toNatClampNeg 9) (vp_nar .byte x_12)))), (h0, .inr (9, [.ref p_bytes, .ref p_ts, .ref p_tc, .int 10, .int 0, .int 0]))] at hD
  refine lv_iinc (v := 8) (lv' := [(2, .int 8), (0, .ref h0), (1, .int v1)]) hx hb dX9_append_39 hl (k := 0) rfl (by decide) (by decide) rfl ?_
  clear hl; intro ls hl
  refine lv_goto (tgt := 12) hx hb dX9_append_42 (by decide) ?_
  refine lv_iload_n hx hb dX9_append_12 rfl (lv_at hl 0 rfl) ?_
  refine lv_if_lt (tgt := 45) hx hb dX9_append_13 (by decide) (fun c_14 => absurd c_14 (by decide)) ?_
  intro _
  refine lv_aload_n hx hb dX9_append_16 rfl (lv_at hl 1 rfl) ?_
  refine va_get (D := (dC, dI)) (ci := 9) (v := .ref p_bytes) (C := RX9) (T := TX9) (N := 6) hx hb htb iX9 hown hK hP 1 rfl rfl 0 (Nat.le_of_ble_eq_true rfl) (htb _ m_236) (fun _ h9 => h9) rfl dX9_append_17 ?_
  refine lv_aload_n hx hb dX9_append_20 rfl (lv_at hl 1 rfl) ?_
  refine va_get (D := (dC, dI)) (ci := 9) (v := .int 10) (C := RX9) (T := TX9) (N := 6) hx hb htb iX9 hown hK hP 1 rfl rfl 3 (Nat.le_of_ble_eq_true rfl) (htb _ m_239) (fun _ h9 => h9) rfl dX9_append_21 ?_
  refine lv_iload_n hx hb dX9_append_24 rfl (lv_at hl 2 rfl) ?_
  refine lv_iload_n hx hb dX9_append_25 rfl (lv_at hl 0 rfl) ?_
  refine lv_iushr hx hb dX9_append_26 rfl ?_
  refine lv_topi (fun x_15 ex_16 => ?_)
  refine lv_i2b hx hb dX9_append_27 rfl ?_
  refine lv_topi (fun x_17 ex_18 => ?_)
  refine va_bast hx hb hK hP hD hS 0 0 rfl rfl (by unfold vp_in; decide) dX9_append_28 ?_
  clear hP hD hS; intro H locs hP hD hS
  change va_P (dC, dI) vwCl [(p_bytes, .inl (k_bytes, 600, .inl (upd (upd (upd f_bytes (Int32.toNatClampNeg 8) (vp_nar .byte x_7)) (Int32.toNatClampNeg 9) (vp_nar .byte x_12)) (Int32.toNatClampNeg 10) (vp_nar .byte x_17)))), (h0, .inr (9, [.ref p_bytes, .ref p_ts, .ref p_tc, .int 10, .int 0, .int 0]))] H at hP
  change va_D A [(p_bytes, .inl (k_bytes, 600, .inl (upd (upd (upd f_bytes (Int32.toNatClampNeg 8) (vp_nar .byte x_7)) (Int32.toNatClampNeg 9) (vp_nar .byte x_12)) (Int32.toNatClampNeg 10) (vp_nar .byte x_17)))), (h0, .inr (9, [.ref p_bytes, .ref p_ts, .ref p_tc, .int 10, .int 0, .int 0]))] at hD
  refine lv_aload_n hx hb dX9_append_29 rfl (lv_at hl 1 rfl) ?_
  refine lv_dup hx hb dX9_append_30 rfl ?_
  refine va_get (D := (dC, dI)) (ci := 9) (v := .int 10) (C := RX9) (T := TX9) (N := 6) hx hb htb iX9 hown hK hP 1 rfl rfl 3 (Nat.le_of_ble_eq_true rfl) (htb _ m_239) (fun _ h9 => h9) rfl dX9_append_31 ?_
  refine lv_iconst (v := 1) hx hb dX9_append_34 (by decide) ?_
  refine lv_iadd hx hb dX9_append_35 ?_
  refine lv_tope (y := 11) (by decide) ?_
  refine va_put (D := (dC, dI)) (ci := 9) (v := .int 11) (C := RX9) (T := TX9) (N := 6) hx hb htb iX9 tyX9 tyX9_ok nmX9 hown hK hP hD hS 1 rfl rfl 3 (Nat.le_of_ble_eq_true rfl) (htb _ m_239) (fun _ h9 => h9) rfl (tyX9_ok 3 (Nat.le_of_ble_eq_true rfl)) rfl rfl (Nat.le_of_ble_eq_true rfl) dX9_append_36 ?_
  clear hP hD hS; intro H locs hP hD hS
  change va_P (dC, dI) vwCl [(p_bytes, .inl (k_bytes, 600, .inl (upd (upd (upd f_bytes (Int32.toNatClampNeg 8) (vp_nar .byte x_7)) (Int32.toNatClampNeg 9) (vp_nar .byte x_12)) (Int32.toNatClampNeg 10) (vp_nar .byte x_17)))), (h0, .inr (9, [.ref p_bytes, .ref p_ts, .ref p_tc, .int 11, .int 0, .int 0]))] H at hP
  change va_D A [(p_bytes, .inl (k_bytes, 600, .inl (upd (upd (upd f_bytes (Int32.toNatClampNeg 8) (vp_nar .byte x_7)) (Int32.toNatClampNeg 9) (vp_nar .byte x_12)) (Int32.toNatClampNeg 10) (vp_nar .byte x_17)))), (h0, .inr (9, [.ref p_bytes, .ref p_ts, .ref p_tc, .int 11, .int 0, .int 0]))] at hD
  refine lv_iinc (v := 0) (lv' := [(2, .int 0), (0, .ref h0), (1, .int v1)]) hx hb dX9_append_39 hl (k := 0) rfl (by decide) (by decide) rfl ?_
  clear hl; intro ls hl
  refine lv_goto (tgt := 12) hx hb dX9_append_42 (by decide) ?_
  refine lv_iload_n hx hb dX9_append_12 rfl (lv_at hl 0 rfl) ?_
  refine lv_if_lt (tgt := 45) hx hb dX9_append_13 (by decide) (fun c_19 => absurd c_19 (by decide)) ?_
  intro _
  refine lv_aload_n hx hb dX9_append_16 rfl (lv_at hl 1 rfl) ?_
  refine va_get (D := (dC, dI)) (ci := 9) (v := .ref p_bytes) (C := RX9) (T := TX9) (N := 6) hx hb htb iX9 hown hK hP 1 rfl rfl 0 (Nat.le_of_ble_eq_true rfl) (htb _ m_236) (fun _ h9 => h9) rfl dX9_append_17 ?_
  refine lv_aload_n hx hb dX9_append_20 rfl (lv_at hl 1 rfl) ?_
  refine va_get (D := (dC, dI)) (ci := 9) (v := .int 11) (C := RX9) (T := TX9) (N := 6) hx hb htb iX9 hown hK hP 1 rfl rfl 3 (Nat.le_of_ble_eq_true rfl) (htb _ m_239) (fun _ h9 => h9) rfl dX9_append_21 ?_
  refine lv_iload_n hx hb dX9_append_24 rfl (lv_at hl 2 rfl) ?_
  refine lv_iload_n hx hb dX9_append_25 rfl (lv_at hl 0 rfl) ?_
  refine lv_iushr hx hb dX9_append_26 rfl ?_
  refine lv_topi (fun x_20 ex_21 => ?_)
  refine lv_i2b hx hb dX9_append_27 rfl ?_
  refine lv_topi (fun x_22 ex_23 => ?_)
  refine va_bast hx hb hK hP hD hS 0 0 rfl rfl (by unfold vp_in; decide) dX9_append_28 ?_
  clear hP hD hS; intro H locs hP hD hS
  change va_P (dC, dI) vwCl [(p_bytes, .inl (k_bytes, 600, .inl (upd (upd (upd (upd f_bytes (Int32.toNatClampNeg 8) (vp_nar .byte x_7)) (Int32.toNatClampNeg 9) (vp_nar .byte x_12)) (Int32.toNatClampNeg 10) (vp_nar .byte x_17)) (Int32.toNatClampNeg 11) (vp_nar .byte x_22)))), (h0, .inr (9, [.ref p_bytes, .ref p_ts, .ref p_tc, .int 11, .int 0, .int 0]))] H at hP
  change va_D A [(p_bytes, .inl (k_bytes, 600, .inl (upd (upd (upd (upd f_bytes (Int32.toNatClampNeg 8) (vp_nar .byte x_7)) (Int32.toNatClampNeg 9) (vp_nar .byte x_12)) (Int32.toNatClampNeg 10) (vp_nar .byte x_17)) (Int32.toNatClampNeg 11) (vp_nar .byte x_22)))), (h0, .inr (9, [.ref p_bytes, .ref p_ts, .ref p_tc, .int 11, .int 0, .int 0]))] at hD
  refine lv_aload_n hx hb dX9_append_29 rfl (lv_at hl 1 rfl) ?_
  refine lv_dup hx hb dX9_append_30 rfl ?_
  refine va_get (D := (dC, dI)) (ci := 9) (v := .int 11) (C := RX9) (T := TX9) (N := 6) hx hb htb iX9 hown hK hP 1 rfl rfl 3 (Nat.le_of_ble_eq_true rfl) (htb _ m_239) (fun _ h9 => h9) rfl dX9_append_31 ?_
  refine lv_iconst (v := 1) hx hb dX9_append_34 (by decide) ?_
  refine lv_iadd hx hb dX9_append_35 ?_
  refine lv_tope (y := 12) (by decide) ?_
  refine va_put (D := (dC, dI)) (ci := 9) (v := .int 12) (C := RX9) (T := TX9) (N := 6) hx hb htb iX9 tyX9 tyX9_ok nmX9 hown hK hP hD hS 1 rfl rfl 3 (Nat.le_of_ble_eq_true rfl) (htb _ m_239) (fun _ h9 => h9) rfl (tyX9_ok 3 (Nat.le_of_ble_eq_true rfl)) rfl rfl (Nat.le_of_ble_eq_true rfl) dX9_append_36 ?_
  clear hP hD hS; intro H locs hP hD hS
  change va_P (dC, dI) vwCl [(p_bytes, .inl (k_bytes, 600, .inl (upd (upd (upd (upd f_bytes (Int32.toNatClampNeg 8) (vp_nar .byte x_7)) (Int32.toNatClampNeg 9) (vp_nar .byte x_12)) (Int32.toNatClampNeg 10) (vp_nar .byte x_17)) (Int32.toNatClampNeg 11) (vp_nar .byte x_22)))), (h0, .inr (9, [.ref p_bytes, .ref p_ts, .ref p_tc, .int 12, .int 0, .int 0]))] H at hP
  change va_D A [(p_bytes, .inl (k_bytes, 600, .inl (upd (upd (upd (upd f_bytes (Int32.toNatClampNeg 8) (vp_nar .byte x_7)) (Int32.toNatClampNeg 9) (vp_nar .byte x_12)) (Int32.toNatClampNeg 10) (vp_nar .byte x_17)) (Int32.toNatClampNeg 11) (vp_nar .byte x_22)))), (h0, .inr (9, [.ref p_bytes, .ref p_ts, .ref p_tc, .int 12, .int 0, .int 0]))] at hD
  refine lv_iinc (v := (-8)) (lv' := [(2, .int (-8)), (0, .ref h0), (1, .int v1)]) hx hb dX9_append_39 hl (k := 0) rfl (by decide) (by decide) rfl ?_
  clear hl; intro ls hl
  refine lv_goto (tgt := 12) hx hb dX9_append_42 (by decide) ?_
  refine lv_iload_n hx hb dX9_append_12 rfl (lv_at hl 0 rfl) ?_
  refine lv_if_lt (tgt := 45) hx hb dX9_append_13 (by decide) ?_ (fun c_24 => absurd (by decide) c_24)
  intro _
  refine W.widen (k := 0) (n := 0) (Nat.le_of_ble_eq_true rfl) (Nat.le_of_ble_eq_true rfl) ?_
  have hP9 := hP.sub (ws' := [(h0, .inr (9, [.ref p_bytes, .ref p_ts, .ref p_tc, .int 12, .int 0, .int 0])), (p_bytes, .inl (k_bytes, 600, .inl (upd (upd (upd (upd f_bytes (Int32.toNatClampNeg 8) (vp_nar .byte x_7)) (Int32.toNatClampNeg 9) (vp_nar .byte x_12)) (Int32.toNatClampNeg 10) (vp_nar .byte x_17)) (Int32.toNatClampNeg 11) (vp_nar .byte x_22))))]) [1, 0] rfl
  have hD9 := hD.sub (ws' := [(h0, .inr (9, [.ref p_bytes, .ref p_ts, .ref p_tc, .int 12, .int 0, .int 0])), (p_bytes, .inl (k_bytes, 600, .inl (upd (upd (upd (upd f_bytes (Int32.toNatClampNeg 8) (vp_nar .byte x_7)) (Int32.toNatClampNeg 9) (vp_nar .byte x_12)) (Int32.toNatClampNeg 10) (vp_nar .byte x_17)) (Int32.toNatClampNeg 11) (vp_nar .byte x_22))))]) [1, 0] (by decide) rfl
  have hK9 := hK.sub (tys' := []) [] rfl
  exact W.vret hx hb hr (fun t ht hW => ⟨⟨(), rfl, trivial, ⟨(upd (upd (upd (upd f_bytes (Int32.toNatClampNeg 8) (vp_nar .byte x_7)) (Int32.toNatClampNeg 9) (vp_nar .byte x_12)) (Int32.toNatClampNeg 10) (vp_nar .byte x_17)) (Int32.toNatClampNeg 11) (vp_nar .byte x_22)), by rw [ht]; exact hP9, va_K.moved hW.alike hK9, hD9⟩⟩, hS.F ht⟩) hS.2.2 dX9_append_45

set_option maxHeartbeats 4000000 in
set_option maxRecDepth 100000 in
theorem kX9_append_12 (l : Launch) (dC : Nat → ClassId) (dI : Nat → Nat → Nat) (sz : Nat) (h0 : Nat) (p_bytes : Nat) (p_ts : Nat) (p_tc : Nat) (k_bytes : ClassId) (f_bytes : Nat → Int32) (v1 : Int32) : Met l yX9_append (Cond.code yX9_append cX9_append 3 none :: bg) ({ frames := 1, cells := 0, slots := 0, locals := 21 }) (pcW dC dI [.ref h0, .int v1] sz [(h0, .inr (9, [.ref p_bytes, .ref p_ts, .ref p_tc, .int 12, .int 0, .int 0])), (p_bytes, .inl (k_bytes, 600, .inl f_bytes))] [(k_bytes, .byte)]) (va_Qv (fun (u : Unit) => True) (fun (u : Unit) (t : State) => ∃ (g_bytes : Nat → Int32), va_P (dC, dI) vwCl [(h0, .inr (9, [.ref p_bytes, .ref p_ts, .ref p_tc, .int 16, .int 0, .int 0])), (p_bytes, .inl (k_bytes, 600, .inl g_bytes))] t.heap ∧ va_K (dC, dI) vwCl [] t ∧ va_D (va_A [(h0, .inr (9, [.ref p_bytes, .ref p_ts, .ref p_tc, .int 12, .int 0, .int 0])), (p_bytes, .inl (k_bytes, 600, .inl f_bytes))] sz) [(h0, .inr (9, [.ref p_bytes, .ref p_ts, .ref p_tc, .int 16, .int 0, .int 0])), (p_bytes, .inl (k_bytes, 600, .inl g_bytes))]) (va_A [(h0, .inr (9, [.ref p_bytes, .ref p_ts, .ref p_tc, .int 12, .int 0, .int 0])), (p_bytes, .inl (k_bytes, 600, .inl f_bytes))] sz)) 0 0 (va_A [(h0, .inr (9, [.ref p_bytes, .ref p_ts, .ref p_tc, .int 12, .int 0, .int 0])), (p_bytes, .inl (k_bytes, 600, .inl f_bytes))] sz) := by
  refine Met.ofW (cc := cX9_append) (maxL := 3) (ret := none) pnX9 rfl ?_
  intro p e s m args below meth c s₁ B hml hv
  obtain ⟨rfl, hsz, hP, hK, hD0, hN⟩ := hv
  have hx := B.exec
  have hb := B.bytes
  have hr := B.returns
  have htb : ∀ w ∈ bg, w.before [.ref h0, .int v1].toArray s = true := fun w h => atoms_spec (ws := Cond.code yX9_append cX9_append 3 none :: bg) B.pre w (List.mem_cons_of_mem _ h)
  have hown : s.vm.findClass RX9 = some m.cls := findClass_of_methodNamed B.named
  have hlocks := B.notSynchronized
  subst hsz
  have hD := hD0.self (sz := s.heap.size)
  generalize hAe : va_A [(h0, .inr (9, [.ref p_bytes, .ref p_ts, .ref p_tc, .int 12, .int 0, .int 0])), (p_bytes, .inl (k_bytes, 600, .inl f_bytes))] s.heap.size = A at hD ⊢
  have hA : ∀ q : Nat, s.heap.size ≤ q → A q := fun q h => by rw [← hAe]; exact Or.inr h
  have hS : va_S A s.heap s.heap [] := va_S.rf
  have hl := lv_entry ([.ref h0, .int v1]) (n := 3) (Nat.le_of_ble_eq_true rfl)
  rw [lg_entry_eq]
  generalize (lg_sl ([.ref h0, .int v1]) ++ List.replicate (3 - (lg_sl ([.ref h0, .int v1])).length) Slot.unset).toArray = ls at hl ⊢
  change lv_has ls 3 [(0, .ref h0), (1, .int v1)] at hl
  clear hD0 hAe
  refine go0 (wsP := fun H => va_P (dC, dI) vwCl [(h0, .inr (9, [.ref p_bytes, .ref p_ts, .ref p_tc, .int 12, .int 0, .int 0])), (p_bytes, .inl (k_bytes, 600, .inl f_bytes))] H) hP hS ?_
  clear hP hS; intro H locs hP hS
  change va_P (dC, dI) vwCl [(h0, .inr (9, [.ref p_bytes, .ref p_ts, .ref p_tc, .int 12, .int 0, .int 0])), (p_bytes, .inl (k_bytes, 600, .inl f_bytes))] H at hP
  refine lv_aload_n hx hb dX9_append_0 rfl (lv_at hl 0 rfl) ?_
  refine lv_iconst (v := 4) hx hb dX9_append_1 (by decide) ?_
  have hPc := hP.sub (ws' := [(h0, .inr (9, [.ref p_bytes, .ref p_ts, .ref p_tc, .int 12, .int 0, .int 0]))]) [0] rfl
  have hDc := hD.sub (ws' := [(h0, .inr (9, [.ref p_bytes, .ref p_ts, .ref p_tc, .int 12, .int 0, .int 0]))]) [0] (by decide) rfl
  have hKc := hK.sub (tys' := []) [] rfl
  have hFc := va_free (wc := [(h0, .inr (9, [.ref p_bytes, .ref p_ts, .ref p_tc, .int 12, .int 0, .int 0]))]) hD hS hA [0] rfl
  refine va_calli (va_runV (C := RX9) (As := [.int 4]) (rest := []) ⟨hx, hb, hml, hown, htb⟩ (kX9_hasRoomFor_12_4 l dC dI H.size h0 p_bytes p_ts p_tc ) ⟨callB_of 1 htb (gd_c m_794) rfl rfl rfl (htb _ m_10) (htb _ m_799) hdX9_hasRoomFor ⟨(Nat.le_of_ble_eq_true rfl), (Nat.le_of_ble_eq_true rfl)⟩, htb _ m_792, htb _ m_793⟩ ⟨pcW_blind, va_recv hKc hPc (ci := 9) (q0 := 0) rfl rfl, pcW_at hPc hKc hDc hN⟩ rfl rfl hl.1 rfl (lv_room (Nat.le_of_ble_eq_true rfl)) dX9_append_2 ⟨(Nat.le_of_ble_eq_true rfl), (Nat.le_of_ble_eq_true rfl)⟩) hS (fun q _ h => hFc q h) hFc (fun r_1 u t H1 locs1 ht hvm h_2 hB hz1 hk1 hS1 => ?_)
  obtain ⟨hP1, hK1, hD1⟩ := hB
  rw [ht] at hP1
  obtain ⟨hPn, hDn⟩ := va_join (wr := [(p_bytes, .inl (k_bytes, 600, .inl f_bytes))]) (w1 := [(h0, .inr (9, [.ref p_bytes, .ref p_ts, .ref p_tc, .int 12, .int 0, .int 0]))]) hP hD [0] [1] rfl rfl (by decide) (by decide) hk1 hFc hP1 hD1
  clear hP1 hD1 hK1
  clear hP hD hS hPc hDc hKc hFc hk1 hz1 ht hvm
  clear t
  revert hS1 hPn hDn; generalize H1 = H; generalize locs1 = locs; intro hS hP hD
  change va_P (dC, dI) vwCl [(p_bytes, .inl (k_bytes, 600, .inl f_bytes)), (h0, .inr (9, [.ref p_bytes, .ref p_ts, .ref p_tc, .int 12, .int 0, .int 0]))] H at hP
  change va_D A [(p_bytes, .inl (k_bytes, 600, .inl f_bytes)), (h0, .inr (9, [.ref p_bytes, .ref p_ts, .ref p_tc, .int 12, .int 0, .int 0]))] at hD
  subst h_2
  refine lv_if_ne (tgt := 9) hx hb dX9_append_5 (by decide) ?_ (fun c_3 => absurd c_3 (by decide))
  intro _
  refine lv_bipush (v := 24) hx hb dX9_append_9 (by decide) ?_
  refine lv_istore_n (lv' := [(2, .int 24), (0, .ref h0), (1, .int v1)]) hx hb dX9_append_11 rfl hl (by decide) rfl ?_
  clear hl; intro ls hl
  refine lv_iload_n hx hb dX9_append_12 rfl (lv_at hl 0 rfl) ?_
  refine lv_if_lt (tgt := 45) hx hb dX9_append_13 (by decide) (fun c_4 => absurd c_4 (by decide)) ?_
  intro _
  refine lv_aload_n hx hb dX9_append_16 rfl (lv_at hl 1 rfl) ?_
  refine va_get (D := (dC, dI)) (ci := 9) (v := .ref p_bytes) (C := RX9) (T := TX9) (N := 6) hx hb htb iX9 hown hK hP 1 rfl rfl 0 (Nat.le_of_ble_eq_true rfl) (htb _ m_236) (fun _ h9 => h9) rfl dX9_append_17 ?_
  refine lv_aload_n hx hb dX9_append_20 rfl (lv_at hl 1 rfl) ?_
  refine va_get (D := (dC, dI)) (ci := 9) (v := .int 12) (C := RX9) (T := TX9) (N := 6) hx hb htb iX9 hown hK hP 1 rfl rfl 3 (Nat.le_of_ble_eq_true rfl) (htb _ m_239) (fun _ h9 => h9) rfl dX9_append_21 ?_
  refine lv_iload_n hx hb dX9_append_24 rfl (lv_at hl 2 rfl) ?_
  refine lv_iload_n hx hb dX9_append_25 rfl (lv_at hl 0 rfl) ?_
  refine lv_iushr hx hb dX9_append_26 rfl ?_
  refine lv_topi (fun x_5 ex_6 => ?_)
  refine lv_i2b hx hb dX9_append_27 rfl ?_
  refine lv_topi (fun x_7 ex_8 => ?_)
  refine va_bast hx hb hK hP hD hS 0 0 rfl rfl (by unfold vp_in; decide) dX9_append_28 ?_
  clear hP hD hS; intro H locs hP hD hS
  change va_P (dC, dI) vwCl [(p_bytes, .inl (k_bytes, 600, .inl (upd f_bytes (Int32.toNatClampNeg 12) (vp_nar .byte x_7)))), (h0, .inr (9, [.ref p_bytes, .ref p_ts, .ref p_tc, .int 12, .int 0, .int 0]))] H at hP
  change va_D A [(p_bytes, .inl (k_bytes, 600, .inl (upd f_bytes (Int32.toNatClampNeg 12) (vp_nar .byte x_7)))), (h0, .inr (9, [.ref p_bytes, .ref p_ts, .ref p_tc, .int 12, .int 0, .int 0]))] at hD
  refine lv_aload_n hx hb dX9_append_29 rfl (lv_at hl 1 rfl) ?_
  refine lv_dup hx hb dX9_append_30 rfl ?_
  refine va_get (D := (dC, dI)) (ci := 9) (v := .int 12) (C := RX9) (T := TX9) (N := 6) hx hb htb iX9 hown hK hP 1 rfl rfl 3 (Nat.le_of_ble_eq_true rfl) (htb _ m_239) (fun _ h9 => h9) rfl dX9_append_31 ?_
  refine lv_iconst (v := 1) hx hb dX9_append_34 (by decide) ?_
  refine lv_iadd hx hb dX9_append_35 ?_
  refine lv_tope (y := 13) (by decide) ?_
  refine va_put (D := (dC, dI)) (ci := 9) (v := .int 13) (C := RX9) (T := TX9) (N := 6) hx hb htb iX9 tyX9 tyX9_ok nmX9 hown hK hP hD hS 1 rfl rfl 3 (Nat.le_of_ble_eq_true rfl) (htb _ m_239) (fun _ h9 => h9) rfl (tyX9_ok 3 (Nat.le_of_ble_eq_true rfl)) rfl rfl (Nat.le_of_ble_eq_true rfl) dX9_append_36 ?_
  clear hP hD hS; intro H locs hP hD hS
  change va_P (dC, dI) vwCl [(p_bytes, .inl (k_bytes, 600, .inl (upd f_bytes (Int32.toNatClampNeg 12) (vp_nar .byte x_7)))), (h0, .inr (9, [.ref p_bytes, .ref p_ts, .ref p_tc, .int 13, .int 0, .int 0]))] H at hP
  change va_D A [(p_bytes, .inl (k_bytes, 600, .inl (upd f_bytes (Int32.toNatClampNeg 12) (vp_nar .byte x_7)))), (h0, .inr (9, [.ref p_bytes, .ref p_ts, .ref p_tc, .int 13, .int 0, .int 0]))] at hD
  refine lv_iinc (v := 16) (lv' := [(2, .int 16), (0, .ref h0), (1, .int v1)]) hx hb dX9_append_39 hl (k := 0) rfl (by decide) (by decide) rfl ?_
  clear hl; intro ls hl
  refine lv_goto (tgt := 12) hx hb dX9_append_42 (by decide) ?_
  refine lv_iload_n hx hb dX9_append_12 rfl (lv_at hl 0 rfl) ?_
  refine lv_if_lt (tgt := 45) hx hb dX9_append_13 (by decide) (fun c_9 => absurd c_9 (by decide)) ?_
  intro _
  refine lv_aload_n hx hb dX9_append_16 rfl (lv_at hl 1 rfl) ?_
  refine va_get (D := (dC, dI)) (ci := 9) (v := .ref p_bytes) (C := RX9) (T := TX9) (N := 6) hx hb htb iX9 hown hK hP 1 rfl rfl 0 (Nat.le_of_ble_eq_true rfl) (htb _ m_236) (fun _ h9 => h9) rfl dX9_append_17 ?_
  refine lv_aload_n hx hb dX9_append_20 rfl (lv_at hl 1 rfl) ?_
  refine va_get (D := (dC, dI)) (ci := 9) (v := .int 13) (C := RX9) (T := TX9) (N := 6) hx hb htb iX9 hown hK hP 1 rfl rfl 3 (Nat.le_of_ble_eq_true rfl) (htb _ m_239) (fun _ h9 => h9) rfl dX9_append_21 ?_
  refine lv_iload_n hx hb dX9_append_24 rfl (lv_at hl 2 rfl) ?_
  refine lv_iload_n hx hb dX9_append_25 rfl (lv_at hl 0 rfl) ?_
  refine lv_iushr hx hb dX9_append_26 rfl ?_
  refine lv_topi (fun x_10 ex_11 => ?_)
  refine lv_i2b hx hb dX9_append_27 rfl ?_
  refine lv_topi (fun x_12 ex_13 => ?_)
  refine va_bast hx hb hK hP hD hS 0 0 rfl rfl (by unfold vp_in; decide) dX9_append_28 ?_
  clear hP hD hS; intro H locs hP hD hS
  change va_P (dC, dI) vwCl [(p_bytes, .inl (k_bytes, 600, .inl (upd (upd f_bytes (Int32.toNatClampNeg 12) (vp_nar .byte x_7)) (Int32.toNatClampNeg 13) (vp_nar .byte x_12)))), (h0, .inr (9, [.ref p_bytes, .ref p_ts, .ref p_tc, .int 13, .int 0, .int 0]))] H at hP
  change va_D A [(p_bytes, .inl (k_bytes, 600, .inl (upd (upd f_bytes (Int32.toNatClampNeg 12) (vp_nar .byte x_7)) (Int32.toNatClampNeg 13) (vp_nar .byte x_12)))), (h0, .inr (9, [.ref p_bytes, .ref p_ts, .ref p_tc, .int 13, .int 0, .int 0]))] at hD
  refine lv_aload_n hx hb dX9_append_29 rfl (lv_at hl 1 rfl) ?_
  refine lv_dup hx hb dX9_append_30 rfl ?_
  refine va_get (D := (dC, dI)) (ci := 9) (v := .int 13) (C := RX9) (T := TX9) (N := 6) hx hb htb iX9 hown hK hP 1 rfl rfl 3 (Nat.le_of_ble_eq_true rfl) (htb _ m_239) (fun _ h9 => h9) rfl dX9_append_31 ?_
  refine lv_iconst (v := 1) hx hb dX9_append_34 (by decide) ?_
  refine lv_iadd hx hb dX9_append_35 ?_
  refine lv_tope (y := 14) (by decide) ?_
  refine va_put (D := (dC, dI)) (ci := 9) (v := .int 14) (C := RX9) (T := TX9) (N := 6) hx hb htb iX9 tyX9 tyX9_ok nmX9 hown hK hP hD hS 1 rfl rfl 3 (Nat.le_of_ble_eq_true rfl) (htb _ m_239) (fun _ h9 => h9) rfl (tyX9_ok 3 (Nat.le_of_ble_eq_true rfl)) rfl rfl (Nat.le_of_ble_eq_true rfl) dX9_append_36 ?_
  clear hP hD hS; intro H locs hP hD hS
  change va_P (dC, dI) vwCl [(p_bytes, .inl (k_bytes, 600, .inl (upd (upd f_bytes (Int32.toNatClampNeg 12) (vp_nar .byte x_7)) (Int32.toNatClampNeg 13) (vp_nar .byte x_12)))), (h0, .inr (9, [.ref p_bytes, .ref p_ts, .ref p_tc, .int 14, .int 0, .int 0]))] H at hP
  change va_D A [(p_bytes, .inl (k_bytes, 600, .inl (upd (upd f_bytes (Int32.toNatClampNeg 12) (vp_nar .byte x_7)) (Int32.toNatClampNeg 13) (vp_nar .byte x_12)))), (h0, .inr (9, [.ref p_bytes, .ref p_ts, .ref p_tc, .int 14, .int 0, .int 0]))] at hD
  refine lv_iinc (v := 8) (lv' := [(2, .int 8), (0, .ref h0), (1, .int v1)]) hx hb dX9_append_39 hl (k := 0) rfl (by decide) (by decide) rfl ?_
  clear hl; intro ls hl
  refine lv_goto (tgt := 12) hx hb dX9_append_42 (by decide) ?_
  refine lv_iload_n hx hb dX9_append_12 rfl (lv_at hl 0 rfl) ?_
  refine lv_if_lt (tgt := 45) hx hb dX9_append_13 (by decide) (fun c_14 => absurd c_14 (by decide)) ?_
  intro _
  refine lv_aload_n hx hb dX9_append_16 rfl (lv_at hl 1 rfl) ?_
  refine va_get (D := (dC, dI)) (ci := 9) (v := .ref p_bytes) (C := RX9) (T := TX9) (N := 6) hx hb htb iX9 hown hK hP 1 rfl rfl 0 (Nat.le_of_ble_eq_true rfl) (htb _ m_236) (fun _ h9 => h9) rfl dX9_append_17 ?_
  refine lv_aload_n hx hb dX9_append_20 rfl (lv_at hl 1 rfl) ?_
  refine va_get (D := (dC, dI)) (ci := 9) (v := .int 14) (C := RX9) (T := TX9) (N := 6) hx hb htb iX9 hown hK hP 1 rfl rfl 3 (Nat.le_of_ble_eq_true rfl) (htb _ m_239) (fun _ h9 => h9) rfl dX9_append_21 ?_
  refine lv_iload_n hx hb dX9_append_24 rfl (lv_at hl 2 rfl) ?_
  refine lv_iload_n hx hb dX9_append_25 rfl (lv_at hl 0 rfl) ?_
  refine lv_iushr hx hb dX9_append_26 rfl ?_
  refine lv_topi (fun x_15 ex_16 => ?_)
  refine lv_i2b hx hb dX9_append_27 rfl ?_
  refine lv_topi (fun x_17 ex_18 => ?_)
  refine va_bast hx hb hK hP hD hS 0 0 rfl rfl (by unfold vp_in; decide) dX9_append_28 ?_
  clear hP hD hS; intro H locs hP hD hS
  change va_P (dC, dI) vwCl [(p_bytes, .inl (k_bytes, 600, .inl (upd (upd (upd f_bytes (Int32.toNatClampNeg 12) (vp_nar .byte x_7)) (Int32.toNatClampNeg 13) (vp_nar .byte x_12)) (Int32.toNatClampNeg 14) (vp_nar .byte x_17)))), (h0, .inr (9, [.ref p_bytes, .ref p_ts, .ref p_tc, .int 14, .int 0, .int 0]))] H at hP
  change va_D A [(p_bytes, .inl (k_bytes, 600, .inl (upd (upd (upd f_bytes (Int32.toNatClampNeg 12) (vp_nar .byte x_7)) (Int32.toNatClampNeg 13) (vp_nar .byte x_12)) (Int32.toNatClampNeg 14) (vp_nar .byte x_17)))), (h0, .inr (9, [.ref p_bytes, .ref p_ts, .ref p_tc, .int 14, .int 0, .int 0]))] at hD
  refine lv_aload_n hx hb dX9_append_29 rfl (lv_at hl 1 rfl) ?_
  refine lv_dup hx hb dX9_append_30 rfl ?_
  refine va_get (D := (dC, dI)) (ci := 9) (v := .int 14) (C := RX9) (T := TX9) (N := 6) hx hb htb iX9 hown hK hP 1 rfl rfl 3 (Nat.le_of_ble_eq_true rfl) (htb _ m_239) (fun _ h9 => h9) rfl dX9_append_31 ?_
  refine lv_iconst (v := 1) hx hb dX9_append_34 (by decide) ?_
  refine lv_iadd hx hb dX9_append_35 ?_
  refine lv_tope (y := 15) (by decide) ?_
  refine va_put (D := (dC, dI)) (ci := 9) (v := .int 15) (C := RX9) (T := TX9) (N := 6) hx hb htb iX9 tyX9 tyX9_ok nmX9 hown hK hP hD hS 1 rfl rfl 3 (Nat.le_of_ble_eq_true rfl) (htb _ m_239) (fun _ h9 => h9) rfl (tyX9_ok 3 (Nat.le_of_ble_eq_true rfl)) rfl rfl (Nat.le_of_ble_eq_true rfl) dX9_append_36 ?_
  clear hP hD hS; intro H locs hP hD hS
  change va_P (dC, dI) vwCl [(p_bytes, .inl (k_bytes, 600, .inl (upd (upd (upd f_bytes (Int32.toNatClampNeg 12) (vp_nar .byte x_7)) (Int32.toNatClampNeg 13) (vp_nar .byte x_12)) (Int32.toNatClampNeg 14) (vp_nar .byte x_17)))), (h0, .inr (9, [.ref p_bytes, .ref p_ts, .ref p_tc, .int 15, .int 0, .int 0]))] H at hP
  change va_D A [(p_bytes, .inl (k_bytes, 600, .inl (upd (upd (upd f_bytes (Int32.toNatClampNeg 12) (vp_nar .byte x_7)) (Int32.toNatClampNeg 13) (vp_nar .byte x_12)) (Int32.toNatClampNeg 14) (vp_nar .byte x_17)))), (h0, .inr (9, [.ref p_bytes, .ref p_ts, .ref p_tc, .int 15, .int 0, .int 0]))] at hD
  refine lv_iinc (v := 0) (lv' := [(2, .int 0), (0, .ref h0), (1, .int v1)]) hx hb dX9_append_39 hl (k := 0) rfl (by decide) (by decide) rfl ?_
  clear hl; intro ls hl
  refine lv_goto (tgt := 12) hx hb dX9_append_42 (by decide) ?_
  refine lv_iload_n hx hb dX9_append_12 rfl (lv_at hl 0 rfl) ?_
  refine lv_if_lt (tgt := 45) hx hb dX9_append_13 (by decide) (fun c_19 => absurd c_19 (by decide)) ?_
  intro _
  refine lv_aload_n hx hb dX9_append_16 rfl (lv_at hl 1 rfl) ?_
  refine va_get (D := (dC, dI)) (ci := 9) (v := .ref p_bytes) (C := RX9) (T := TX9) (N := 6) hx hb htb iX9 hown hK hP 1 rfl rfl 0 (Nat.le_of_ble_eq_true rfl) (htb _ m_236) (fun _ h9 => h9) rfl dX9_append_17 ?_
  refine lv_aload_n hx hb dX9_append_20 rfl (lv_at hl 1 rfl) ?_
  refine va_get (D := (dC, dI)) (ci := 9) (v := .int 15) (C := RX9) (T := TX9) (N := 6) hx hb htb iX9 hown hK hP 1 rfl rfl 3 (Nat.le_of_ble_eq_true rfl) (htb _ m_239) (fun _ h9 => h9) rfl dX9_append_21 ?_
  refine lv_iload_n hx hb dX9_append_24 rfl (lv_at hl 2 rfl) ?_
  refine lv_iload_n hx hb dX9_append_25 rfl (lv_at hl 0 rfl) ?_
  refine lv_iushr hx hb dX9_append_26 rfl ?_
  refine lv_topi (fun x_20 ex_21 => ?_)
  refine lv_i2b hx hb dX9_append_27 rfl ?_
  refine lv_topi (fun x_22 ex_23 => ?_)
  refine va_bast hx hb hK hP hD hS 0 0 rfl rfl (by unfold vp_in; decide) dX9_append_28 ?_
  clear hP hD hS; intro H locs hP hD hS
  change va_P (dC, dI) vwCl [(p_bytes, .inl (k_bytes, 600, .inl (upd (upd (upd (upd f_bytes (Int32.toNatClampNeg 12) (vp_nar .byte x_7)) (Int32.toNatClampNeg 13) (vp_nar .byte x_12)) (Int32.toNatClampNeg 14) (vp_nar .byte x_17)) (Int32.toNatClampNeg 15) (vp_nar .byte x_22)))), (h0, .inr (9, [.ref p_bytes, .ref p_ts, .ref p_tc, .int 15, .int 0, .int 0]))] H at hP
  change va_D A [(p_bytes, .inl (k_bytes, 600, .inl (upd (upd (upd (upd f_bytes (Int32.toNatClampNeg 12) (vp_nar .byte x_7)) (Int32.toNatClampNeg 13) (vp_nar .byte x_12)) (Int32.toNatClampNeg 14) (vp_nar .byte x_17)) (Int32.toNatClampNeg 15) (vp_nar .byte x_22)))), (h0, .inr (9, [.ref p_bytes, .ref p_ts, .ref p_tc, .int 15, .int 0, .int 0]))] at hD
  refine lv_aload_n hx hb dX9_append_29 rfl (lv_at hl 1 rfl) ?_
  refine lv_dup hx hb dX9_append_30 rfl ?_
  refine va_get (D := (dC, dI)) (ci := 9) (v := .int 15) (C := RX9) (T := TX9) (N := 6) hx hb htb iX9 hown hK hP 1 rfl rfl 3 (Nat.le_of_ble_eq_true rfl) (htb _ m_239) (fun _ h9 => h9) rfl dX9_append_31 ?_
  refine lv_iconst (v := 1) hx hb dX9_append_34 (by decide) ?_
  refine lv_iadd hx hb dX9_append_35 ?_
  refine lv_tope (y := 16) (by decide) ?_
  refine va_put (D := (dC, dI)) (ci := 9) (v := .int 16) (C := RX9) (T := TX9) (N := 6) hx hb htb iX9 tyX9 tyX9_ok nmX9 hown hK hP hD hS 1 rfl rfl 3 (Nat.le_of_ble_eq_true rfl) (htb _ m_239) (fun _ h9 => h9) rfl (tyX9_ok 3 (Nat.le_of_ble_eq_true rfl)) rfl rfl (Nat.le_of_ble_eq_true rfl) dX9_append_36 ?_
  clear hP hD hS; intro H locs hP hD hS
  change va_P (dC, dI) vwCl [(p_bytes, .inl (k_bytes, 600, .inl (upd (upd (upd (upd f_bytes (Int32.toNatClampNeg 12) (vp_nar .byte x_7)) (Int32.toNatClampNeg 13) (vp_nar .byte x_12)) (Int32.toNatClampNeg 14) (vp_nar .byte x_17)) (Int32.toNatClampNeg 15) (vp_nar .byte x_22)))), (h0, .inr (9, [.ref p_bytes, .ref p_ts, .ref p_tc, .int 16, .int 0, .int 0]))] H at hP
  change va_D A [(p_bytes, .inl (k_bytes, 600, .inl (upd (upd (upd (upd f_bytes (Int32.toNatClampNeg 12) (vp_nar .byte x_7)) (Int32.toNatClampNeg 13) (vp_nar .byte x_12)) (Int32.toNatClampNeg 14) (vp_nar .byte x_17)) (Int32.toNatClampNeg 15) (vp_nar .byte x_22)))), (h0, .inr (9, [.ref p_bytes, .ref p_ts, .ref p_tc, .int 16, .int 0, .int 0]))] at hD
  refine lv_iinc (v := (-8)) (lv' := [(2, .int (-8)), (0, .ref h0), (1, .int v1)]) hx hb dX9_append_39 hl (k := 0) rfl (by decide) (by decide) rfl ?_
  clear hl; intro ls hl
  refine lv_goto (tgt := 12) hx hb dX9_append_42 (by decide) ?_
  refine lv_iload_n hx hb dX9_append_12 rfl (lv_at hl 0 rfl) ?_
  refine lv_if_lt (tgt := 45) hx hb dX9_append_13 (by decide) ?_ (fun c_24 => absurd (by decide) c_24)
  intro _
  refine W.widen (k := 0) (n := 0) (Nat.le_of_ble_eq_true rfl) (Nat.le_of_ble_eq_true rfl) ?_
  have hP9 := hP.sub (ws' := [(h0, .inr (9, [.ref p_bytes, .ref p_ts, .ref p_tc, .int 16, .int 0, .int 0])), (p_bytes, .inl (k_bytes, 600, .inl (upd (upd (upd (upd f_bytes (Int32.toNatClampNeg 12) (vp_nar .byte x_7)) (Int32.toNatClampNeg 13) (vp_nar .byte x_12)) (Int32.toNatClampNeg 14) (vp_nar .byte x_17)) (Int32.toNatClampNeg 15) (vp_nar .byte x_22))))]) [1, 0] rfl
  have hD9 := hD.sub (ws' := [(h0, .inr (9, [.ref p_bytes, .ref p_ts, .ref p_tc, .int 16, .int 0, .int 0])), (p_bytes, .inl (k_bytes, 600, .inl (upd (upd (upd (upd f_bytes (Int32.toNatClampNeg 12) (vp_nar .byte x_7)) (Int32.toNatClampNeg 13) (vp_nar .byte x_12)) (Int32.toNatClampNeg 14) (vp_nar .byte x_17)) (Int32.toNatClampNeg 15) (vp_nar .byte x_22))))]) [1, 0] (by decide) rfl
  have hK9 := hK.sub (tys' := []) [] rfl
  exact W.vret hx hb hr (fun t ht hW => ⟨⟨(), rfl, trivial, ⟨(upd (upd (upd (upd f_bytes (Int32.toNatClampNeg 12) (vp_nar .byte x_7)) (Int32.toNatClampNeg 13) (vp_nar .byte x_12)) (Int32.toNatClampNeg 14) (vp_nar .byte x_17)) (Int32.toNatClampNeg 15) (vp_nar .byte x_22)), by rw [ht]; exact hP9, va_K.moved hW.alike hK9, hD9⟩⟩, hS.F ht⟩) hS.2.2 dX9_append_45

set_option maxHeartbeats 4000000 in
set_option maxRecDepth 100000 in
theorem kX9_append_16 (l : Launch) (dC : Nat → ClassId) (dI : Nat → Nat → Nat) (sz : Nat) (h0 : Nat) (p_bytes : Nat) (p_ts : Nat) (p_tc : Nat) (k_bytes : ClassId) (f_bytes : Nat → Int32) (v1 : Int32) : Met l yX9_append (Cond.code yX9_append cX9_append 3 none :: bg) ({ frames := 1, cells := 0, slots := 0, locals := 21 }) (pcW dC dI [.ref h0, .int v1] sz [(h0, .inr (9, [.ref p_bytes, .ref p_ts, .ref p_tc, .int 16, .int 0, .int 0])), (p_bytes, .inl (k_bytes, 600, .inl f_bytes))] [(k_bytes, .byte)]) (va_Qv (fun (u : Unit) => True) (fun (u : Unit) (t : State) => ∃ (g_bytes : Nat → Int32), va_P (dC, dI) vwCl [(h0, .inr (9, [.ref p_bytes, .ref p_ts, .ref p_tc, .int 20, .int 0, .int 0])), (p_bytes, .inl (k_bytes, 600, .inl g_bytes))] t.heap ∧ va_K (dC, dI) vwCl [] t ∧ va_D (va_A [(h0, .inr (9, [.ref p_bytes, .ref p_ts, .ref p_tc, .int 16, .int 0, .int 0])), (p_bytes, .inl (k_bytes, 600, .inl f_bytes))] sz) [(h0, .inr (9, [.ref p_bytes, .ref p_ts, .ref p_tc, .int 20, .int 0, .int 0])), (p_bytes, .inl (k_bytes, 600, .inl g_bytes))]) (va_A [(h0, .inr (9, [.ref p_bytes, .ref p_ts, .ref p_tc, .int 16, .int 0, .int 0])), (p_bytes, .inl (k_bytes, 600, .inl f_bytes))] sz)) 0 0 (va_A [(h0, .inr (9, [.ref p_bytes, .ref p_ts, .ref p_tc, .int 16, .int 0, .int 0])), (p_bytes, .inl (k_bytes, 600, .inl f_bytes))] sz) := by
  refine Met.ofW (cc := cX9_append) (maxL := 3) (ret := none) pnX9 rfl ?_
  intro p e s m args below meth c s₁ B hml hv
  obtain ⟨rfl, hsz, hP, hK, hD0, hN⟩ := hv
  have hx := B.exec
  have hb := B.bytes
  have hr := B.returns
  have htb : ∀ w ∈ bg, w.before [.ref h0, .int v1].toArray s = true := fun w h => atoms_spec (ws := Cond.code yX9_append cX9_append 3 none :: bg) B.pre w (List.mem_cons_of_mem _ h)
  have hown : s.vm.findClass RX9 = some m.cls := findClass_of_methodNamed B.named
  have hlocks := B.notSynchronized
  subst hsz
  have hD := hD0.self (sz := s.heap.size)
  generalize hAe : va_A [(h0, .inr (9, [.ref p_bytes, .ref p_ts, .ref p_tc, .int 16, .int 0, .int 0])), (p_bytes, .inl (k_bytes, 600, .inl f_bytes))] s.heap.size = A at hD ⊢
  have hA : ∀ q : Nat, s.heap.size ≤ q → A q := fun q h => by rw [← hAe]; exact Or.inr h
  have hS : va_S A s.heap s.heap [] := va_S.rf
  have hl := lv_entry ([.ref h0, .int v1]) (n := 3) (Nat.le_of_ble_eq_true rfl)
  rw [lg_entry_eq]
  generalize (lg_sl ([.ref h0, .int v1]) ++ List.replicate (3 - (lg_sl ([.ref h0, .int v1])).length) Slot.unset).toArray = ls at hl ⊢
  change lv_has ls 3 [(0, .ref h0), (1, .int v1)] at hl
  clear hD0 hAe
  refine go0 (wsP := fun H => va_P (dC, dI) vwCl [(h0, .inr (9, [.ref p_bytes, .ref p_ts, .ref p_tc, .int 16, .int 0, .int 0])), (p_bytes, .inl (k_bytes, 600, .inl f_bytes))] H) hP hS ?_
  clear hP hS; intro H locs hP hS
  change va_P (dC, dI) vwCl [(h0, .inr (9, [.ref p_bytes, .ref p_ts, .ref p_tc, .int 16, .int 0, .int 0])), (p_bytes, .inl (k_bytes, 600, .inl f_bytes))] H at hP
  refine lv_aload_n hx hb dX9_append_0 rfl (lv_at hl 0 rfl) ?_
  refine lv_iconst (v := 4) hx hb dX9_append_1 (by decide) ?_
  have hPc := hP.sub (ws' := [(h0, .inr (9, [.ref p_bytes, .ref p_ts, .ref p_tc, .int 16, .int 0, .int 0]))]) [0] rfl
  have hDc := hD.sub (ws' := [(h0, .inr (9, [.ref p_bytes, .ref p_ts, .ref p_tc, .int 16, .int 0, .int 0]))]) [0] (by decide) rfl
  have hKc := hK.sub (tys' := []) [] rfl
  have hFc := va_free (wc := [(h0, .inr (9, [.ref p_bytes, .ref p_ts, .ref p_tc, .int 16, .int 0, .int 0]))]) hD hS hA [0] rfl
  refine va_calli (va_runV (C := RX9) (As := [.int 4]) (rest := []) ⟨hx, hb, hml, hown, htb⟩ (kX9_hasRoomFor_16_4 l dC dI H.size h0 p_bytes p_ts p_tc ) ⟨callB_of 1 htb (gd_c m_794) rfl rfl rfl (htb _ m_10) (htb _ m_799) hdX9_hasRoomFor ⟨(Nat.le_of_ble_eq_true rfl), (Nat.le_of_ble_eq_true rfl)⟩, htb _ m_792, htb _ m_793⟩ ⟨pcW_blind, va_recv hKc hPc (ci := 9) (q0 := 0) rfl rfl, pcW_at hPc hKc hDc hN⟩ rfl rfl hl.1 rfl (lv_room (Nat.le_of_ble_eq_true rfl)) dX9_append_2 ⟨(Nat.le_of_ble_eq_true rfl), (Nat.le_of_ble_eq_true rfl)⟩) hS (fun q _ h => hFc q h) hFc (fun r_1 u t H1 locs1 ht hvm h_2 hB hz1 hk1 hS1 => ?_)
  obtain ⟨hP1, hK1, hD1⟩ := hB
  rw [ht] at hP1
  obtain ⟨hPn, hDn⟩ := va_join (wr := [(p_bytes, .inl (k_bytes, 600, .inl f_bytes))]) (w1 := [(h0, .inr (9, [.ref p_bytes, .ref p_ts, .ref p_tc, .int 16, .int 0, .int 0]))]) hP hD [0] [1] rfl rfl (by decide) (by decide) hk1 hFc hP1 hD1
  clear hP1 hD1 hK1
  clear hP hD hS hPc hDc hKc hFc hk1 hz1 ht hvm
  clear t
  revert hS1 hPn hDn; generalize H1 = H; generalize locs1 = locs; intro hS hP hD
  change va_P (dC, dI) vwCl [(p_bytes, .inl (k_bytes, 600, .inl f_bytes)), (h0, .inr (9, [.ref p_bytes, .ref p_ts, .ref p_tc, .int 16, .int 0, .int 0]))] H at hP
  change va_D A [(p_bytes, .inl (k_bytes, 600, .inl f_bytes)), (h0, .inr (9, [.ref p_bytes, .ref p_ts, .ref p_tc, .int 16, .int 0, .int 0]))] at hD
  subst h_2
  refine lv_if_ne (tgt := 9) hx hb dX9_append_5 (by decide) ?_ (fun c_3 => absurd c_3 (by decide))
  intro _
  refine lv_bipush (v := 24) hx hb dX9_append_9 (by decide) ?_
  refine lv_istore_n (lv' := [(2, .int 24), (0, .ref h0), (1, .int v1)]) hx hb dX9_append_11 rfl hl (by decide) rfl ?_
  clear hl; intro ls hl
  refine lv_iload_n hx hb dX9_append_12 rfl (lv_at hl 0 rfl) ?_
  refine lv_if_lt (tgt := 45) hx hb dX9_append_13 (by decide) (fun c_4 => absurd c_4 (by decide)) ?_
  intro _
  refine lv_aload_n hx hb dX9_append_16 rfl (lv_at hl 1 rfl) ?_
  refine va_get (D := (dC, dI)) (ci := 9) (v := .ref p_bytes) (C := RX9) (T := TX9) (N := 6) hx hb htb iX9 hown hK hP 1 rfl rfl 0 (Nat.le_of_ble_eq_true rfl) (htb _ m_236) (fun _ h9 => h9) rfl dX9_append_17 ?_
  refine lv_aload_n hx hb dX9_append_20 rfl (lv_at hl 1 rfl) ?_
  refine va_get (D := (dC, dI)) (ci := 9) (v := .int 16) (C := RX9) (T := TX9) (N := 6) hx hb htb iX9 hown hK hP 1 rfl rfl 3 (Nat.le_of_ble_eq_true rfl) (htb _ m_239) (fun _ h9 => h9) rfl dX9_append_21 ?_
  refine lv_iload_n hx hb dX9_append_24 rfl (lv_at hl 2 rfl) ?_
  refine lv_iload_n hx hb dX9_append_25 rfl (lv_at hl 0 rfl) ?_
  refine lv_iushr hx hb dX9_append_26 rfl ?_
  refine lv_topi (fun x_5 ex_6 => ?_)
  refine lv_i2b hx hb dX9_append_27 rfl ?_
  refine lv_topi (fun x_7 ex_8 => ?_)
  refine va_bast hx hb hK hP hD hS 0 0 rfl rfl (by unfold vp_in; decide) dX9_append_28 ?_
  clear hP hD hS; intro H locs hP hD hS
  change va_P (dC, dI) vwCl [(p_bytes, .inl (k_bytes, 600, .inl (upd f_bytes (Int32.toNatClampNeg 16) (vp_nar .byte x_7)))), (h0, .inr (9, [.ref p_bytes, .ref p_ts, .ref p_tc, .int 16, .int 0, .int 0]))] H at hP
  change va_D A [(p_bytes, .inl (k_bytes, 600, .inl (upd f_bytes (Int32.toNatClampNeg 16) (vp_nar .byte x_7)))), (h0, .inr (9, [.ref p_bytes, .ref p_ts, .ref p_tc, .int 16, .int 0, .int 0]))] at hD
  refine lv_aload_n hx hb dX9_append_29 rfl (lv_at hl 1 rfl) ?_
  refine lv_dup hx hb dX9_append_30 rfl ?_
  refine va_get (D := (dC, dI)) (ci := 9) (v := .int 16) (C := RX9) (T := TX9) (N := 6) hx hb htb iX9 hown hK hP 1 rfl rfl 3 (Nat.le_of_ble_eq_true rfl) (htb _ m_239) (fun _ h9 => h9) rfl dX9_append_31 ?_
  refine lv_iconst (v := 1) hx hb dX9_append_34 (by decide) ?_
  refine lv_iadd hx hb dX9_append_35 ?_
  refine lv_tope (y := 17) (by decide) ?_
  refine va_put (D := (dC, dI)) (ci := 9) (v := .int 17) (C := RX9) (T := TX9) (N := 6) hx hb htb iX9 tyX9 tyX9_ok nmX9 hown hK hP hD hS 1 rfl rfl 3 (Nat.le_of_ble_eq_true rfl) (htb _ m_239) (fun _ h9 => h9) rfl (tyX9_ok 3 (Nat.le_of_ble_eq_true rfl)) rfl rfl (Nat.le_of_ble_eq_true rfl) dX9_append_36 ?_
  clear hP hD hS; intro H locs hP hD hS
  change va_P (dC, dI) vwCl [(p_bytes, .inl (k_bytes, 600, .inl (upd f_bytes (Int32.toNatClampNeg 16) (vp_nar .byte x_7)))), (h0, .inr (9, [.ref p_bytes, .ref p_ts, .ref p_tc, .int 17, .int 0, .int 0]))] H at hP
  change va_D A [(p_bytes, .inl (k_bytes, 600, .inl (upd f_bytes (Int32.toNatClampNeg 16) (vp_nar .byte x_7)))), (h0, .inr (9, [.ref p_bytes, .ref p_ts, .ref p_tc, .int 17, .int 0, .int 0]))] at hD
  refine lv_iinc (v := 16) (lv' := [(2, .int 16), (0, .ref h0), (1, .int v1)]) hx hb dX9_append_39 hl (k := 0) rfl (by decide) (by decide) rfl ?_
  clear hl; intro ls hl
  refine lv_goto (tgt := 12) hx hb dX9_append_42 (by decide) ?_
  refine lv_iload_n hx hb dX9_append_12 rfl (lv_at hl 0 rfl) ?_
  refine lv_if_lt (tgt := 45) hx hb dX9_append_13 (by decide) (fun c_9 => absurd c_9 (by decide)) ?_
  intro _
  refine lv_aload_n hx hb dX9_append_16 rfl (lv_at hl 1 rfl) ?_
  refine va_get (D := (dC, dI)) (ci := 9) (v := .ref p_bytes) (C := RX9) (T := TX9) (N := 6) hx hb htb iX9 hown hK hP 1 rfl rfl 0 (Nat.le_of_ble_eq_true rfl) (htb _ m_236) (fun _ h9 => h9) rfl dX9_append_17 ?_
  refine lv_aload_n hx hb dX9_append_20 rfl (lv_at hl 1 rfl) ?_
  refine va_get (D := (dC, dI)) (ci := 9) (v := .int 17) (C := RX9) (T := TX9) (N := 6) hx hb htb iX9 hown hK hP 1 rfl rfl 3 (Nat.le_of_ble_eq_true rfl) (htb _ m_239) (fun _ h9 => h9) rfl dX9_append_21 ?_
  refine lv_iload_n hx hb dX9_append_24 rfl (lv_at hl 2 rfl) ?_
  refine lv_iload_n hx hb dX9_append_25 rfl (lv_at hl 0 rfl) ?_
  refine lv_iushr hx hb dX9_append_26 rfl ?_
  refine lv_topi (fun x_10 ex_11 => ?_)
  refine lv_i2b hx hb dX9_append_27 rfl ?_
  refine lv_topi (fun x_12 ex_13 => ?_)
  refine va_bast hx hb hK hP hD hS 0 0 rfl rfl (by unfold vp_in; decide) dX9_append_28 ?_
  clear hP hD hS; intro H locs hP hD hS
  change va_P (dC, dI) vwCl [(p_bytes, .inl (k_bytes, 600, .inl (upd (upd f_bytes (Int32.toNatClampNeg 16) (vp_nar .byte x_7)) (Int32.toNatClampNeg 17) (vp_nar .byte x_12)))), (h0, .inr (9, [.ref p_bytes, .ref p_ts, .ref p_tc, .int 17, .int 0, .int 0]))] H at hP
  change va_D A [(p_bytes, .inl (k_bytes, 600, .inl (upd (upd f_bytes (Int32.toNatClampNeg 16) (vp_nar .byte x_7)) (Int32.toNatClampNeg 17) (vp_nar .byte x_12)))), (h0, .inr (9, [.ref p_bytes, .ref p_ts, .ref p_tc, .int 17, .int 0, .int 0]))] at hD
  refine lv_aload_n hx hb dX9_append_29 rfl (lv_at hl 1 rfl) ?_
  refine lv_dup hx hb dX9_append_30 rfl ?_
  refine va_get (D := (dC, dI)) (ci := 9) (v := .int 17) (C := RX9) (T := TX9) (N := 6) hx hb htb iX9 hown hK hP 1 rfl rfl 3 (Nat.le_of_ble_eq_true rfl) (htb _ m_239) (fun _ h9 => h9) rfl dX9_append_31 ?_
  refine lv_iconst (v := 1) hx hb dX9_append_34 (by decide) ?_
  refine lv_iadd hx hb dX9_append_35 ?_
  refine lv_tope (y := 18) (by decide) ?_
  refine va_put (D := (dC, dI)) (ci := 9) (v := .int 18) (C := RX9) (T := TX9) (N := 6) hx hb htb iX9 tyX9 tyX9_ok nmX9 hown hK hP hD hS 1 rfl rfl 3 (Nat.le_of_ble_eq_true rfl) (htb _ m_239) (fun _ h9 => h9) rfl (tyX9_ok 3 (Nat.le_of_ble_eq_true rfl)) rfl rfl (Nat.le_of_ble_eq_true rfl) dX9_append_36 ?_
  clear hP hD hS; intro H locs hP hD hS
  change va_P (dC, dI) vwCl [(p_bytes, .inl (k_bytes, 600, .inl (upd (upd f_bytes (Int32.toNatClampNeg 16) (vp_nar .byte x_7)) (Int32.toNatClampNeg 17) (vp_nar .byte x_12)))), (h0, .inr (9, [.ref p_bytes, .ref p_ts, .ref p_tc, .int 18, .int 0, .int 0]))] H at hP
  change va_D A [(p_bytes, .inl (k_bytes, 600, .inl (upd (upd f_bytes (Int32.toNatClampNeg 16) (vp_nar .byte x_7)) (Int32.toNatClampNeg 17) (vp_nar .byte x_12)))), (h0, .inr (9, [.ref p_bytes, .ref p_ts, .ref p_tc, .int 18, .int 0, .int 0]))] at hD
  refine lv_iinc (v := 8) (lv' := [(2, .int 8), (0, .ref h0), (1, .int v1)]) hx hb dX9_append_39 hl (k := 0) rfl (by decide) (by decide) rfl ?_
  clear hl; intro ls hl
  refine lv_goto (tgt := 12) hx hb dX9_append_42 (by decide) ?_
  refine lv_iload_n hx hb dX9_append_12 rfl (lv_at hl 0 rfl) ?_
  refine lv_if_lt (tgt := 45) hx hb dX9_append_13 (by decide) (fun c_14 => absurd c_14 (by decide)) ?_
  intro _
  refine lv_aload_n hx hb dX9_append_16 rfl (lv_at hl 1 rfl) ?_
  refine va_get (D := (dC, dI)) (ci := 9) (v := .ref p_bytes) (C := RX9) (T := TX9) (N := 6) hx hb htb iX9 hown hK hP 1 rfl rfl 0 (Nat.le_of_ble_eq_true rfl) (htb _ m_236) (fun _ h9 => h9) rfl dX9_append_17 ?_
  refine lv_aload_n hx hb dX9_append_20 rfl (lv_at hl 1 rfl) ?_
  refine va_get (D := (dC, dI)) (ci := 9) (v := .int 18) (C := RX9) (T := TX9) (N := 6) hx hb htb iX9 hown hK hP 1 rfl rfl 3 (Nat.le_of_ble_eq_true rfl) (htb _ m_239) (fun _ h9 => h9) rfl dX9_append_21 ?_
  refine lv_iload_n hx hb dX9_append_24 rfl (lv_at hl 2 rfl) ?_
  refine lv_iload_n hx hb dX9_append_25 rfl (lv_at hl 0 rfl) ?_
  refine lv_iushr hx hb dX9_append_26 rfl ?_
  refine lv_topi (fun x_15 ex_16 => ?_)
  refine lv_i2b hx hb dX9_append_27 rfl ?_
  refine lv_topi (fun x_17 ex_18 => ?_)
  refine va_bast hx hb hK hP hD hS 0 0 rfl rfl (by unfold vp_in; decide) dX9_append_28 ?_
  clear hP hD hS; intro H locs hP hD hS
  change va_P (dC, dI) vwCl [(p_bytes, .inl (k_bytes, 600, .inl (upd (upd (upd f_bytes (Int32.toNatClampNeg 16) (vp_nar .byte x_7)) (Int32.toNatClampNeg 17) (vp_nar .byte x_12)) (Int32.toNatClampNeg 18) (vp_nar .byte x_17)))), (h0, .inr (9, [.ref p_bytes, .ref p_ts, .ref p_tc, .int 18, .int 0, .int 0]))] H at hP
  change va_D A [(p_bytes, .inl (k_bytes, 600, .inl (upd (upd (upd f_bytes (Int32.toNatClampNeg 16) (vp_nar .byte x_7)) (Int32.toNatClampNeg 17) (vp_nar .byte x_12)) (Int32.toNatClampNeg 18) (vp_nar .byte x_17)))), (h0, .inr (9, [.ref p_bytes, .ref p_ts, .ref p_tc, .int 18, .int 0, .int 0]))] at hD
  refine lv_aload_n hx hb dX9_append_29 rfl (lv_at hl 1 rfl) ?_
  refine lv_dup hx hb dX9_append_30 rfl ?_
  refine va_get (D := (dC, dI)) (ci := 9) (v := .int 18) (C := RX9) (T := TX9) (N := 6) hx hb htb iX9 hown hK hP 1 rfl rfl 3 (Nat.le_of_ble_eq_true rfl) (htb _ m_239) (fun _ h9 => h9) rfl dX9_append_31 ?_
  refine lv_iconst (v := 1) hx hb dX9_append_34 (by decide) ?_
  refine lv_iadd hx hb dX9_append_35 ?_
  refine lv_tope (y := 19) (by decide) ?_
  refine va_put (D := (dC, dI)) (ci := 9) (v := .int 19) (C := RX9) (T := TX9) (N := 6) hx hb htb iX9 tyX9 tyX9_ok nmX9 hown hK hP hD hS 1 rfl rfl 3 (Nat.le_of_ble_eq_true rfl) (htb _ m_239) (fun _ h9 => h9) rfl (tyX9_ok 3 (Nat.le_of_ble_eq_true rfl)) rfl rfl (Nat.le_of_ble_eq_true rfl) dX9_append_36 ?_
  clear hP hD hS; intro H locs hP hD hS
  change va_P (dC, dI) vwCl [(p_bytes, .inl (k_bytes, 600, .inl (upd (upd (upd f_bytes (Int32.toNatClampNeg 16) (vp_nar .byte x_7)) (Int32.toNatClampNeg 17) (vp_nar .byte x_12)) (Int32.toNatClampNeg 18) (vp_nar .byte x_17)))), (h0, .inr (9, [.ref p_bytes, .ref p_ts, .ref p_tc, .int 19, .int 0, .int 0]))] H at hP
  change va_D A [(p_bytes, .inl (k_bytes, 600, .inl (upd (upd (upd f_bytes (Int32.toNatClampNeg 16) (vp_nar .byte x_7)) (Int32.toNatClampNeg 17) (vp_nar .byte x_12)) (Int32.toNatClampNeg 18) (vp_nar .byte x_17)))), (h0, .inr (9, [.ref p_bytes, .ref p_ts, .ref p_tc, .int 19, .int 0, .int 0]))] at hD
  refine lv_iinc (v := 0) (lv' := [(2, .int 0), (0, .ref h0), (1, .int v1)]) hx hb dX9_append_39 hl (k := 0) rfl (by decide) (by decide) rfl ?_
  clear hl; intro ls hl
  refine lv_goto (tgt := 12) hx hb dX9_append_42 (by decide) ?_
  refine lv_iload_n hx hb dX9_append_12 rfl (lv_at hl 0 rfl) ?_
  refine lv_if_lt (tgt := 45) hx hb dX9_append_13 (by decide) (fun c_19 => absurd c_19 (by decide)) ?_
  intro _
  refine lv_aload_n hx hb dX9_append_16 rfl (lv_at hl 1 rfl) ?_
  refine va_get (D := (dC, dI)) (ci := 9) (v := .ref p_bytes) (C := RX9) (T := TX9) (N := 6) hx hb htb iX9 hown hK hP 1 rfl rfl 0 (Nat.le_of_ble_eq_true rfl) (htb _ m_236) (fun _ h9 => h9) rfl dX9_append_17 ?_
  refine lv_aload_n hx hb dX9_append_20 rfl (lv_at hl 1 rfl) ?_
  refine va_get (D := (dC, dI)) (ci := 9) (v := .int 19) (C := RX9) (T := TX9) (N := 6) hx hb htb iX9 hown hK hP 1 rfl rfl 3 (Nat.le_of_ble_eq_true rfl) (htb _ m_239) (fun _ h9 => h9) rfl dX9_append_21 ?_
  refine lv_iload_n hx hb dX9_append_24 rfl (lv_at hl 2 rfl) ?_
  refine lv_iload_n hx hb dX9_append_25 rfl (lv_at hl 0 rfl) ?_
  refine lv_iushr hx hb dX9_append_26 rfl ?_
  refine lv_topi (fun x_20 ex_21 => ?_)
  refine lv_i2b hx hb dX9_append_27 rfl ?_
  refine lv_topi (fun x_22 ex_23 => ?_)
  refine va_bast hx hb hK hP hD hS 0 0 rfl rfl (by unfold vp_in; decide) dX9_append_28 ?_
  clear hP hD hS; intro H locs hP hD hS
  change va_P (dC, dI) vwCl [(p_bytes, .inl (k_bytes, 600, .inl (upd (upd (upd (upd f_bytes (Int32.toNatClampNeg 16) (vp_nar .byte x_7)) (Int32.toNatClampNeg 17) (vp_nar .byte x_12)) (Int32.toNatClampNeg 18) (vp_nar .byte x_17)) (Int32.toNatClampNeg 19) (vp_nar .byte x_22)))), (h0, .inr (9, [.ref p_bytes, .ref p_ts, .ref p_tc, .int 19, .int 0, .int 0]))] H at hP
  change va_D A [(p_bytes, .inl (k_bytes, 600, .inl (upd (upd (upd (upd f_bytes (Int32.toNatClampNeg 16) (vp_nar .byte x_7)) (Int32.toNatClampNeg 17) (vp_nar .byte x_12)) (Int32.toNatClampNeg 18) (vp_nar .byte x_17)) (Int32.toNatClampNeg 19) (vp_nar .byte x_22)))), (h0, .inr (9, [.ref p_bytes, .ref p_ts, .ref p_tc, .int 19, .int 0, .int 0]))] at hD
  refine lv_aload_n hx hb dX9_append_29 rfl (lv_at hl 1 rfl) ?_
  refine lv_dup hx hb dX9_append_30 rfl ?_
  refine va_get (D := (dC, dI)) (ci := 9) (v := .int 19) (C := RX9) (T := TX9) (N := 6) hx hb htb iX9 hown hK hP 1 rfl rfl 3 (Nat.le_of_ble_eq_true rfl) (htb _ m_239) (fun _ h9 => h9) rfl dX9_append_31 ?_
  refine lv_iconst (v := 1) hx hb dX9_append_34 (by decide) ?_
  refine lv_iadd hx hb dX9_append_35 ?_
  refine lv_tope (y := 20) (by decide) ?_
  refine va_put (D := (dC, dI)) (ci := 9) (v := .int 20) (C := RX9) (T := TX9) (N := 6) hx hb htb iX9 tyX9 tyX9_ok nmX9 hown hK hP hD hS 1 rfl rfl 3 (Nat.le_of_ble_eq_true rfl) (htb _ m_239) (fun _ h9 => h9) rfl (tyX9_ok 3 (Nat.le_of_ble_eq_true rfl)) rfl rfl (Nat.le_of_ble_eq_true rfl) dX9_append_36 ?_
  clear hP hD hS; intro H locs hP hD hS
  change va_P (dC, dI) vwCl [(p_bytes, .inl (k_bytes, 600, .inl (upd (upd (upd (upd f_bytes (Int32.toNatClampNeg 16) (vp_nar .byte x_7)) (Int32.toNatClampNeg 17) (vp_nar .byte x_12)) (Int32.toNatClampNeg 18) (vp_nar .byte x_17)) (Int32.toNatClampNeg 19) (vp_nar .byte x_22)))), (h0, .inr (9, [.ref p_bytes, .ref p_ts, .ref p_tc, .int 20, .int 0, .int 0]))] H at hP
  change va_D A [(p_bytes, .inl (k_bytes, 600, .inl (upd (upd (upd (upd f_bytes (Int32.toNatClampNeg 16) (vp_nar .byte x_7)) (Int32.toNatClampNeg 17) (vp_nar .byte x_12)) (Int32.toNatClampNeg 18) (vp_nar .byte x_17)) (Int32.toNatClampNeg 19) (vp_nar .byte x_22)))), (h0, .inr (9, [.ref p_bytes, .ref p_ts, .ref p_tc, .int 20, .int 0, .int 0]))] at hD
  refine lv_iinc (v := (-8)) (lv' := [(2, .int (-8)), (0, .ref h0), (1, .int v1)]) hx hb dX9_append_39 hl (k := 0) rfl (by decide) (by decide) rfl ?_
  clear hl; intro ls hl
  refine lv_goto (tgt := 12) hx hb dX9_append_42 (by decide) ?_
  refine lv_iload_n hx hb dX9_append_12 rfl (lv_at hl 0 rfl) ?_
  refine lv_if_lt (tgt := 45) hx hb dX9_append_13 (by decide) ?_ (fun c_24 => absurd (by decide) c_24)
  intro _
  refine W.widen (k := 0) (n := 0) (Nat.le_of_ble_eq_true rfl) (Nat.le_of_ble_eq_true rfl) ?_
  have hP9 := hP.sub (ws' := [(h0, .inr (9, [.ref p_bytes, .ref p_ts, .ref p_tc, .int 20, .int 0, .int 0])), (p_bytes, .inl (k_bytes, 600, .inl (upd (upd (upd (upd f_bytes (Int32.toNatClampNeg 16) (vp_nar .byte x_7)) (Int32.toNatClampNeg 17) (vp_nar .byte x_12)) (Int32.toNatClampNeg 18) (vp_nar .byte x_17)) (Int32.toNatClampNeg 19) (vp_nar .byte x_22))))]) [1, 0] rfl
  have hD9 := hD.sub (ws' := [(h0, .inr (9, [.ref p_bytes, .ref p_ts, .ref p_tc, .int 20, .int 0, .int 0])), (p_bytes, .inl (k_bytes, 600, .inl (upd (upd (upd (upd f_bytes (Int32.toNatClampNeg 16) (vp_nar .byte x_7)) (Int32.toNatClampNeg 17) (vp_nar .byte x_12)) (Int32.toNatClampNeg 18) (vp_nar .byte x_17)) (Int32.toNatClampNeg 19) (vp_nar .byte x_22))))]) [1, 0] (by decide) rfl
  have hK9 := hK.sub (tys' := []) [] rfl
  exact W.vret hx hb hr (fun t ht hW => ⟨⟨(), rfl, trivial, ⟨(upd (upd (upd (upd f_bytes (Int32.toNatClampNeg 16) (vp_nar .byte x_7)) (Int32.toNatClampNeg 17) (vp_nar .byte x_12)) (Int32.toNatClampNeg 18) (vp_nar .byte x_17)) (Int32.toNatClampNeg 19) (vp_nar .byte x_22)), by rw [ht]; exact hP9, va_K.moved hW.alike hK9, hD9⟩⟩, hS.F ht⟩) hS.2.2 dX9_append_45

set_option maxHeartbeats 4000000 in
set_option maxRecDepth 100000 in
theorem kX9_clear (l : Launch) (dC : Nat → ClassId) (dI : Nat → Nat → Nat) (sz : Nat) (h0 : Nat) (p_bytes : Nat) (p_ts : Nat) (p_tc : Nat) : Met l yX9_clear (Cond.code yX9_clear cX9_clear 1 none :: bg) ({ frames := 0, cells := 0, slots := 0, locals := 0 }) (pcW dC dI [.ref h0] sz [(h0, .inr (9, [.ref p_bytes, .ref p_ts, .ref p_tc, .int 0, .int 0, .int 0]))] []) (va_Qv (fun (u : Unit) => True) (fun (u : Unit) (t : State) => va_P (dC, dI) vwCl [(h0, .inr (9, [.ref p_bytes, .ref p_ts, .ref p_tc, .int 0, .int 0, .int 0]))] t.heap ∧ va_K (dC, dI) vwCl [] t ∧ va_D (va_A [(h0, .inr (9, [.ref p_bytes, .ref p_ts, .ref p_tc, .int 0, .int 0, .int 0]))] sz) [(h0, .inr (9, [.ref p_bytes, .ref p_ts, .ref p_tc, .int 0, .int 0, .int 0]))]) (va_A [(h0, .inr (9, [.ref p_bytes, .ref p_ts, .ref p_tc, .int 0, .int 0, .int 0]))] sz)) 0 0 (va_A [(h0, .inr (9, [.ref p_bytes, .ref p_ts, .ref p_tc, .int 0, .int 0, .int 0]))] sz) := by
  refine Met.ofW (cc := cX9_clear) (maxL := 1) (ret := none) pnX9 rfl ?_
  intro p e s m args below meth c s₁ B hml hv
  obtain ⟨rfl, hsz, hP, hK, hD0, hN⟩ := hv
  have hx := B.exec
  have hb := B.bytes
  have hr := B.returns
  have htb : ∀ w ∈ bg, w.before [.ref h0].toArray s = true := fun w h => atoms_spec (ws := Cond.code yX9_clear cX9_clear 1 none :: bg) B.pre w (List.mem_cons_of_mem _ h)
  have hown : s.vm.findClass RX9 = some m.cls := findClass_of_methodNamed B.named
  have hlocks := B.notSynchronized
  subst hsz
  have hD := hD0.self (sz := s.heap.size)
  generalize hAe : va_A [(h0, .inr (9, [.ref p_bytes, .ref p_ts, .ref p_tc, .int 0, .int 0, .int 0]))] s.heap.size = A at hD ⊢
  have hA : ∀ q : Nat, s.heap.size ≤ q → A q := fun q h => by rw [← hAe]; exact Or.inr h
  have hS : va_S A s.heap s.heap [] := va_S.rf
  have hl := lv_entry ([.ref h0]) (n := 1) (Nat.le_of_ble_eq_true rfl)
  rw [lg_entry_eq]
  generalize (lg_sl ([.ref h0]) ++ List.replicate (1 - (lg_sl ([.ref h0])).length) Slot.unset).toArray = ls at hl ⊢
  change lv_has ls 1 [(0, .ref h0)] at hl
  clear hD0 hAe
  refine go0 (wsP := fun H => va_P (dC, dI) vwCl [(h0, .inr (9, [.ref p_bytes, .ref p_ts, .ref p_tc, .int 0, .int 0, .int 0]))] H) hP hS ?_
  clear hP hS; intro H locs hP hS
  change va_P (dC, dI) vwCl [(h0, .inr (9, [.ref p_bytes, .ref p_ts, .ref p_tc, .int 0, .int 0, .int 0]))] H at hP
  refine lv_aload_n hx hb dX9_clear_0 rfl (lv_at hl 0 rfl) ?_
  refine lv_iconst (v := 0) hx hb dX9_clear_1 (by decide) ?_
  refine va_put (D := (dC, dI)) (ci := 9) (v := .int 0) (C := RX9) (T := TX9) (N := 6) hx hb htb iX9 tyX9 tyX9_ok nmX9 hown hK hP hD hS 0 rfl rfl 3 (Nat.le_of_ble_eq_true rfl) (htb _ m_239) (fun _ h9 => h9) rfl (tyX9_ok 3 (Nat.le_of_ble_eq_true rfl)) rfl rfl (Nat.le_of_ble_eq_true rfl) dX9_clear_2 ?_
  clear hP hD hS; intro H locs hP hD hS
  change va_P (dC, dI) vwCl [(h0, .inr (9, [.ref p_bytes, .ref p_ts, .ref p_tc, .int 0, .int 0, .int 0]))] H at hP
  change va_D A [(h0, .inr (9, [.ref p_bytes, .ref p_ts, .ref p_tc, .int 0, .int 0, .int 0]))] at hD
  refine W.widen (k := 0) (n := 0) (Nat.le_of_ble_eq_true rfl) (Nat.le_of_ble_eq_true rfl) ?_
  have hP9 := hP.sub (ws' := [(h0, .inr (9, [.ref p_bytes, .ref p_ts, .ref p_tc, .int 0, .int 0, .int 0]))]) [0] rfl
  have hD9 := hD.sub (ws' := [(h0, .inr (9, [.ref p_bytes, .ref p_ts, .ref p_tc, .int 0, .int 0, .int 0]))]) [0] (by decide) rfl
  have hK9 := hK.sub (tys' := []) [] rfl
  exact W.vret hx hb hr (fun t ht hW => ⟨⟨(), rfl, trivial, ⟨by rw [ht]; exact hP9, va_K.moved hW.alike hK9, hD9⟩⟩, hS.F ht⟩) hS.2.2 dX9_clear_5

set_option maxHeartbeats 4000000 in
set_option maxRecDepth 100000 in
theorem kX9_splitFirst (l : Launch) (dC : Nat → ClassId) (dI : Nat → Nat → Nat) (sz : Nat) (h0 : Nat) (p_bytes : Nat) (p_ts : Nat) (p_tc : Nat) : Met l yX9_splitFirst (Cond.code yX9_splitFirst cX9_splitFirst 3 none :: bg) ({ frames := 1, cells := 0, slots := 0, locals := 15 }) (pcW dC dI [.ref h0, .int 0] sz [(h0, .inr (9, [.ref p_bytes, .ref p_ts, .ref p_tc, .int 0, .int 0, .int 0]))] []) (va_Qv (fun (u : Unit) => True) (fun (u : Unit) (t : State) => va_P (dC, dI) vwCl [(h0, .inr (9, [.ref p_bytes, .ref p_ts, .ref p_tc, .int 0, .int 0, .int 0]))] t.heap ∧ va_K (dC, dI) vwCl [] t ∧ va_D (va_A [(h0, .inr (9, [.ref p_bytes, .ref p_ts, .ref p_tc, .int 0, .int 0, .int 0]))] sz) [(h0, .inr (9, [.ref p_bytes, .ref p_ts, .ref p_tc, .int 0, .int 0, .int 0]))]) (va_A [(h0, .inr (9, [.ref p_bytes, .ref p_ts, .ref p_tc, .int 0, .int 0, .int 0]))] sz)) 0 0 (va_A [(h0, .inr (9, [.ref p_bytes, .ref p_ts, .ref p_tc, .int 0, .int 0, .int 0]))] sz) := by
  refine Met.ofW (cc := cX9_splitFirst) (maxL := 3) (ret := none) pnX9 rfl ?_
  intro p e s m args below meth c s₁ B hml hv
  obtain ⟨rfl, hsz, hP, hK, hD0, hN⟩ := hv
  have hx := B.exec
  have hb := B.bytes
  have hr := B.returns
  have htb : ∀ w ∈ bg, w.before [.ref h0, .int 0].toArray s = true := fun w h => atoms_spec (ws := Cond.code yX9_splitFirst cX9_splitFirst 3 none :: bg) B.pre w (List.mem_cons_of_mem _ h)
  have hown : s.vm.findClass RX9 = some m.cls := findClass_of_methodNamed B.named
  have hlocks := B.notSynchronized
  subst hsz
  have hD := hD0.self (sz := s.heap.size)
  generalize hAe : va_A [(h0, .inr (9, [.ref p_bytes, .ref p_ts, .ref p_tc, .int 0, .int 0, .int 0]))] s.heap.size = A at hD ⊢
  have hA : ∀ q : Nat, s.heap.size ≤ q → A q := fun q h => by rw [← hAe]; exact Or.inr h
  have hS : va_S A s.heap s.heap [] := va_S.rf
  have hl := lv_entry ([.ref h0, .int 0]) (n := 3) (Nat.le_of_ble_eq_true rfl)
  rw [lg_entry_eq]
  generalize (lg_sl ([.ref h0, .int 0]) ++ List.replicate (3 - (lg_sl ([.ref h0, .int 0])).length) Slot.unset).toArray = ls at hl ⊢
  change lv_has ls 3 [(0, .ref h0), (1, .int 0)] at hl
  clear hD0 hAe
  refine go0 (wsP := fun H => va_P (dC, dI) vwCl [(h0, .inr (9, [.ref p_bytes, .ref p_ts, .ref p_tc, .int 0, .int 0, .int 0]))] H) hP hS ?_
  clear hP hS; intro H locs hP hS
  change va_P (dC, dI) vwCl [(h0, .inr (9, [.ref p_bytes, .ref p_ts, .ref p_tc, .int 0, .int 0, .int 0]))] H at hP
  refine lv_aload_n hx hb dX9_splitFirst_0 rfl (lv_at hl 0 rfl) ?_
  refine lv_iconst (v := 0) hx hb dX9_splitFirst_1 (by decide) ?_
  refine lv_iload_n hx hb dX9_splitFirst_2 rfl (lv_at hl 1 rfl) ?_
  refine lv_aload_n hx hb dX9_splitFirst_3 rfl (lv_at hl 0 rfl) ?_
  refine va_get (D := (dC, dI)) (ci := 9) (v := .int 0) (C := RX9) (T := TX9) (N := 6) hx hb htb iX9 hown hK hP 0 rfl rfl 3 (Nat.le_of_ble_eq_true rfl) (htb _ m_239) (fun _ h9 => h9) rfl dX9_splitFirst_4 ?_
  refine va_mmin hx hb (hml.trans hl.1.symm) hown (htb _ m_812) (htb _ m_408) (htb _ m_14) (htb _ m_409) (Nat.le_of_ble_eq_true rfl) (Nat.le_of_ble_eq_true rfl) (Nat.le_of_ble_eq_true rfl) (Nat.le_of_ble_eq_true rfl) dX9_splitFirst_7 ?_
  refine lv_tope (y := 0) (by decide) ?_
  refine va_mmax hx hb (hml.trans hl.1.symm) hown (htb _ m_813) (htb _ m_436) (htb _ m_14) (htb _ m_437) (Nat.le_of_ble_eq_true rfl) (Nat.le_of_ble_eq_true rfl) (Nat.le_of_ble_eq_true rfl) (Nat.le_of_ble_eq_true rfl) dX9_splitFirst_10 ?_
  refine lv_tope (y := 0) (by decide) ?_
  refine va_put (D := (dC, dI)) (ci := 9) (v := .int 0) (C := RX9) (T := TX9) (N := 6) hx hb htb iX9 tyX9 tyX9_ok nmX9 hown hK hP hD hS 0 rfl rfl 5 (Nat.le_of_ble_eq_true rfl) (htb _ m_242) (fun _ h9 => h9) rfl (tyX9_ok 5 (Nat.le_of_ble_eq_true rfl)) rfl rfl (Nat.le_of_ble_eq_true rfl) dX9_splitFirst_13 ?_
  clear hP hD hS; intro H locs hP hD hS
  change va_P (dC, dI) vwCl [(h0, .inr (9, [.ref p_bytes, .ref p_ts, .ref p_tc, .int 0, .int 0, .int 0]))] H at hP
  change va_D A [(h0, .inr (9, [.ref p_bytes, .ref p_ts, .ref p_tc, .int 0, .int 0, .int 0]))] at hD
  refine lv_aload_n hx hb dX9_splitFirst_16 rfl (lv_at hl 0 rfl) ?_
  refine lv_iconst (v := 0) hx hb dX9_splitFirst_17 (by decide) ?_
  refine va_put (D := (dC, dI)) (ci := 9) (v := .int 0) (C := RX9) (T := TX9) (N := 6) hx hb htb iX9 tyX9 tyX9_ok nmX9 hown hK hP hD hS 0 rfl rfl 4 (Nat.le_of_ble_eq_true rfl) (htb _ m_241) (fun _ h9 => h9) rfl (tyX9_ok 4 (Nat.le_of_ble_eq_true rfl)) rfl rfl (Nat.le_of_ble_eq_true rfl) dX9_splitFirst_18 ?_
  clear hP hD hS; intro H locs hP hD hS
  change va_P (dC, dI) vwCl [(h0, .inr (9, [.ref p_bytes, .ref p_ts, .ref p_tc, .int 0, .int 0, .int 0]))] H at hP
  change va_D A [(h0, .inr (9, [.ref p_bytes, .ref p_ts, .ref p_tc, .int 0, .int 0, .int 0]))] at hD
  refine lv_iconst (v := 0) hx hb dX9_splitFirst_21 (by decide) ?_
  refine lv_istore_n (lv' := [(2, .int 0), (0, .ref h0), (1, .int 0)]) hx hb dX9_splitFirst_22 rfl hl (by decide) rfl ?_
  clear hl; intro ls hl
  refine lv_iload_n hx hb dX9_splitFirst_23 rfl (lv_at hl 0 rfl) ?_
  refine lv_aload_n hx hb dX9_splitFirst_24 rfl (lv_at hl 1 rfl) ?_
  refine va_get (D := (dC, dI)) (ci := 9) (v := .int 0) (C := RX9) (T := TX9) (N := 6) hx hb htb iX9 hown hK hP 0 rfl rfl 5 (Nat.le_of_ble_eq_true rfl) (htb _ m_242) (fun _ h9 => h9) rfl dX9_splitFirst_25 ?_
  refine lv_icmp_ge (tgt := 79) hx hb dX9_splitFirst_28 (by decide) ?_ (fun c_1 => absurd (by decide) c_1)
  intro _
  refine W.widen (k := 0) (n := 0) (Nat.le_of_ble_eq_true rfl) (Nat.le_of_ble_eq_true rfl) ?_
  have hP9 := hP.sub (ws' := [(h0, .inr (9, [.ref p_bytes, .ref p_ts, .ref p_tc, .int 0, .int 0, .int 0]))]) [0] rfl
  have hD9 := hD.sub (ws' := [(h0, .inr (9, [.ref p_bytes, .ref p_ts, .ref p_tc, .int 0, .int 0, .int 0]))]) [0] (by decide) rfl
  have hK9 := hK.sub (tys' := []) [] rfl
  exact W.vret hx hb hr (fun t ht hW => ⟨⟨(), rfl, trivial, ⟨by rw [ht]; exact hP9, va_K.moved hW.alike hK9, hD9⟩⟩, hS.F ht⟩) hS.2.2 dX9_splitFirst_79

set_option maxHeartbeats 4000000 in
set_option maxRecDepth 100000 in
theorem kX9_hasToken (l : Launch) (dC : Nat → ClassId) (dI : Nat → Nat → Nat) (sz : Nat) (h0 : Nat) (p_bytes : Nat) (p_ts : Nat) (p_tc : Nat) : Met l yX9_hasToken (Cond.code yX9_hasToken cX9_hasToken 2 (some .boolean) :: bg) ({ frames := 0, cells := 0, slots := 0, locals := 0 }) (pcW dC dI [.ref h0, .int 0] sz [(h0, .inr (9, [.ref p_bytes, .ref p_ts, .ref p_tc, .int 0, .int 0, .int 0]))] []) (va_Qi (fun (r : Int32) (u : Unit) => r = 0) (fun (u : Unit) (t : State) => va_P (dC, dI) vwCl [(h0, .inr (9, [.ref p_bytes, .ref p_ts, .ref p_tc, .int 0, .int 0, .int 0]))] t.heap ∧ va_K (dC, dI) vwCl [] t ∧ va_D (va_A [(h0, .inr (9, [.ref p_bytes, .ref p_ts, .ref p_tc, .int 0, .int 0, .int 0]))] sz) [(h0, .inr (9, [.ref p_bytes, .ref p_ts, .ref p_tc, .int 0, .int 0, .int 0]))]) (va_A [(h0, .inr (9, [.ref p_bytes, .ref p_ts, .ref p_tc, .int 0, .int 0, .int 0]))] sz)) 0 0 (va_A [(h0, .inr (9, [.ref p_bytes, .ref p_ts, .ref p_tc, .int 0, .int 0, .int 0]))] sz) := by
  refine Met.ofW (cc := cX9_hasToken) (maxL := 2) (ret := (some .boolean)) pnX9 rfl ?_
  intro p e s m args below meth c s₁ B hml hv
  obtain ⟨rfl, hsz, hP, hK, hD0, hN⟩ := hv
  have hx := B.exec
  have hb := B.bytes
  have hr := B.returns
  have htb : ∀ w ∈ bg, w.before [.ref h0, .int 0].toArray s = true := fun w h => atoms_spec (ws := Cond.code yX9_hasToken cX9_hasToken 2 (some .boolean) :: bg) B.pre w (List.mem_cons_of_mem _ h)
  have hown : s.vm.findClass RX9 = some m.cls := findClass_of_methodNamed B.named
  have hlocks := B.notSynchronized
  subst hsz
  have hD := hD0.self (sz := s.heap.size)
  generalize hAe : va_A [(h0, .inr (9, [.ref p_bytes, .ref p_ts, .ref p_tc, .int 0, .int 0, .int 0]))] s.heap.size = A at hD ⊢
  have hA : ∀ q : Nat, s.heap.size ≤ q → A q := fun q h => by rw [← hAe]; exact Or.inr h
  have hS : va_S A s.heap s.heap [] := va_S.rf
  have hl := lv_entry ([.ref h0, .int 0]) (n := 2) (Nat.le_of_ble_eq_true rfl)
  rw [lg_entry_eq]
  generalize (lg_sl ([.ref h0, .int 0]) ++ List.replicate (2 - (lg_sl ([.ref h0, .int 0])).length) Slot.unset).toArray = ls at hl ⊢
  change lv_has ls 2 [(0, .ref h0), (1, .int 0)] at hl
  clear hD0 hAe
  refine go0 (wsP := fun H => va_P (dC, dI) vwCl [(h0, .inr (9, [.ref p_bytes, .ref p_ts, .ref p_tc, .int 0, .int 0, .int 0]))] H) hP hS ?_
  clear hP hS; intro H locs hP hS
  change va_P (dC, dI) vwCl [(h0, .inr (9, [.ref p_bytes, .ref p_ts, .ref p_tc, .int 0, .int 0, .int 0]))] H at hP
  refine lv_iload_n hx hb dX9_hasToken_0 rfl (lv_at hl 1 rfl) ?_
  refine lv_if_lt (tgt := 16) hx hb dX9_hasToken_1 (by decide) (fun c_1 => absurd c_1 (by decide)) ?_
  intro _
  refine lv_iload_n hx hb dX9_hasToken_4 rfl (lv_at hl 1 rfl) ?_
  refine lv_aload_n hx hb dX9_hasToken_5 rfl (lv_at hl 0 rfl) ?_
  refine va_get (D := (dC, dI)) (ci := 9) (v := .int 0) (C := RX9) (T := TX9) (N := 6) hx hb htb iX9 hown hK hP 0 rfl rfl 4 (Nat.le_of_ble_eq_true rfl) (htb _ m_241) (fun _ h9 => h9) rfl dX9_hasToken_6 ?_
  refine lv_icmp_ge (tgt := 16) hx hb dX9_hasToken_9 (by decide) ?_ (fun c_2 => absurd (by decide) c_2)
  intro _
  refine lv_iconst (v := 0) hx hb dX9_hasToken_16 (by decide) ?_
  refine W.widen (k := 0) (n := 0) (Nat.le_of_ble_eq_true rfl) (Nat.le_of_ble_eq_true rfl) ?_
  have hP9 := hP.sub (ws' := [(h0, .inr (9, [.ref p_bytes, .ref p_ts, .ref p_tc, .int 0, .int 0, .int 0]))]) [0] rfl
  have hD9 := hD.sub (ws' := [(h0, .inr (9, [.ref p_bytes, .ref p_ts, .ref p_tc, .int 0, .int 0, .int 0]))]) [0] (by decide) rfl
  have hK9 := hK.sub (tys' := []) [] rfl
  exact W.zret (ty := .boolean) (v := 0) hx hb hr rfl (fun t ht hW => ⟨⟨0, (), rfl, (rfl), ⟨by rw [ht]; exact hP9, va_K.moved hW.alike hK9, hD9⟩⟩, hS.F ht⟩) hS.2.2 dX9_hasToken_17

set_option maxHeartbeats 4000000 in
set_option maxRecDepth 100000 in
theorem kX5_init (l : Launch) (dC : Nat → ClassId) (dI : Nat → Nat → Nat) (sz : Nat) (h0 : Nat) : Met l yX5_init (Cond.code yX5_init cX5_init 1 none :: bg) ({ frames := 1, cells := 6, slots := 192, locals := 12 }) (pcW dC dI [.ref h0] sz [(h0, .inr (5, [.null, .null, .null, .null, .null, .null, .int 0]))] []) (va_Qv (fun (u : Unit) => True) (fun (u : Unit) (t : State) => ∃ (b_deed : Nat) (b_value : Nat) (b_tests : Nat) (b_thing : Nat) (b_sign : Nat) (b_number : Nat) (k_tests : ClassId), va_P (dC, dI) vwCl [(h0, .inr (5, [.ref b_deed, .ref b_value, .ref b_tests, .ref b_thing, .ref b_sign, .ref b_number, .int 0])), (b_tests, .inl (k_tests, 16, .inl (fun _ => 0)))] t.heap ∧ va_K (dC, dI) vwCl [(k_tests, .int)] t ∧ va_D (va_A [(h0, .inr (5, [.null, .null, .null, .null, .null, .null, .int 0]))] sz) [(h0, .inr (5, [.ref b_deed, .ref b_value, .ref b_tests, .ref b_thing, .ref b_sign, .ref b_number, .int 0])), (b_tests, .inl (k_tests, 16, .inl (fun _ => 0)))]) (va_A [(h0, .inr (5, [.null, .null, .null, .null, .null, .null, .int 0]))] sz)) 6 192 (va_A [(h0, .inr (5, [.null, .null, .null, .null, .null, .null, .int 0]))] sz) := by
  refine Met.ofW (cc := cX5_init) (maxL := 1) (ret := none) pnX5 rfl ?_
  intro p e s m args below meth c s₁ B hml hv
  obtain ⟨rfl, hsz, hP, hK, hD0, hN⟩ := hv
  have hx := B.exec
  have hb := B.bytes
  have hr := B.returns
  have htb : ∀ w ∈ bg, w.before [.ref h0].toArray s = true := fun w h => atoms_spec (ws := Cond.code yX5_init cX5_init 1 none :: bg) B.pre w (List.mem_cons_of_mem _ h)
  have hown : s.vm.findClass RX5 = some m.cls := findClass_of_methodNamed B.named
  have hlocks := B.notSynchronized
  have hin : meth.name = "<init>" := (name_of_methodNamed B.named B.method).1
  subst hsz
  have hD := hD0.self (sz := s.heap.size)
  generalize hAe : va_A [(h0, .inr (5, [.null, .null, .null, .null, .null, .null, .int 0]))] s.heap.size = A at hD ⊢
  have hA : ∀ q : Nat, s.heap.size ≤ q → A q := fun q h => by rw [← hAe]; exact Or.inr h
  have hS : va_S A s.heap s.heap [] := va_S.rf
  have hl := lv_entry ([.ref h0]) (n := 1) (Nat.le_of_ble_eq_true rfl)
  rw [lg_entry_eq]
  generalize (lg_sl ([.ref h0]) ++ List.replicate (1 - (lg_sl ([.ref h0])).length) Slot.unset).toArray = ls at hl ⊢
  change lv_has ls 1 [(0, .ref h0)] at hl
  clear hD0 hAe
  refine go0 (wsP := fun H => va_P (dC, dI) vwCl [(h0, .inr (5, [.null, .null, .null, .null, .null, .null, .int 0]))] H) hP hS ?_
  clear hP hS; intro H locs hP hS
  change va_P (dC, dI) vwCl [(h0, .inr (5, [.null, .null, .null, .null, .null, .null, .int 0]))] H at hP
  refine lv_aload_n hx hb dX5_init_0 rfl (lv_at hl 0 rfl) ?_
  refine W.objInit hx hb hown (htb _ m_278) (htb _ m_26) (htb _ m_27) rfl (by rw [hml]; exact hl.1) rfl dX5_init_1 (Nat.le_of_ble_eq_true rfl) (Nat.le_of_ble_eq_true rfl) ?_
  refine W.eq (g2 := F0 m 4 ls []) rfl ?_
  refine lv_aload_n hx hb dX5_init_4 rfl (lv_at hl 0 rfl) ?_
  refine lv_bipush (v := 16) hx hb dX5_init_5 (by decide) ?_
  refine va_newa (atype := .int) (a0 := (16, .inl (fun _ => 0))) (N' := 16) (ty := .int) hx hb (htb _ m_63) rfl hK hP hD hS hA (fun _ => rfl) (by decide) (by decide) (Nat.le_of_ble_eq_true rfl) (Nat.le_of_ble_eq_true rfl) (Nat.le_of_ble_eq_true rfl) dX5_init_7 ?_
  clear hP hD hS hK; intro q_1 a_2 H hK hP hD hS
  change va_P (dC, dI) vwCl [(h0, .inr (5, [.null, .null, .null, .null, .null, .null, .int 0])), (q_1, .inl (a_2, 16, .inl (fun _ => 0)))] H at hP
  change va_D A [(h0, .inr (5, [.null, .null, .null, .null, .null, .null, .int 0])), (q_1, .inl (a_2, 16, .inl (fun _ => 0)))] at hD
  change va_K (dC, dI) vwCl [(a_2, .int)] s at hK
  refine W.widen (k := 1) (n := 16) (Nat.le_of_ble_eq_true rfl) (Nat.le_of_ble_eq_true rfl) ?_
  refine va_putF (D := (dC, dI)) (ci := 5) (v := .ref q_1) (C := RX5) (T := TX5) (N := 7) hx hb htb iX5 tyX5 tyX5_ok nmX5 hown hK hP hD hS 0 rfl rfl 0 (Nat.le_of_ble_eq_true rfl) (htb _ m_279) (fun _ h9 => h9) rfl hin rfl (tyX5_ok 0 (Nat.le_of_ble_eq_true rfl)) rfl rfl (Nat.le_of_ble_eq_true rfl) dX5_init_9 ?_
  clear hP hD hS; intro H locs hP hD hS
  change va_P (dC, dI) vwCl [(h0, .inr (5, [.ref q_1, .null, .null, .null, .null, .null, .int 0])), (q_1, .inl (a_2, 16, .inl (fun _ => 0)))] H at hP
  change va_D A [(h0, .inr (5, [.ref q_1, .null, .null, .null, .null, .null, .int 0])), (q_1, .inl (a_2, 16, .inl (fun _ => 0)))] at hD
  refine lv_aload_n hx hb dX5_init_12 rfl (lv_at hl 0 rfl) ?_
  refine lv_bipush (v := 16) hx hb dX5_init_13 (by decide) ?_
  refine va_newa (atype := .int) (a0 := (16, .inl (fun _ => 0))) (N' := 16) (ty := .int) hx hb (htb _ m_63) rfl hK hP hD hS hA (fun _ => rfl) (by decide) (by decide) (Nat.le_of_ble_eq_true rfl) (Nat.le_of_ble_eq_true rfl) (Nat.le_of_ble_eq_true rfl) dX5_init_15 ?_
  clear hP hD hS hK; intro q_3 a_4 H hK hP hD hS
  change va_P (dC, dI) vwCl [(h0, .inr (5, [.ref q_1, .null, .null, .null, .null, .null, .int 0])), (q_1, .inl (a_2, 16, .inl (fun _ => 0))), (q_3, .inl (a_4, 16, .inl (fun _ => 0)))] H at hP
  change va_D A [(h0, .inr (5, [.ref q_1, .null, .null, .null, .null, .null, .int 0])), (q_1, .inl (a_2, 16, .inl (fun _ => 0))), (q_3, .inl (a_4, 16, .inl (fun _ => 0)))] at hD
  change va_K (dC, dI) vwCl [(a_2, .int), (a_4, .int)] s at hK
  refine W.widen (k := 2) (n := 32) (Nat.le_of_ble_eq_true rfl) (Nat.le_of_ble_eq_true rfl) ?_
  refine va_putF (D := (dC, dI)) (ci := 5) (v := .ref q_3) (C := RX5) (T := TX5) (N := 7) hx hb htb iX5 tyX5 tyX5_ok nmX5 hown hK hP hD hS 0 rfl rfl 1 (Nat.le_of_ble_eq_true rfl) (htb _ m_280) (fun _ h9 => h9) rfl hin rfl (tyX5_ok 1 (Nat.le_of_ble_eq_true rfl)) rfl rfl (Nat.le_of_ble_eq_true rfl) dX5_init_17 ?_
  clear hP hD hS; intro H locs hP hD hS
  change va_P (dC, dI) vwCl [(h0, .inr (5, [.ref q_1, .ref q_3, .null, .null, .null, .null, .int 0])), (q_1, .inl (a_2, 16, .inl (fun _ => 0))), (q_3, .inl (a_4, 16, .inl (fun _ => 0)))] H at hP
  change va_D A [(h0, .inr (5, [.ref q_1, .ref q_3, .null, .null, .null, .null, .int 0])), (q_1, .inl (a_2, 16, .inl (fun _ => 0))), (q_3, .inl (a_4, 16, .inl (fun _ => 0)))] at hD
  refine lv_aload_n hx hb dX5_init_20 rfl (lv_at hl 0 rfl) ?_
  refine lv_bipush (v := 16) hx hb dX5_init_21 (by decide) ?_
  refine va_newa (atype := .int) (a0 := (16, .inl (fun _ => 0))) (N' := 16) (ty := .int) hx hb (htb _ m_63) rfl hK hP hD hS hA (fun _ => rfl) (by decide) (by decide) (Nat.le_of_ble_eq_true rfl) (Nat.le_of_ble_eq_true rfl) (Nat.le_of_ble_eq_true rfl) dX5_init_23 ?_
  clear hP hD hS hK; intro q_5 a_6 H hK hP hD hS
  change va_P (dC, dI) vwCl [(h0, .inr (5, [.ref q_1, .ref q_3, .null, .null, .null, .null, .int 0])), (q_1, .inl (a_2, 16, .inl (fun _ => 0))), (q_3, .inl (a_4, 16, .inl (fun _ => 0))), (q_5, .inl (a_6, 16, .inl (fun _ => 0)))] H at hP
  change va_D A [(h0, .inr (5, [.ref q_1, .ref q_3, .null, .null, .null, .null, .int 0])), (q_1, .inl (a_2, 16, .inl (fun _ => 0))), (q_3, .inl (a_4, 16, .inl (fun _ => 0))), (q_5, .inl (a_6, 16, .inl (fun _ => 0)))] at hD
  change va_K (dC, dI) vwCl [(a_2, .int), (a_4, .int), (a_6, .int)] s at hK
  refine W.widen (k := 3) (n := 48) (Nat.le_of_ble_eq_true rfl) (Nat.le_of_ble_eq_true rfl) ?_
  refine va_putF (D := (dC, dI)) (ci := 5) (v := .ref q_5) (C := RX5) (T := TX5) (N := 7) hx hb htb iX5 tyX5 tyX5_ok nmX5 hown hK hP hD hS 0 rfl rfl 2 (Nat.le_of_ble_eq_true rfl) (htb _ m_281) (fun _ h9 => h9) rfl hin rfl (tyX5_ok 2 (Nat.le_of_ble_eq_true rfl)) rfl rfl (Nat.le_of_ble_eq_true rfl) dX5_init_25 ?_
  clear hP hD hS; intro H locs hP hD hS
  change va_P (dC, dI) vwCl [(h0, .inr (5, [.ref q_1, .ref q_3, .ref q_5, .null, .null, .null, .int 0])), (q_1, .inl (a_2, 16, .inl (fun _ => 0))), (q_3, .inl (a_4, 16, .inl (fun _ => 0))), (q_5, .inl (a_6, 16, .inl (fun _ => 0)))] H at hP
  change va_D A [(h0, .inr (5, [.ref q_1, .ref q_3, .ref q_5, .null, .null, .null, .int 0])), (q_1, .inl (a_2, 16, .inl (fun _ => 0))), (q_3, .inl (a_4, 16, .inl (fun _ => 0))), (q_5, .inl (a_6, 16, .inl (fun _ => 0)))] at hD
  refine lv_aload_n hx hb dX5_init_28 rfl (lv_at hl 0 rfl) ?_
  refine lv_bipush (v := 48) hx hb dX5_init_29 (by decide) ?_
  refine va_newa (atype := .int) (a0 := (48, .inl (fun _ => 0))) (N' := 48) (ty := .int) hx hb (htb _ m_63) rfl hK hP hD hS hA (fun _ => rfl) (by decide) (by decide) (Nat.le_of_ble_eq_true rfl) (Nat.le_of_ble_eq_true rfl) (Nat.le_of_ble_eq_true rfl) dX5_init_31 ?_
  clear hP hD hS hK; intro q_7 a_8 H hK hP hD hS
  change va_P (dC, dI) vwCl [(h0, .inr (5, [.ref q_1, .ref q_3, .ref q_5, .null, .null, .null, .int 0])), (q_1, .inl (a_2, 16, .inl (fun _ => 0))), (q_3, .inl (a_4, 16, .inl (fun _ => 0))), (q_5, .inl (a_6, 16, .inl (fun _ => 0))), (q_7, .inl (a_8, 48, .inl (fun _ => 0)))] H at hP
  change va_D A [(h0, .inr (5, [.ref q_1, .ref q_3, .ref q_5, .null, .null, .null, .int 0])), (q_1, .inl (a_2, 16, .inl (fun _ => 0))), (q_3, .inl (a_4, 16, .inl (fun _ => 0))), (q_5, .inl (a_6, 16, .inl (fun _ => 0))), (q_7, .inl (a_8, 48, .inl (fun _ => 0)))] at hD
  change va_K (dC, dI) vwCl [(a_2, .int), (a_4, .int), (a_6, .int), (a_8, .int)] s at hK
  refine W.widen (k := 4) (n := 96) (Nat.le_of_ble_eq_true rfl) (Nat.le_of_ble_eq_true rfl) ?_
  refine va_putF (D := (dC, dI)) (ci := 5) (v := .ref q_7) (C := RX5) (T := TX5) (N := 7) hx hb htb iX5 tyX5 tyX5_ok nmX5 hown hK hP hD hS 0 rfl rfl 3 (Nat.le_of_ble_eq_true rfl) (htb _ m_282) (fun _ h9 => h9) rfl hin rfl (tyX5_ok 3 (Nat.le_of_ble_eq_true rfl)) rfl rfl (Nat.le_of_ble_eq_true rfl) dX5_init_33 ?_
  clear hP hD hS; intro H locs hP hD hS
  change va_P (dC, dI) vwCl [(h0, .inr (5, [.ref q_1, .ref q_3, .ref q_5, .ref q_7, .null, .null, .int 0])), (q_1, .inl (a_2, 16, .inl (fun _ => 0))), (q_3, .inl (a_4, 16, .inl (fun _ => 0))), (q_5, .inl (a_6, 16, .inl (fun _ => 0))), (q_7, .inl (a_8, 48, .inl (fun _ => 0)))] H at hP
  change va_D A [(h0, .inr (5, [.ref q_1, .ref q_3, .ref q_5, .ref q_7, .null, .null, .int 0])), (q_1, .inl (a_2, 16, .inl (fun _ => 0))), (q_3, .inl (a_4, 16, .inl (fun _ => 0))), (q_5, .inl (a_6, 16, .inl (fun _ => 0))), (q_7, .inl (a_8, 48, .inl (fun _ => 0)))] at hD
  refine lv_aload_n hx hb dX5_init_36 rfl (lv_at hl 0 rfl) ?_
  refine lv_bipush (v := 48) hx hb dX5_init_37 (by decide) ?_
  refine va_newa (atype := .int) (a0 := (48, .inl (fun _ => 0))) (N' := 48) (ty := .int) hx hb (htb _ m_63) rfl hK hP hD hS hA (fun _ => rfl) (by decide) (by decide) (Nat.le_of_ble_eq_true rfl) (Nat.le_of_ble_eq_true rfl) (Nat.le_of_ble_eq_true rfl) dX5_init_39 ?_
  clear hP hD hS hK; intro q_9 a_10 H hK hP hD hS
  change va_P (dC, dI) vwCl [(h0, .inr (5, [.ref q_1, .ref q_3, .ref q_5, .ref q_7, .null, .null, .int 0])), (q_1, .inl (a_2, 16, .inl (fun _ => 0))), (q_3, .inl (a_4, 16, .inl (fun _ => 0))), (q_5, .inl (a_6, 16, .inl (fun _ => 0))), (q_7, .inl (a_8, 48, .inl (fun _ => 0))), (q_9, .inl (a_10, 48, .inl (fun _ => 0)))] H at hP
  change va_D A [(h0, .inr (5, [.ref q_1, .ref q_3, .ref q_5, .ref q_7, .null, .null, .int 0])), (q_1, .inl (a_2, 16, .inl (fun _ => 0))), (q_3, .inl (a_4, 16, .inl (fun _ => 0))), (q_5, .inl (a_6, 16, .inl (fun _ => 0))), (q_7, .inl (a_8, 48, .inl (fun _ => 0))), (q_9, .inl (a_10, 48, .inl (fun _ => 0)))] at hD
  change va_K (dC, dI) vwCl [(a_2, .int), (a_4, .int), (a_6, .int), (a_8, .int), (a_10, .int)] s at hK
  refine W.widen (k := 5) (n := 144) (Nat.le_of_ble_eq_true rfl) (Nat.le_of_ble_eq_true rfl) ?_
  refine va_putF (D := (dC, dI)) (ci := 5) (v := .ref q_9) (C := RX5) (T := TX5) (N := 7) hx hb htb iX5 tyX5 tyX5_ok nmX5 hown hK hP hD hS 0 rfl rfl 4 (Nat.le_of_ble_eq_true rfl) (htb _ m_283) (fun _ h9 => h9) rfl hin rfl (tyX5_ok 4 (Nat.le_of_ble_eq_true rfl)) rfl rfl (Nat.le_of_ble_eq_true rfl) dX5_init_41 ?_
  clear hP hD hS; intro H locs hP hD hS
  change va_P (dC, dI) vwCl [(h0, .inr (5, [.ref q_1, .ref q_3, .ref q_5, .ref q_7, .ref q_9, .null, .int 0])), (q_1, .inl (a_2, 16, .inl (fun _ => 0))), (q_3, .inl (a_4, 16, .inl (fun _ => 0))), (q_5, .inl (a_6, 16, .inl (fun _ => 0))), (q_7, .inl (a_8, 48, .inl (fun _ => 0))), (q_9, .inl (a_10, 48, .inl (fun _ => 0)))] H at hP
  change va_D A [(h0, .inr (5, [.ref q_1, .ref q_3, .ref q_5, .ref q_7, .ref q_9, .null, .int 0])), (q_1, .inl (a_2, 16, .inl (fun _ => 0))), (q_3, .inl (a_4, 16, .inl (fun _ => 0))), (q_5, .inl (a_6, 16, .inl (fun _ => 0))), (q_7, .inl (a_8, 48, .inl (fun _ => 0))), (q_9, .inl (a_10, 48, .inl (fun _ => 0)))] at hD
  refine lv_aload_n hx hb dX5_init_44 rfl (lv_at hl 0 rfl) ?_
  refine lv_bipush (v := 48) hx hb dX5_init_45 (by decide) ?_
  refine va_newa (atype := .int) (a0 := (48, .inl (fun _ => 0))) (N' := 48) (ty := .int) hx hb (htb _ m_63) rfl hK hP hD hS hA (fun _ => rfl) (by decide) (by decide) (Nat.le_of_ble_eq_true rfl) (Nat.le_of_ble_eq_true rfl) (Nat.le_of_ble_eq_true rfl) dX5_init_47 ?_
  clear hP hD hS hK; intro q_11 a_12 H hK hP hD hS
  change va_P (dC, dI) vwCl [(h0, .inr (5, [.ref q_1, .ref q_3, .ref q_5, .ref q_7, .ref q_9, .null, .int 0])), (q_1, .inl (a_2, 16, .inl (fun _ => 0))), (q_3, .inl (a_4, 16, .inl (fun _ => 0))), (q_5, .inl (a_6, 16, .inl (fun _ => 0))), (q_7, .inl (a_8, 48, .inl (fun _ => 0))), (q_9, .inl (a_10, 48, .inl (fun _ => 0))), (q_11, .inl (a_12, 48, .inl (fun _ => 0)))] H at hP
  change va_D A [(h0, .inr (5, [.ref q_1, .ref q_3, .ref q_5, .ref q_7, .ref q_9, .null, .int 0])), (q_1, .inl (a_2, 16, .inl (fun _ => 0))), (q_3, .inl (a_4, 16, .inl (fun _ => 0))), (q_5, .inl (a_6, 16, .inl (fun _ => 0))), (q_7, .inl (a_8, 48, .inl (fun _ => 0))), (q_9, .inl (a_10, 48, .inl (fun _ => 0))), (q_11, .inl (a_12, 48, .inl (fun _ => 0)))] at hD
  change va_K (dC, dI) vwCl [(a_2, .int), (a_4, .int), (a_6, .int), (a_8, .int), (a_10, .int), (a_12, .int)] s at hK
  refine W.widen (k := 6) (n := 192) (Nat.le_of_ble_eq_true rfl) (Nat.le_of_ble_eq_true rfl) ?_
  refine va_putF (D := (dC, dI)) (ci := 5) (v := .ref q_11) (C := RX5) (T := TX5) (N := 7) hx hb htb iX5 tyX5 tyX5_ok nmX5 hown hK hP hD hS 0 rfl rfl 5 (Nat.le_of_ble_eq_true rfl) (htb _ m_284) (fun _ h9 => h9) rfl hin rfl (tyX5_ok 5 (Nat.le_of_ble_eq_true rfl)) rfl rfl (Nat.le_of_ble_eq_true rfl) dX5_init_49 ?_
  clear hP hD hS; intro H locs hP hD hS
  change va_P (dC, dI) vwCl [(h0, .inr (5, [.ref q_1, .ref q_3, .ref q_5, .ref q_7, .ref q_9, .ref q_11, .int 0])), (q_1, .inl (a_2, 16, .inl (fun _ => 0))), (q_3, .inl (a_4, 16, .inl (fun _ => 0))), (q_5, .inl (a_6, 16, .inl (fun _ => 0))), (q_7, .inl (a_8, 48, .inl (fun _ => 0))), (q_9, .inl (a_10, 48, .inl (fun _ => 0))), (q_11, .inl (a_12, 48, .inl (fun _ => 0)))] H at hP
  change va_D A [(h0, .inr (5, [.ref q_1, .ref q_3, .ref q_5, .ref q_7, .ref q_9, .ref q_11, .int 0])), (q_1, .inl (a_2, 16, .inl (fun _ => 0))), (q_3, .inl (a_4, 16, .inl (fun _ => 0))), (q_5, .inl (a_6, 16, .inl (fun _ => 0))), (q_7, .inl (a_8, 48, .inl (fun _ => 0))), (q_9, .inl (a_10, 48, .inl (fun _ => 0))), (q_11, .inl (a_12, 48, .inl (fun _ => 0)))] at hD
  refine W.widen (k := 6) (n := 192) (Nat.le_of_ble_eq_true rfl) (Nat.le_of_ble_eq_true rfl) ?_
  have hP9 := hP.sub (ws' := [(h0, .inr (5, [.ref q_1, .ref q_3, .ref q_5, .ref q_7, .ref q_9, .ref q_11, .int 0])), (q_5, .inl (a_6, 16, .inl (fun _ => 0)))]) [0, 3] rfl
  have hD9 := hD.sub (ws' := [(h0, .inr (5, [.ref q_1, .ref q_3, .ref q_5, .ref q_7, .ref q_9, .ref q_11, .int 0])), (q_5, .inl (a_6, 16, .inl (fun _ => 0)))]) [0, 3] (by decide) rfl
  have hK9 := hK.sub (tys' := [(a_6, .int)]) [2] rfl
  exact W.vret hx hb hr (fun t ht hW => ⟨⟨(), rfl, trivial, ⟨q_1, q_3, q_5, q_7, q_9, q_11, a_6, by rw [ht]; exact hP9, va_K.moved hW.alike hK9, hD9⟩⟩, hS.F ht⟩) hS.2.2 dX5_init_52

set_option maxHeartbeats 4000000 in
set_option maxRecDepth 100000 in
theorem kX5_clear (l : Launch) (dC : Nat → ClassId) (dI : Nat → Nat → Nat) (sz : Nat) (h0 : Nat) (b_deed : Nat) (b_value : Nat) (b_tests : Nat) (b_thing : Nat) (b_sign : Nat) (b_number : Nat) (k_tests : ClassId) : Met l yX5_clear (Cond.code yX5_clear cX5_clear 1 none :: bg) ({ frames := 1, cells := 0, slots := 0, locals := 23 }) (pcW dC dI [.ref h0] sz [(h0, .inr (5, [.ref b_deed, .ref b_value, .ref b_tests, .ref b_thing, .ref b_sign, .ref b_number, .int 0])), (b_tests, .inl (k_tests, 16, .inl (fun _ => 0)))] [(k_tests, .int)]) (va_Qv (fun (u : Unit) => True) (fun (u : Unit) (t : State) => va_P (dC, dI) vwCl [(h0, .inr (5, [.ref b_deed, .ref b_value, .ref b_tests, .ref b_thing, .ref b_sign, .ref b_number, .int 0]))] t.heap ∧ va_K (dC, dI) vwCl [] t ∧ va_D (va_A [(h0, .inr (5, [.ref b_deed, .ref b_value, .ref b_tests, .ref b_thing, .ref b_sign, .ref b_number, .int 0])), (b_tests, .inl (k_tests, 16, .inl (fun _ => 0)))] sz) [(h0, .inr (5, [.ref b_deed, .ref b_value, .ref b_tests, .ref b_thing, .ref b_sign, .ref b_number, .int 0]))]) (va_A [(h0, .inr (5, [.ref b_deed, .ref b_value, .ref b_tests, .ref b_thing, .ref b_sign, .ref b_number, .int 0])), (b_tests, .inl (k_tests, 16, .inl (fun _ => 0)))] sz)) 0 0 (va_A [(h0, .inr (5, [.ref b_deed, .ref b_value, .ref b_tests, .ref b_thing, .ref b_sign, .ref b_number, .int 0])), (b_tests, .inl (k_tests, 16, .inl (fun _ => 0)))] sz) := by
  refine Met.ofW (cc := cX5_clear) (maxL := 1) (ret := none) pnX5 rfl ?_
  intro p e s m args below meth c s₁ B hml hv
  obtain ⟨rfl, hsz, hP, hK, hD0, hN⟩ := hv
  have hx := B.exec
  have hb := B.bytes
  have hr := B.returns
  have htb : ∀ w ∈ bg, w.before [.ref h0].toArray s = true := fun w h => atoms_spec (ws := Cond.code yX5_clear cX5_clear 1 none :: bg) B.pre w (List.mem_cons_of_mem _ h)
  have hown : s.vm.findClass RX5 = some m.cls := findClass_of_methodNamed B.named
  have hlocks := B.notSynchronized
  subst hsz
  have hD := hD0.self (sz := s.heap.size)
  generalize hAe : va_A [(h0, .inr (5, [.ref b_deed, .ref b_value, .ref b_tests, .ref b_thing, .ref b_sign, .ref b_number, .int 0])), (b_tests, .inl (k_tests, 16, .inl (fun _ => 0)))] s.heap.size = A at hD ⊢
  have hA : ∀ q : Nat, s.heap.size ≤ q → A q := fun q h => by rw [← hAe]; exact Or.inr h
  have hS : va_S A s.heap s.heap [] := va_S.rf
  have hl := lv_entry ([.ref h0]) (n := 1) (Nat.le_of_ble_eq_true rfl)
  rw [lg_entry_eq]
  generalize (lg_sl ([.ref h0]) ++ List.replicate (1 - (lg_sl ([.ref h0])).length) Slot.unset).toArray = ls at hl ⊢
  change lv_has ls 1 [(0, .ref h0)] at hl
  clear hD0 hAe
  refine go0 (wsP := fun H => va_P (dC, dI) vwCl [(h0, .inr (5, [.ref b_deed, .ref b_value, .ref b_tests, .ref b_thing, .ref b_sign, .ref b_number, .int 0])), (b_tests, .inl (k_tests, 16, .inl (fun _ => 0)))] H) hP hS ?_
  clear hP hS; intro H locs hP hS
  change va_P (dC, dI) vwCl [(h0, .inr (5, [.ref b_deed, .ref b_value, .ref b_tests, .ref b_thing, .ref b_sign, .ref b_number, .int 0])), (b_tests, .inl (k_tests, 16, .inl (fun _ => 0)))] H at hP
  refine lv_aload_n hx hb dX5_clear_0 rfl (lv_at hl 0 rfl) ?_
  refine lv_iconst (v := 0) hx hb dX5_clear_1 (by decide) ?_
  refine va_put (D := (dC, dI)) (ci := 5) (v := .int 0) (C := RX5) (T := TX5) (N := 7) hx hb htb iX5 tyX5 tyX5_ok nmX5 hown hK hP hD hS 0 rfl rfl 6 (Nat.le_of_ble_eq_true rfl) (htb _ m_285) (fun _ h9 => h9) rfl (tyX5_ok 6 (Nat.le_of_ble_eq_true rfl)) rfl rfl (Nat.le_of_ble_eq_true rfl) dX5_clear_2 ?_
  clear hP hD hS; intro H locs hP hD hS
  change va_P (dC, dI) vwCl [(h0, .inr (5, [.ref b_deed, .ref b_value, .ref b_tests, .ref b_thing, .ref b_sign, .ref b_number, .int 0])), (b_tests, .inl (k_tests, 16, .inl (fun _ => 0)))] H at hP
  change va_D A [(h0, .inr (5, [.ref b_deed, .ref b_value, .ref b_tests, .ref b_thing, .ref b_sign, .ref b_number, .int 0])), (b_tests, .inl (k_tests, 16, .inl (fun _ => 0)))] at hD
  refine lv_aload_n hx hb dX5_clear_5 rfl (lv_at hl 0 rfl) ?_
  refine va_get (D := (dC, dI)) (ci := 5) (v := .ref b_tests) (C := RX5) (T := TX5) (N := 7) hx hb htb iX5 hown hK hP 0 rfl rfl 2 (Nat.le_of_ble_eq_true rfl) (htb _ m_281) (fun _ h9 => h9) rfl dX5_clear_6 ?_
  refine lv_iconst (v := 0) hx hb dX5_clear_9 (by decide) ?_
  have hPc := hP.sub (ws' := [(b_tests, .inl (k_tests, 16, .inl (fun _ => 0)))]) [1] rfl
  have hDc := hD.sub (ws' := [(b_tests, .inl (k_tests, 16, .inl (fun _ => 0)))]) [1] (by decide) rfl
  have hKc := hK.sub (tys' := [(k_tests, .int)]) [0] rfl
  have hFc := va_free (wc := [(b_tests, .inl (k_tests, 16, .inl (fun _ => 0)))]) hD hS hA [1] rfl
  refine va_callv (va_runS (As := [.ref b_tests, .int 0]) (rest := []) ⟨hx, hb, hml, hown, htb⟩ (kJ7_fill_53178 l dC dI H.size b_tests k_tests 16 (fun _ => 0) 0 (by decide)) ⟨callB_of 2 htb (gd_c m_576) rfl rfl rfl (htb _ m_15) (htb _ m_910) hdJ7_fill_53178 ⟨(Nat.le_of_ble_eq_true rfl), (Nat.le_of_ble_eq_true rfl)⟩, htb _ m_575⟩ ⟨pcW_blind, pcW_at hPc hKc hDc hN⟩ rfl rfl hl.1 rfl (lv_room (Nat.le_of_ble_eq_true rfl)) dX5_clear_10 ⟨(Nat.le_of_ble_eq_true rfl), (Nat.le_of_ble_eq_true rfl)⟩) hS (fun q _ h => hFc q h) hFc (fun u t H1 locs1 ht hvm h_2 hB hz1 hk1 hS1 => ?_)
  obtain ⟨hPn, hDn⟩ := va_join (wr := [(h0, .inr (5, [.ref b_deed, .ref b_value, .ref b_tests, .ref b_thing, .ref b_sign, .ref b_number, .int 0]))]) (w1 := []) hP hD [1] [0] rfl rfl (by decide) (by decide) hk1 hFc nilP nilD
  clear hP hD hS hPc hDc hKc hFc hk1 hz1 ht hvm hB
  clear t
  revert hS1 hPn hDn; generalize H1 = H; generalize locs1 = locs; intro hS hP hD
  change va_P (dC, dI) vwCl [(h0, .inr (5, [.ref b_deed, .ref b_value, .ref b_tests, .ref b_thing, .ref b_sign, .ref b_number, .int 0]))] H at hP
  change va_D A [(h0, .inr (5, [.ref b_deed, .ref b_value, .ref b_tests, .ref b_thing, .ref b_sign, .ref b_number, .int 0]))] at hD
  refine W.widen (k := 0) (n := 0) (Nat.le_of_ble_eq_true rfl) (Nat.le_of_ble_eq_true rfl) ?_
  have hP9 := hP.sub (ws' := [(h0, .inr (5, [.ref b_deed, .ref b_value, .ref b_tests, .ref b_thing, .ref b_sign, .ref b_number, .int 0]))]) [0] rfl
  have hD9 := hD.sub (ws' := [(h0, .inr (5, [.ref b_deed, .ref b_value, .ref b_tests, .ref b_thing, .ref b_sign, .ref b_number, .int 0]))]) [0] (by decide) rfl
  have hK9 := hK.sub (tys' := []) [] rfl
  exact W.vret hx hb hr (fun t ht hW => ⟨⟨(), rfl, trivial, ⟨by rw [ht]; exact hP9, va_K.moved hW.alike hK9, hD9⟩⟩, hS.F ht⟩) hS.2.2 dX5_clear_13

set_option maxHeartbeats 4000000 in
set_option maxRecDepth 100000 in
theorem kX6_init (l : Launch) (dC : Nat → ClassId) (dI : Nat → Nat → Nat) (sz : Nat) (h0 : Nat) (d_tape : Nat) : Met l yX6_init (Cond.code yX6_init cX6_init 2 none :: bg) ({ frames := 1, cells := 0, slots := 0, locals := 12 }) (pcW dC dI [.ref h0, .ref d_tape] sz [(h0, .inr (6, [.null, .int 0, .int 0]))] []) (va_Qv (fun (u : Unit) => True) (fun (u : Unit) (t : State) => va_P (dC, dI) vwCl [(h0, .inr (6, [.ref d_tape, .int 0, .int 0]))] t.heap ∧ va_K (dC, dI) vwCl [] t ∧ va_D (va_A [(h0, .inr (6, [.null, .int 0, .int 0]))] sz) [(h0, .inr (6, [.ref d_tape, .int 0, .int 0]))]) (va_A [(h0, .inr (6, [.null, .int 0, .int 0]))] sz)) 0 0 (va_A [(h0, .inr (6, [.null, .int 0, .int 0]))] sz) := by
  refine Met.ofW (cc := cX6_init) (maxL := 2) (ret := none) pnX6 rfl ?_
  intro p e s m args below meth c s₁ B hml hv
  obtain ⟨rfl, hsz, hP, hK, hD0, hN⟩ := hv
  have hx := B.exec
  have hb := B.bytes
  have hr := B.returns
  have htb : ∀ w ∈ bg, w.before [.ref h0, .ref d_tape].toArray s = true := fun w h => atoms_spec (ws := Cond.code yX6_init cX6_init 2 none :: bg) B.pre w (List.mem_cons_of_mem _ h)
  have hown : s.vm.findClass RX6 = some m.cls := findClass_of_methodNamed B.named
  have hlocks := B.notSynchronized
  have hin : meth.name = "<init>" := (name_of_methodNamed B.named B.method).1
  subst hsz
  have hD := hD0.self (sz := s.heap.size)
  generalize hAe : va_A [(h0, .inr (6, [.null, .int 0, .int 0]))] s.heap.size = A at hD ⊢
  have hA : ∀ q : Nat, s.heap.size ≤ q → A q := fun q h => by rw [← hAe]; exact Or.inr h
  have hS : va_S A s.heap s.heap [] := va_S.rf
  have hl := lv_entry ([.ref h0, .ref d_tape]) (n := 2) (Nat.le_of_ble_eq_true rfl)
  rw [lg_entry_eq]
  generalize (lg_sl ([.ref h0, .ref d_tape]) ++ List.replicate (2 - (lg_sl ([.ref h0, .ref d_tape])).length) Slot.unset).toArray = ls at hl ⊢
  change lv_has ls 2 [(0, .ref h0), (1, .ref d_tape)] at hl
  clear hD0 hAe
  refine go0 (wsP := fun H => va_P (dC, dI) vwCl [(h0, .inr (6, [.null, .int 0, .int 0]))] H) hP hS ?_
  clear hP hS; intro H locs hP hS
  change va_P (dC, dI) vwCl [(h0, .inr (6, [.null, .int 0, .int 0]))] H at hP
  refine lv_aload_n hx hb dX6_init_0 rfl (lv_at hl 0 rfl) ?_
  refine W.objInit hx hb hown (htb _ m_262) (htb _ m_26) (htb _ m_27) rfl (by rw [hml]; exact hl.1) rfl dX6_init_1 (Nat.le_of_ble_eq_true rfl) (Nat.le_of_ble_eq_true rfl) ?_
  refine W.eq (g2 := F0 m 4 ls []) rfl ?_
  refine lv_aload_n hx hb dX6_init_4 rfl (lv_at hl 0 rfl) ?_
  refine lv_aload_n hx hb dX6_init_5 rfl (lv_at hl 1 rfl) ?_
  refine va_putF (D := (dC, dI)) (ci := 6) (v := .ref d_tape) (C := RX6) (T := TX6) (N := 3) hx hb htb iX6 tyX6 tyX6_ok nmX6 hown hK hP hD hS 0 rfl rfl 0 (Nat.le_of_ble_eq_true rfl) (htb _ m_263) (fun _ h9 => h9) rfl hin rfl (tyX6_ok 0 (Nat.le_of_ble_eq_true rfl)) rfl rfl (Nat.le_of_ble_eq_true rfl) dX6_init_6 ?_
  clear hP hD hS; intro H locs hP hD hS
  change va_P (dC, dI) vwCl [(h0, .inr (6, [.ref d_tape, .int 0, .int 0]))] H at hP
  change va_D A [(h0, .inr (6, [.ref d_tape, .int 0, .int 0]))] at hD
  refine W.widen (k := 0) (n := 0) (Nat.le_of_ble_eq_true rfl) (Nat.le_of_ble_eq_true rfl) ?_
  have hP9 := hP.sub (ws' := [(h0, .inr (6, [.ref d_tape, .int 0, .int 0]))]) [0] rfl
  have hD9 := hD.sub (ws' := [(h0, .inr (6, [.ref d_tape, .int 0, .int 0]))]) [0] (by decide) rfl
  have hK9 := hK.sub (tys' := []) [] rfl
  exact W.vret hx hb hr (fun t ht hW => ⟨⟨(), rfl, trivial, ⟨by rw [ht]; exact hP9, va_K.moved hW.alike hK9, hD9⟩⟩, hS.F ht⟩) hS.2.2 dX6_init_9

set_option maxHeartbeats 4000000 in
set_option maxRecDepth 100000 in
theorem kX6_read (l : Launch) (dC : Nat → ClassId) (dI : Nat → Nat → Nat) (sz : Nat) (h0 : Nat) (d_tape : Nat) (b0 : Nat) (p_bytes : Nat) (p_ts : Nat) (p_tc : Nat) (b_deed : Nat) (b_value : Nat) (b_tests : Nat) (b_thing : Nat) (b_sign : Nat) (b_number : Nat) (k_tests : ClassId) : Met l yX6_read (Cond.code yX6_read cX6_read 4 (some .boolean) :: bg) ({ frames := 2, cells := 0, slots := 0, locals := 43 }) (pcW dC dI [.ref h0, .int 0, .ref b0] sz [(h0, .inr (6, [.ref d_tape, .int 0, .int 0])), (d_tape, .inr (9, [.ref p_bytes, .ref p_ts, .ref p_tc, .int 0, .int 0, .int 0])), (b0, .inr (5, [.ref b_deed, .ref b_value, .ref b_tests, .ref b_thing, .ref b_sign, .ref b_number, .int 0])), (b_tests, .inl (k_tests, 16, .inl (fun _ => 0)))] [(k_tests, .int)]) (va_Qi (fun (r : Int32) (u : Unit) => r = 1) (fun (u : Unit) (t : State) => va_P (dC, dI) vwCl [(h0, .inr (6, [.ref d_tape, .int 0, .int 0])), (d_tape, .inr (9, [.ref p_bytes, .ref p_ts, .ref p_tc, .int 0, .int 0, .int 0])), (b0, .inr (5, [.ref b_deed, .ref b_value, .ref b_tests, .ref b_thing, .ref b_sign, .ref b_number, .int 0]))] t.heap ∧ va_K (dC, dI) vwCl [] t ∧ va_D (va_A [(h0, .inr (6, [.ref d_tape, .int 0, .int 0])), (d_tape, .inr (9, [.ref p_bytes, .ref p_ts, .ref p_tc, .int 0, .int 0, .int 0])), (b0, .inr (5, [.ref b_deed, .ref b_value, .ref b_tests, .ref b_thing, .ref b_sign, .ref b_number, .int 0])), (b_tests, .inl (k_tests, 16, .inl (fun _ => 0)))] sz) [(h0, .inr (6, [.ref d_tape, .int 0, .int 0])), (d_tape, .inr (9, [.ref p_bytes, .ref p_ts, .ref p_tc, .int 0, .int 0, .int 0])), (b0, .inr (5, [.ref b_deed, .ref b_value, .ref b_tests, .ref b_thing, .ref b_sign, .ref b_number, .int 0]))]) (va_A [(h0, .inr (6, [.ref d_tape, .int 0, .int 0])), (d_tape, .inr (9, [.ref p_bytes, .ref p_ts, .ref p_tc, .int 0, .int 0, .int 0])), (b0, .inr (5, [.ref b_deed, .ref b_value, .ref b_tests, .ref b_thing, .ref b_sign, .ref b_number, .int 0])), (b_tests, .inl (k_tests, 16, .inl (fun _ => 0)))] sz)) 0 0 (va_A [(h0, .inr (6, [.ref d_tape, .int 0, .int 0])), (d_tape, .inr (9, [.ref p_bytes, .ref p_ts, .ref p_tc, .int 0, .int 0, .int 0])), (b0, .inr (5, [.ref b_deed, .ref b_value, .ref b_tests, .ref b_thing, .ref b_sign, .ref b_number, .int 0])), (b_tests, .inl (k_tests, 16, .inl (fun _ => 0)))] sz) := by
  refine Met.ofW (cc := cX6_read) (maxL := 4) (ret := (some .boolean)) pnX6 rfl ?_
  intro p e s m args below meth c s₁ B hml hv
  obtain ⟨rfl, hsz, hP, hK, hD0, hN⟩ := hv
  have hx := B.exec
  have hb := B.bytes
  have hr := B.returns
  have htb : ∀ w ∈ bg, w.before [.ref h0, .int 0, .ref b0].toArray s = true := fun w h => atoms_spec (ws := Cond.code yX6_read cX6_read 4 (some .boolean) :: bg) B.pre w (List.mem_cons_of_mem _ h)
  have hown : s.vm.findClass RX6 = some m.cls := findClass_of_methodNamed B.named
  have hlocks := B.notSynchronized
  subst hsz
  have hD := hD0.self (sz := s.heap.size)
  generalize hAe : va_A [(h0, .inr (6, [.ref d_tape, .int 0, .int 0])), (d_tape, .inr (9, [.ref p_bytes, .ref p_ts, .ref p_tc, .int 0, .int 0, .int 0])), (b0, .inr (5, [.ref b_deed, .ref b_value, .ref b_tests, .ref b_thing, .ref b_sign, .ref b_number, .int 0])), (b_tests, .inl (k_tests, 16, .inl (fun _ => 0)))] s.heap.size = A at hD ⊢
  have hA : ∀ q : Nat, s.heap.size ≤ q → A q := fun q h => by rw [← hAe]; exact Or.inr h
  have hS : va_S A s.heap s.heap [] := va_S.rf
  have hl := lv_entry ([.ref h0, .int 0, .ref b0]) (n := 4) (Nat.le_of_ble_eq_true rfl)
  rw [lg_entry_eq]
  generalize (lg_sl ([.ref h0, .int 0, .ref b0]) ++ List.replicate (4 - (lg_sl ([.ref h0, .int 0, .ref b0])).length) Slot.unset).toArray = ls at hl ⊢
  change lv_has ls 4 [(0, .ref h0), (1, .int 0), (2, .ref b0)] at hl
  clear hD0 hAe
  refine go0 (wsP := fun H => va_P (dC, dI) vwCl [(h0, .inr (6, [.ref d_tape, .int 0, .int 0])), (d_tape, .inr (9, [.ref p_bytes, .ref p_ts, .ref p_tc, .int 0, .int 0, .int 0])), (b0, .inr (5, [.ref b_deed, .ref b_value, .ref b_tests, .ref b_thing, .ref b_sign, .ref b_number, .int 0])), (b_tests, .inl (k_tests, 16, .inl (fun _ => 0)))] H) hP hS ?_
  clear hP hS; intro H locs hP hS
  change va_P (dC, dI) vwCl [(h0, .inr (6, [.ref d_tape, .int 0, .int 0])), (d_tape, .inr (9, [.ref p_bytes, .ref p_ts, .ref p_tc, .int 0, .int 0, .int 0])), (b0, .inr (5, [.ref b_deed, .ref b_value, .ref b_tests, .ref b_thing, .ref b_sign, .ref b_number, .int 0])), (b_tests, .inl (k_tests, 16, .inl (fun _ => 0)))] H at hP
  refine lv_aload_n hx hb dX6_read_0 rfl (lv_at hl 0 rfl) ?_
  refine va_get (D := (dC, dI)) (ci := 6) (v := .ref d_tape) (C := RX6) (T := TX6) (N := 3) hx hb htb iX6 hown hK hP 0 rfl rfl 0 (Nat.le_of_ble_eq_true rfl) (htb _ m_263) (fun _ h9 => h9) rfl dX6_read_1 ?_
  refine lv_iload_n hx hb dX6_read_4 rfl (lv_at hl 1 rfl) ?_
  have hPc := hP.sub (ws' := [(d_tape, .inr (9, [.ref p_bytes, .ref p_ts, .ref p_tc, .int 0, .int 0, .int 0]))]) [1] rfl
  have hDc := hD.sub (ws' := [(d_tape, .inr (9, [.ref p_bytes, .ref p_ts, .ref p_tc, .int 0, .int 0, .int 0]))]) [1] (by decide) rfl
  have hKc := hK.sub (tys' := []) [] rfl
  have hFc := va_free (wc := [(d_tape, .inr (9, [.ref p_bytes, .ref p_ts, .ref p_tc, .int 0, .int 0, .int 0]))]) hD hS hA [1] rfl
  refine va_callv (va_runV (C := RX9) (As := [.int 0]) (rest := []) ⟨hx, hb, hml, hown, htb⟩ (kX9_splitFirst l dC dI H.size d_tape p_bytes p_ts p_tc ) ⟨callB_of 1 htb (gd_c m_811) rfl rfl rfl (htb _ m_10) (htb _ m_808) hdX9_splitFirst ⟨(Nat.le_of_ble_eq_true rfl), (Nat.le_of_ble_eq_true rfl)⟩, htb _ m_809, htb _ m_810⟩ ⟨pcW_blind, va_recv hKc hPc (ci := 9) (q0 := 0) rfl rfl, pcW_at hPc hKc hDc hN⟩ rfl rfl hl.1 rfl (lv_room (Nat.le_of_ble_eq_true rfl)) dX6_read_5 ⟨(Nat.le_of_ble_eq_true rfl), (Nat.le_of_ble_eq_true rfl)⟩) hS (fun q _ h => hFc q h) hFc (fun u t H1 locs1 ht hvm h_2 hB hz1 hk1 hS1 => ?_)
  obtain ⟨hP1, hK1, hD1⟩ := hB
  rw [ht] at hP1
  obtain ⟨hPn, hDn⟩ := va_join (wr := [(h0, .inr (6, [.ref d_tape, .int 0, .int 0])), (b0, .inr (5, [.ref b_deed, .ref b_value, .ref b_tests, .ref b_thing, .ref b_sign, .ref b_number, .int 0])), (b_tests, .inl (k_tests, 16, .inl (fun _ => 0)))]) (w1 := [(d_tape, .inr (9, [.ref p_bytes, .ref p_ts, .ref p_tc, .int 0, .int 0, .int 0]))]) hP hD [1] [0, 2, 3] rfl rfl (by decide) (by decide) hk1 hFc hP1 hD1
  clear hP1 hD1 hK1
  clear hP hD hS hPc hDc hKc hFc hk1 hz1 ht hvm
  clear t
  revert hS1 hPn hDn; generalize H1 = H; generalize locs1 = locs; intro hS hP hD
  change va_P (dC, dI) vwCl [(h0, .inr (6, [.ref d_tape, .int 0, .int 0])), (b0, .inr (5, [.ref b_deed, .ref b_value, .ref b_tests, .ref b_thing, .ref b_sign, .ref b_number, .int 0])), (b_tests, .inl (k_tests, 16, .inl (fun _ => 0))), (d_tape, .inr (9, [.ref p_bytes, .ref p_ts, .ref p_tc, .int 0, .int 0, .int 0]))] H at hP
  change va_D A [(h0, .inr (6, [.ref d_tape, .int 0, .int 0])), (b0, .inr (5, [.ref b_deed, .ref b_value, .ref b_tests, .ref b_thing, .ref b_sign, .ref b_number, .int 0])), (b_tests, .inl (k_tests, 16, .inl (fun _ => 0))), (d_tape, .inr (9, [.ref p_bytes, .ref p_ts, .ref p_tc, .int 0, .int 0, .int 0]))] at hD
  refine lv_aload_n hx hb dX6_read_8 rfl (lv_at hl 0 rfl) ?_
  refine lv_iconst (v := 0) hx hb dX6_read_9 (by decide) ?_
  refine va_put (D := (dC, dI)) (ci := 6) (v := .int 0) (C := RX6) (T := TX6) (N := 3) hx hb htb iX6 tyX6 tyX6_ok nmX6 hown hK hP hD hS 0 rfl rfl 1 (Nat.le_of_ble_eq_true rfl) (htb _ m_264) (fun _ h9 => h9) rfl (tyX6_ok 1 (Nat.le_of_ble_eq_true rfl)) rfl rfl (Nat.le_of_ble_eq_true rfl) dX6_read_10 ?_
  clear hP hD hS; intro H locs hP hD hS
  change va_P (dC, dI) vwCl [(h0, .inr (6, [.ref d_tape, .int 0, .int 0])), (b0, .inr (5, [.ref b_deed, .ref b_value, .ref b_tests, .ref b_thing, .ref b_sign, .ref b_number, .int 0])), (b_tests, .inl (k_tests, 16, .inl (fun _ => 0))), (d_tape, .inr (9, [.ref p_bytes, .ref p_ts, .ref p_tc, .int 0, .int 0, .int 0]))] H at hP
  change va_D A [(h0, .inr (6, [.ref d_tape, .int 0, .int 0])), (b0, .inr (5, [.ref b_deed, .ref b_value, .ref b_tests, .ref b_thing, .ref b_sign, .ref b_number, .int 0])), (b_tests, .inl (k_tests, 16, .inl (fun _ => 0))), (d_tape, .inr (9, [.ref p_bytes, .ref p_ts, .ref p_tc, .int 0, .int 0, .int 0]))] at hD
  refine lv_aload_n hx hb dX6_read_13 rfl (lv_at hl 2 rfl) ?_
  have hPc := hP.sub (ws' := [(b0, .inr (5, [.ref b_deed, .ref b_value, .ref b_tests, .ref b_thing, .ref b_sign, .ref b_number, .int 0])), (b_tests, .inl (k_tests, 16, .inl (fun _ => 0)))]) [1, 2] rfl
  have hDc := hD.sub (ws' := [(b0, .inr (5, [.ref b_deed, .ref b_value, .ref b_tests, .ref b_thing, .ref b_sign, .ref b_number, .int 0])), (b_tests, .inl (k_tests, 16, .inl (fun _ => 0)))]) [1, 2] (by decide) rfl
  have hKc := hK.sub (tys' := [(k_tests, .int)]) [0] rfl
  have hFc := va_free (wc := [(b0, .inr (5, [.ref b_deed, .ref b_value, .ref b_tests, .ref b_thing, .ref b_sign, .ref b_number, .int 0])), (b_tests, .inl (k_tests, 16, .inl (fun _ => 0)))]) hD hS hA [1, 2] rfl
  refine va_callv (va_runV (C := RX5) (As := []) (rest := []) ⟨hx, hb, hml, hown, htb⟩ (kX5_clear l dC dI H.size b0 b_deed b_value b_tests b_thing b_sign b_number k_tests ) ⟨callB_of 0 htb (gd_c m_909) rfl rfl rfl (htb _ m_12) (htb _ m_906) hdX5_clear ⟨(Nat.le_of_ble_eq_true rfl), (Nat.le_of_ble_eq_true rfl)⟩, htb _ m_907, htb _ m_908⟩ ⟨pcW_blind, va_recv hKc hPc (ci := 5) (q0 := 0) rfl rfl, pcW_at hPc hKc hDc hN⟩ rfl rfl hl.1 rfl (lv_room (Nat.le_of_ble_eq_true rfl)) dX6_read_14 ⟨(Nat.le_of_ble_eq_true rfl), (Nat.le_of_ble_eq_true rfl)⟩) hS (fun q _ h => hFc q h) hFc (fun u t H1 locs1 ht hvm h_4 hB hz1 hk1 hS1 => ?_)
  obtain ⟨hP1, hK1, hD1⟩ := hB
  rw [ht] at hP1
  obtain ⟨hPn, hDn⟩ := va_join (wr := [(h0, .inr (6, [.ref d_tape, .int 0, .int 0])), (d_tape, .inr (9, [.ref p_bytes, .ref p_ts, .ref p_tc, .int 0, .int 0, .int 0]))]) (w1 := [(b0, .inr (5, [.ref b_deed, .ref b_value, .ref b_tests, .ref b_thing, .ref b_sign, .ref b_number, .int 0]))]) hP hD [1, 2] [0, 3] rfl rfl (by decide) (by decide) hk1 hFc hP1 hD1
  clear hP1 hD1 hK1
  clear hP hD hS hPc hDc hKc hFc hk1 hz1 ht hvm
  clear t
  revert hS1 hPn hDn; generalize H1 = H; generalize locs1 = locs; intro hS hP hD
  change va_P (dC, dI) vwCl [(h0, .inr (6, [.ref d_tape, .int 0, .int 0])), (d_tape, .inr (9, [.ref p_bytes, .ref p_ts, .ref p_tc, .int 0, .int 0, .int 0])), (b0, .inr (5, [.ref b_deed, .ref b_value, .ref b_tests, .ref b_thing, .ref b_sign, .ref b_number, .int 0]))] H at hP
  change va_D A [(h0, .inr (6, [.ref d_tape, .int 0, .int 0])), (d_tape, .inr (9, [.ref p_bytes, .ref p_ts, .ref p_tc, .int 0, .int 0, .int 0])), (b0, .inr (5, [.ref b_deed, .ref b_value, .ref b_tests, .ref b_thing, .ref b_sign, .ref b_number, .int 0]))] at hD
  refine lv_iconst (v := 0) hx hb dX6_read_17 (by decide) ?_
  refine lv_istore_n (lv' := [(3, .int 0), (0, .ref h0), (1, .int 0), (2, .ref b0)]) hx hb dX6_read_18 rfl hl (by decide) rfl ?_
  clear hl; intro ls hl
  refine lv_iload_n hx hb dX6_read_19 rfl (lv_at hl 0 rfl) ?_
  refine lv_bipush (v := 16) hx hb dX6_read_20 (by decide) ?_
  refine lv_icmp_ge (tgt := 55) hx hb dX6_read_22 (by decide) (fun c_5 => absurd c_5 (by decide)) ?_
  intro _
  refine lv_aload_n hx hb dX6_read_25 rfl (lv_at hl 1 rfl) ?_
  refine va_get (D := (dC, dI)) (ci := 6) (v := .ref d_tape) (C := RX6) (T := TX6) (N := 3) hx hb htb iX6 hown hK hP 0 rfl rfl 0 (Nat.le_of_ble_eq_true rfl) (htb _ m_263) (fun _ h9 => h9) rfl dX6_read_26 ?_
  refine lv_aload_n hx hb dX6_read_29 rfl (lv_at hl 1 rfl) ?_
  refine va_get (D := (dC, dI)) (ci := 6) (v := .int 0) (C := RX6) (T := TX6) (N := 3) hx hb htb iX6 hown hK hP 0 rfl rfl 1 (Nat.le_of_ble_eq_true rfl) (htb _ m_264) (fun _ h9 => h9) rfl dX6_read_30 ?_
  have hPc := hP.sub (ws' := [(d_tape, .inr (9, [.ref p_bytes, .ref p_ts, .ref p_tc, .int 0, .int 0, .int 0]))]) [1] rfl
  have hDc := hD.sub (ws' := [(d_tape, .inr (9, [.ref p_bytes, .ref p_ts, .ref p_tc, .int 0, .int 0, .int 0]))]) [1] (by decide) rfl
  have hKc := hK.sub (tys' := []) [] rfl
  have hFc := va_free (wc := [(d_tape, .inr (9, [.ref p_bytes, .ref p_ts, .ref p_tc, .int 0, .int 0, .int 0]))]) hD hS hA [1] rfl
  refine va_calli (va_runV (C := RX9) (As := [.int 0]) (rest := []) ⟨hx, hb, hml, hown, htb⟩ (kX9_hasToken l dC dI H.size d_tape p_bytes p_ts p_tc ) ⟨callB_of 1 htb (gd_c m_914) rfl rfl rfl (htb _ m_10) (htb _ m_911) hdX9_hasToken ⟨(Nat.le_of_ble_eq_true rfl), (Nat.le_of_ble_eq_true rfl)⟩, htb _ m_912, htb _ m_913⟩ ⟨pcW_blind, va_recv hKc hPc (ci := 9) (q0 := 0) rfl rfl, pcW_at hPc hKc hDc hN⟩ rfl rfl hl.1 rfl (lv_room (Nat.le_of_ble_eq_true rfl)) dX6_read_33 ⟨(Nat.le_of_ble_eq_true rfl), (Nat.le_of_ble_eq_true rfl)⟩) hS (fun q _ h => hFc q h) hFc (fun r_6 u t H1 locs1 ht hvm h_7 hB hz1 hk1 hS1 => ?_)
  obtain ⟨hP1, hK1, hD1⟩ := hB
  rw [ht] at hP1
  obtain ⟨hPn, hDn⟩ := va_join (wr := [(h0, .inr (6, [.ref d_tape, .int 0, .int 0])), (b0, .inr (5, [.ref b_deed, .ref b_value, .ref b_tests, .ref b_thing, .ref b_sign, .ref b_number, .int 0]))]) (w1 := [(d_tape, .inr (9, [.ref p_bytes, .ref p_ts, .ref p_tc, .int 0, .int 0, .int 0]))]) hP hD [1] [0, 2] rfl rfl (by decide) (by decide) hk1 hFc hP1 hD1
  clear hP1 hD1 hK1
  clear hP hD hS hPc hDc hKc hFc hk1 hz1 ht hvm
  clear t
  revert hS1 hPn hDn; generalize H1 = H; generalize locs1 = locs; intro hS hP hD
  change va_P (dC, dI) vwCl [(h0, .inr (6, [.ref d_tape, .int 0, .int 0])), (b0, .inr (5, [.ref b_deed, .ref b_value, .ref b_tests, .ref b_thing, .ref b_sign, .ref b_number, .int 0])), (d_tape, .inr (9, [.ref p_bytes, .ref p_ts, .ref p_tc, .int 0, .int 0, .int 0]))] H at hP
  change va_D A [(h0, .inr (6, [.ref d_tape, .int 0, .int 0])), (b0, .inr (5, [.ref b_deed, .ref b_value, .ref b_tests, .ref b_thing, .ref b_sign, .ref b_number, .int 0])), (d_tape, .inr (9, [.ref p_bytes, .ref p_ts, .ref p_tc, .int 0, .int 0, .int 0]))] at hD
  subst h_7
  refine lv_if_eq (tgt := 55) hx hb dX6_read_36 (by decide) ?_ (fun c_8 => absurd (by decide) c_8)
  intro _
  refine lv_aload_n hx hb dX6_read_55 rfl (lv_at hl 1 rfl) ?_
  refine va_get (D := (dC, dI)) (ci := 6) (v := .ref d_tape) (C := RX6) (T := TX6) (N := 3) hx hb htb iX6 hown hK hP 0 rfl rfl 0 (Nat.le_of_ble_eq_true rfl) (htb _ m_263) (fun _ h9 => h9) rfl dX6_read_56 ?_
  refine lv_aload_n hx hb dX6_read_59 rfl (lv_at hl 1 rfl) ?_
  refine va_get (D := (dC, dI)) (ci := 6) (v := .int 0) (C := RX6) (T := TX6) (N := 3) hx hb htb iX6 hown hK hP 0 rfl rfl 1 (Nat.le_of_ble_eq_true rfl) (htb _ m_264) (fun _ h9 => h9) rfl dX6_read_60 ?_
  have hPc := hP.sub (ws' := [(d_tape, .inr (9, [.ref p_bytes, .ref p_ts, .ref p_tc, .int 0, .int 0, .int 0]))]) [2] rfl
  have hDc := hD.sub (ws' := [(d_tape, .inr (9, [.ref p_bytes, .ref p_ts, .ref p_tc, .int 0, .int 0, .int 0]))]) [2] (by decide) rfl
  have hKc := hK.sub (tys' := []) [] rfl
  have hFc := va_free (wc := [(d_tape, .inr (9, [.ref p_bytes, .ref p_ts, .ref p_tc, .int 0, .int 0, .int 0]))]) hD hS hA [2] rfl
  refine va_calli (va_runV (C := RX9) (As := [.int 0]) (rest := []) ⟨hx, hb, hml, hown, htb⟩ (kX9_hasToken l dC dI H.size d_tape p_bytes p_ts p_tc ) ⟨callB_of 1 htb (gd_c m_914) rfl rfl rfl (htb _ m_10) (htb _ m_911) hdX9_hasToken ⟨(Nat.le_of_ble_eq_true rfl), (Nat.le_of_ble_eq_true rfl)⟩, htb _ m_912, htb _ m_913⟩ ⟨pcW_blind, va_recv hKc hPc (ci := 9) (q0 := 0) rfl rfl, pcW_at hPc hKc hDc hN⟩ rfl rfl hl.1 rfl (lv_room (Nat.le_of_ble_eq_true rfl)) dX6_read_63 ⟨(Nat.le_of_ble_eq_true rfl), (Nat.le_of_ble_eq_true rfl)⟩) hS (fun q _ h => hFc q h) hFc (fun r_9 u t H1 locs1 ht hvm h_10 hB hz1 hk1 hS1 => ?_)
  obtain ⟨hP1, hK1, hD1⟩ := hB
  rw [ht] at hP1
  obtain ⟨hPn, hDn⟩ := va_join (wr := [(h0, .inr (6, [.ref d_tape, .int 0, .int 0])), (b0, .inr (5, [.ref b_deed, .ref b_value, .ref b_tests, .ref b_thing, .ref b_sign, .ref b_number, .int 0]))]) (w1 := [(d_tape, .inr (9, [.ref p_bytes, .ref p_ts, .ref p_tc, .int 0, .int 0, .int 0]))]) hP hD [2] [0, 1] rfl rfl (by decide) (by decide) hk1 hFc hP1 hD1
  clear hP1 hD1 hK1
  clear hP hD hS hPc hDc hKc hFc hk1 hz1 ht hvm
  clear t
  revert hS1 hPn hDn; generalize H1 = H; generalize locs1 = locs; intro hS hP hD
  change va_P (dC, dI) vwCl [(h0, .inr (6, [.ref d_tape, .int 0, .int 0])), (b0, .inr (5, [.ref b_deed, .ref b_value, .ref b_tests, .ref b_thing, .ref b_sign, .ref b_number, .int 0])), (d_tape, .inr (9, [.ref p_bytes, .ref p_ts, .ref p_tc, .int 0, .int 0, .int 0]))] H at hP
  change va_D A [(h0, .inr (6, [.ref d_tape, .int 0, .int 0])), (b0, .inr (5, [.ref b_deed, .ref b_value, .ref b_tests, .ref b_thing, .ref b_sign, .ref b_number, .int 0])), (d_tape, .inr (9, [.ref p_bytes, .ref p_ts, .ref p_tc, .int 0, .int 0, .int 0]))] at hD
  subst h_10
  refine lv_if_ne (tgt := 73) hx hb dX6_read_66 (by decide) (fun c_11 => absurd (by decide) c_11) ?_
  intro _
  refine lv_iconst (v := 1) hx hb dX6_read_69 (by decide) ?_
  refine lv_goto (tgt := 74) hx hb dX6_read_70 (by decide) ?_
  refine W.widen (k := 0) (n := 0) (Nat.le_of_ble_eq_true rfl) (Nat.le_of_ble_eq_true rfl) ?_
  have hP9 := hP.sub (ws' := [(h0, .inr (6, [.ref d_tape, .int 0, .int 0])), (d_tape, .inr (9, [.ref p_bytes, .ref p_ts, .ref p_tc, .int 0, .int 0, .int 0])), (b0, .inr (5, [.ref b_deed, .ref b_value, .ref b_tests, .ref b_thing, .ref b_sign, .ref b_number, .int 0]))]) [0, 2, 1] rfl
  have hD9 := hD.sub (ws' := [(h0, .inr (6, [.ref d_tape, .int 0, .int 0])), (d_tape, .inr (9, [.ref p_bytes, .ref p_ts, .ref p_tc, .int 0, .int 0, .int 0])), (b0, .inr (5, [.ref b_deed, .ref b_value, .ref b_tests, .ref b_thing, .ref b_sign, .ref b_number, .int 0]))]) [0, 2, 1] (by decide) rfl
  have hK9 := hK.sub (tys' := []) [] rfl
  exact W.zret (ty := .boolean) (v := 1) hx hb hr rfl (fun t ht hW => ⟨⟨1, (), rfl, (rfl), ⟨by rw [ht]; exact hP9, va_K.moved hW.alike hK9, hD9⟩⟩, hS.F ht⟩) hS.2.2 dX6_read_74
