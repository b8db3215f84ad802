theorem lg_X11_fault_0  : True := by
  trivial
set_option maxHeartbeats 4000000 in
set_option maxRecDepth 100000 in
theorem kX11_fault (l : Launch) (dC : Nat → ClassId) (dI : Nat → Nat → Nat) (sz : Nat) (h0 : Nat) (z_tubes : Nat) (z_grove : Nat) (z_season : Nat) (z_past : Nat) (z_tank : Nat) (z_pan : Nat) (z_cellar : Nat) (z_coop : Nat) (z_tape : Nat) (z_reader : Nat) (z_facts : Nat) (z_book : Nat) (z_spare : Nat) (n_fp : Int32) : Met l yX11_fault (Cond.code yX11_fault cX11_fault 1 (some .int) :: bg) ({ frames := 0, cells := 0, slots := 0, locals := 0 }) (pcW dC dI [.ref h0] sz [(h0, .inr (11, [.ref z_tubes, .ref z_grove, .ref z_season, .ref z_past, .ref z_tank, .ref z_pan, .ref z_cellar, .ref z_coop, .ref z_tape, .ref z_reader, .ref z_facts, .ref z_book, .ref z_spare, .int n_fp]))] []) (va_Qi (fun (r : Int32) (u : Unit) => True) (fun (u : Unit) (t : State) => va_P (dC, dI) vwCl [(h0, .inr (11, [.ref z_tubes, .ref z_grove, .ref z_season, .ref z_past, .ref z_tank, .ref z_pan, .ref z_cellar, .ref z_coop, .ref z_tape, .ref z_reader, .ref z_facts, .ref z_book, .ref z_spare, .int n_fp]))] t.heap ∧ va_K (dC, dI) vwCl [] t ∧ va_D (va_A [(h0, .inr (11, [.ref z_tubes, .ref z_grove, .ref z_season, .ref z_past, .ref z_tank, .ref z_pan, .ref z_cellar, .ref z_coop, .ref z_tape, .ref z_reader, .ref z_facts, .ref z_book, .ref z_spare, .int n_fp]))] sz) [(h0, .inr (11, [.ref z_tubes, .ref z_grove, .ref z_season, .ref z_past, .ref z_tank, .ref z_pan, .ref z_cellar, .ref z_coop, .ref z_tape, .ref z_reader, .ref z_facts, .ref z_book, .ref z_spare, .int n_fp]))]) (va_A [(h0, .inr (11, [.ref z_tubes, .ref z_grove, .ref z_season, .ref z_past, .ref z_tank, .ref z_pan, .ref z_cellar, .ref z_coop, .ref z_tape, .ref z_reader, .ref z_facts, .ref z_book, .ref z_spare, .int n_fp]))] sz)) 0 0 (va_A [(h0, .inr (11, [.ref z_tubes, .ref z_grove, .ref z_season, .ref z_past, .ref z_tank, .ref z_pan, .ref z_cellar, .ref z_coop, .ref z_tape, .ref z_reader, .ref z_facts, .ref z_book, .ref z_spare, .int n_fp]))] sz) := by
  refine Met.ofW (cc := cX11_fault) (maxL := 1) (ret := (some .int)) pnX11 rfl ?_
  intro p e s m args below meth c s₁ B hml hv
  obtain ⟨rfl, hsz, hP, hK, hD0, hN⟩ := hv
  have hx := B.exec
  have hb := B.bytes
  have hr := B.returns
  have htb : ∀ w ∈ bg, w.before [.ref h0].toArray s = true := fun w h => atoms_spec (ws := Cond.code yX11_fault cX11_fault 1 (some .int) :: bg) B.pre w (List.mem_cons_of_mem _ h)
  have hown : s.vm.findClass RX11 = some m.cls := findClass_of_methodNamed B.named
  have hlocks := B.notSynchronized
  subst hsz
  have hD := hD0.self (sz := s.heap.size)
  generalize hAe : va_A [(h0, .inr (11, [.ref z_tubes, .ref z_grove, .ref z_season, .ref z_past, .ref z_tank, .ref z_pan, .ref z_cellar, .ref z_coop, .ref z_tape, .ref z_reader, .ref z_facts, .ref z_book, .ref z_spare, .int n_fp]))] s.heap.size = A at hD ⊢
  have hA : ∀ q : Nat, s.heap.size ≤ q → A q := fun q h => by rw [← hAe]; exact Or.inr h
  have hS : va_S A s.heap s.heap [] := va_S.rf
  have hl := lv_entry ([.ref h0]) (n := 1) (Nat.le_of_ble_eq_true rfl)
  rw [lg_entry_eq]
  generalize (lg_sl ([.ref h0]) ++ List.replicate (1 - (lg_sl ([.ref h0])).length) Slot.unset).toArray = ls at hl ⊢
  change lv_has ls 1 [(0, .ref h0)] at hl
  clear hD0 hAe
  refine go0 (wsP := fun H => va_P (dC, dI) vwCl [(h0, .inr (11, [.ref z_tubes, .ref z_grove, .ref z_season, .ref z_past, .ref z_tank, .ref z_pan, .ref z_cellar, .ref z_coop, .ref z_tape, .ref z_reader, .ref z_facts, .ref z_book, .ref z_spare, .int n_fp]))] H) hP hS ?_
  clear hP hS; intro H locs hP hS
  change va_P (dC, dI) vwCl [(h0, .inr (11, [.ref z_tubes, .ref z_grove, .ref z_season, .ref z_past, .ref z_tank, .ref z_pan, .ref z_cellar, .ref z_coop, .ref z_tape, .ref z_reader, .ref z_facts, .ref z_book, .ref z_spare, .int n_fp]))] H at hP
  refine lv_aload_n hx hb dX11_fault_0 rfl (lv_at hl 0 rfl) ?_
  refine va_get (D := (dC, dI)) (ci := 11) (v := .int n_fp) (C := RX11) (T := TX11) (N := 14) hx hb htb iX11 hown hK hP 0 rfl rfl 13 (Nat.le_of_ble_eq_true rfl) (htb _ m_315) (fun _ h9 => h9) rfl dX11_fault_1 ?_
  refine W.widen (k := 0) (n := 0) (Nat.le_of_ble_eq_true rfl) (Nat.le_of_ble_eq_true rfl) ?_
  have hP9 := hP.sub (ws' := [(h0, .inr (11, [.ref z_tubes, .ref z_grove, .ref z_season, .ref z_past, .ref z_tank, .ref z_pan, .ref z_cellar, .ref z_coop, .ref z_tape, .ref z_reader, .ref z_facts, .ref z_book, .ref z_spare, .int n_fp]))]) [0] rfl
  have hD9 := hD.sub (ws' := [(h0, .inr (11, [.ref z_tubes, .ref z_grove, .ref z_season, .ref z_past, .ref z_tank, .ref z_pan, .ref z_cellar, .ref z_coop, .ref z_tape, .ref z_reader, .ref z_facts, .ref z_book, .ref z_spare, .int n_fp]))]) [0] (by decide) rfl
  have hK9 := hK.sub (tys' := []) [] rfl
  exact W.iret (v := n_fp) hx hb hr (fun t ht hW => ⟨⟨n_fp, (), rfl, (lg_X11_fault_0 ), ⟨by rw [ht]; exact hP9, va_K.moved hW.alike hK9, hD9⟩⟩, hS.F ht⟩) hS.2.2 dX11_fault_4
