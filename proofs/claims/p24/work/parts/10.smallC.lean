theorem lg_X10_setLeak_0 (n_tb : Int32) (v1 : Int32) (v2 : Int32) (yb : 1 ≤ n_tb.toInt ∧ n_tb.toInt ≤ 40) (yv : 0 ≤ v2.toInt ∧ v2.toInt ≤ 20) (h_2 : 1 ≤ v1.toInt ∧ v1.toInt < n_tb.toInt) : 0 ≤ v1.toInt ∧ v1.toInt < ((40 : Nat) : Int) := by
  have := rg_rng n_tb; have := rg_rng v1; have := rg_rng v2; omega
theorem lg_X10_setLeak_1 (n_tb : Int32) (v1 : Int32) (v2 : Int32) (yb : 1 ≤ n_tb.toInt ∧ n_tb.toInt ≤ 40) (yv : 0 ≤ v2.toInt ∧ v2.toInt ≤ 20) (h_2 : 1 ≤ v1.toInt ∧ v1.toInt < n_tb.toInt) : 0 ≤ v2.toInt ∧ v2.toInt ≤ 20 := by
  have := rg_rng n_tb; have := rg_rng v1; have := rg_rng v2; omega
theorem lg_X10_setLeak_2 (n_tb : Int32) (v1 : Int32) (v2 : Int32) (yb : 1 ≤ n_tb.toInt ∧ n_tb.toInt ≤ 40) (yv : 0 ≤ v2.toInt ∧ v2.toInt ≤ 20) (h_2 : 1 ≤ v1.toInt ∧ v1.toInt < n_tb.toInt) : 1 ≤ v1.toInt ∧ v1.toInt < n_tb.toInt := by
  have := rg_rng n_tb; have := rg_rng v1; have := rg_rng v2; omega
theorem lg_X10_setLeak_3 (n_tb : Int32) (v1 : Int32) (v2 : Int32) (yb : 1 ≤ n_tb.toInt ∧ n_tb.toInt ≤ 40) (yv : 0 ≤ v2.toInt ∧ v2.toInt ≤ 20) (h_2 : ¬ (1 ≤ v1.toInt ∧ v1.toInt < n_tb.toInt)) : ¬ (1 ≤ v1.toInt ∧ v1.toInt < n_tb.toInt) := by
  have := rg_rng n_tb; have := rg_rng v1; have := rg_rng v2; omega
set_option maxHeartbeats 4000000 in
set_option maxRecDepth 100000 in
theorem kX10_setLeak (l : Launch) (dC : Nat → ClassId) (dI : Nat → Nat → Nat) (sz : Nat) (h0 : Nat) (t_to : Nat) (t_height : Nat) (t_member : Nat) (t_lengthHome : Nat) (t_runs : Nat) (t_leak : Nat) (t_vacuum : Nat) (t_reading : Nat) (n_tb : Int32) (k_to : ClassId) (k_leak : ClassId) (k_vacuum : ClassId) (f_to : Nat → Int32) (f_leak : Nat → Int32) (f_vacuum : Nat → Int32) (v1 : Int32) (v2 : Int32) (e_to : Nat → Int32) (nv : Int32) (yb : 1 ≤ n_tb.toInt ∧ n_tb.toInt ≤ 40) (yvac : Rg f_vacuum 40 0 100) (ylk : Rg f_leak 40 0 20) (yv : 0 ≤ v2.toInt ∧ v2.toInt ≤ 20) (yTT : TbT f_to e_to n_tb.toInt) (yDn : Dn e_to) (yTV : TbV f_vacuum e_to f_leak nv n_tb.toInt) (yV0 : V0 f_vacuum nv) : Met l yX10_setLeak (Cond.code yX10_setLeak cX10_setLeak 3 none :: bg) ({ frames := 3, cells := 0, slots := 0, locals := 63 }) (pcW dC dI [.ref h0, .int v1, .int v2] sz [(h0, .inr (10, [.ref t_to, .ref t_height, .ref t_member, .ref t_lengthHome, .ref t_runs, .ref t_leak, .ref t_vacuum, .ref t_reading, .int n_tb])), (t_to, .inl (k_to, 40, .inl f_to)), (t_leak, .inl (k_leak, 40, .inl f_leak)), (t_vacuum, .inl (k_vacuum, 40, .inl f_vacuum))] [(k_to, .int), (k_leak, .int), (k_vacuum, .int)]) (va_Qv (fun (u : Unit) => True) (fun (u : Unit) (t : State) => ∃ (w_leak : Nat → Int32) (w_vacuum : Nat → Int32), Rg w_leak 40 0 20 ∧ Rg w_vacuum 40 0 100 ∧ (Uc w_leak f_leak v1 v2 (1 ≤ v1.toInt ∧ v1.toInt < n_tb.toInt)) ∧ TbV w_vacuum e_to w_leak nv n_tb.toInt ∧ V0 w_vacuum nv ∧ va_P (dC, dI) vwCl [(h0, .inr (10, [.ref t_to, .ref t_height, .ref t_member, .ref t_lengthHome, .ref t_runs, .ref t_leak, .ref t_vacuum, .ref t_reading, .int n_tb])), (t_to, .inl (k_to, 40, .inl f_to)), (t_leak, .inl (k_leak, 40, .inl w_leak)), (t_vacuum, .inl (k_vacuum, 40, .inl w_vacuum))] t.heap ∧ va_K (dC, dI) vwCl [] t ∧ va_D (va_A [(h0, .inr (10, [.ref t_to, .ref t_height, .ref t_member, .ref t_lengthHome, .ref t_runs, .ref t_leak, .ref t_vacuum, .ref t_reading, .int n_tb])), (t_to, .inl (k_to, 40, .inl f_to)), (t_leak, .inl (k_leak, 40, .inl f_leak)), (t_vacuum, .inl (k_vacuum, 40, .inl f_vacuum))] sz) [(h0, .inr (10, [.ref t_to, .ref t_height, .ref t_member, .ref t_lengthHome, .ref t_runs, .ref t_leak, .ref t_vacuum, .ref t_reading, .int n_tb])), (t_to, .inl (k_to, 40, .inl f_to)), (t_leak, .inl (k_leak, 40, .inl w_leak)), (t_vacuum, .inl (k_vacuum, 40, .inl w_vacuum))]) (va_A [(h0, .inr (10, [.ref t_to, .ref t_height, .ref t_member, .ref t_lengthHome, .ref t_runs, .ref t_leak, .ref t_vacuum, .ref t_reading, .int n_tb])), (t_to, .inl (k_to, 40, .inl f_to)), (t_leak, .inl (k_leak, 40, .inl f_leak)), (t_vacuum, .inl (k_vacuum, 40, .inl f_vacuum))] sz)) 0 0 (va_A [(h0, .inr (10, [.ref t_to, .ref t_height, .ref t_member, .ref t_lengthHome, .ref t_runs, .ref t_leak, .ref t_vacuum, .ref t_reading, .int n_tb])), (t_to, .inl (k_to, 40, .inl f_to)), (t_leak, .inl (k_leak, 40, .inl f_leak)), (t_vacuum, .inl (k_vacuum, 40, .inl f_vacuum))] sz) := by
  refine Met.ofW (cc := cX10_setLeak) (maxL := 3) (ret := none) pnX10 rfl ?_
  intro p e s m args below meth c s₁ B hml hv
  obtain ⟨rfl, hsz, hP, hK, hD0, hN⟩ := hv
  have hx := B.exec
  have hb := B.bytes
  have hr := B.returns
  have htb : ∀ w ∈ bg, w.before [.ref h0, .int v1, .int v2].toArray s = true := fun w h => atoms_spec (ws := Cond.code yX10_setLeak cX10_setLeak 3 none :: bg) B.pre w (List.mem_cons_of_mem _ h)
  have hown : s.vm.findClass RX10 = some m.cls := findClass_of_methodNamed B.named
  have hlocks := B.notSynchronized
  subst hsz
  have hD := hD0.self (sz := s.heap.size)
  generalize hAe : va_A [(h0, .inr (10, [.ref t_to, .ref t_height, .ref t_member, .ref t_lengthHome, .ref t_runs, .ref t_leak, .ref t_vacuum, .ref t_reading, .int n_tb])), (t_to, .inl (k_to, 40, .inl f_to)), (t_leak, .inl (k_leak, 40, .inl f_leak)), (t_vacuum, .inl (k_vacuum, 40, .inl f_vacuum))] s.heap.size = A at hD ⊢
  have hA : ∀ q : Nat, s.heap.size ≤ q → A q := fun q h => by rw [← hAe]; exact Or.inr h
  have hS : va_S A s.heap s.heap [] := va_S.rf
  have hl := lv_entry ([.ref h0, .int v1, .int v2]) (n := 3) (Nat.le_of_ble_eq_true rfl)
  rw [lg_entry_eq]
  generalize (lg_sl ([.ref h0, .int v1, .int v2]) ++ List.replicate (3 - (lg_sl ([.ref h0, .int v1, .int v2])).length) Slot.unset).toArray = ls at hl ⊢
  change lv_has ls 3 [(0, .ref h0), (1, .int v1), (2, .int v2)] at hl
  clear hD0 hAe
  refine go0 (wsP := fun H => va_P (dC, dI) vwCl [(h0, .inr (10, [.ref t_to, .ref t_height, .ref t_member, .ref t_lengthHome, .ref t_runs, .ref t_leak, .ref t_vacuum, .ref t_reading, .int n_tb])), (t_to, .inl (k_to, 40, .inl f_to)), (t_leak, .inl (k_leak, 40, .inl f_leak)), (t_vacuum, .inl (k_vacuum, 40, .inl f_vacuum))] H) hP hS ?_
  clear hP hS; intro H locs hP hS
  change va_P (dC, dI) vwCl [(h0, .inr (10, [.ref t_to, .ref t_height, .ref t_member, .ref t_lengthHome, .ref t_runs, .ref t_leak, .ref t_vacuum, .ref t_reading, .int n_tb])), (t_to, .inl (k_to, 40, .inl f_to)), (t_leak, .inl (k_leak, 40, .inl f_leak)), (t_vacuum, .inl (k_vacuum, 40, .inl f_vacuum))] H at hP
  refine lv_aload_n hx hb dX10_setLeak_0 rfl (lv_at hl 0 rfl) ?_
  refine lv_iload_n hx hb dX10_setLeak_1 rfl (lv_at hl 1 rfl) ?_
  have hPc := hP.sub (ws' := [(h0, .inr (10, [.ref t_to, .ref t_height, .ref t_member, .ref t_lengthHome, .ref t_runs, .ref t_leak, .ref t_vacuum, .ref t_reading, .int n_tb]))]) [0] rfl
  have hDc := hD.sub (ws' := [(h0, .inr (10, [.ref t_to, .ref t_height, .ref t_member, .ref t_lengthHome, .ref t_runs, .ref t_leak, .ref t_vacuum, .ref t_reading, .int n_tb]))]) [0] (by decide) rfl
  have hKc := hK.sub (tys' := []) [] rfl
  have hFc := va_free (wc := [(h0, .inr (10, [.ref t_to, .ref t_height, .ref t_member, .ref t_lengthHome, .ref t_runs, .ref t_leak, .ref t_vacuum, .ref t_reading, .int n_tb]))]) hD hS hA [0] rfl
  refine va_calli (va_runV (C := RX10) (As := [.int v1]) (rest := []) ⟨hx, hb, hml, hown, htb⟩ (kX10_hasTube l dC dI H.size h0 t_to t_height t_member t_lengthHome t_runs t_leak t_vacuum t_reading n_tb v1 ) ⟨callB_of 1 htb (gd_c m_371) rfl rfl rfl (htb _ m_2) (htb _ m_426) hdX10_hasTube ⟨(Nat.le_of_ble_eq_true rfl), (Nat.le_of_ble_eq_true rfl)⟩, htb _ m_369, htb _ m_370⟩ ⟨pcW_blind, va_recv hKc hPc (ci := 10) (q0 := 0) rfl rfl, pcW_at hPc hKc hDc hN⟩ rfl rfl hl.1 rfl (lv_room (Nat.le_of_ble_eq_true rfl)) dX10_setLeak_2 ⟨(Nat.le_of_ble_eq_true rfl), (Nat.le_of_ble_eq_true rfl)⟩) hS (fun q _ h => hFc q h) hFc (fun r_1 u t H1 locs1 ht hvm h_2 hB hz1 hk1 hS1 => ?_)
  obtain ⟨hP1, hK1, hD1⟩ := hB
  rw [ht] at hP1
  obtain ⟨hPn, hDn⟩ := va_join (wr := [(t_to, .inl (k_to, 40, .inl f_to)), (t_leak, .inl (k_leak, 40, .inl f_leak)), (t_vacuum, .inl (k_vacuum, 40, .inl f_vacuum))]) (w1 := [(h0, .inr (10, [.ref t_to, .ref t_height, .ref t_member, .ref t_lengthHome, .ref t_runs, .ref t_leak, .ref t_vacuum, .ref t_reading, .int n_tb]))]) hP hD [0] [1, 2, 3] rfl rfl (by decide) (by decide) hk1 hFc hP1 hD1
  clear hP1 hD1 hK1
  clear hP hD hS hPc hDc hKc hFc hk1 hz1 ht hvm
  clear t
  revert hS1 hPn hDn; generalize H1 = H; generalize locs1 = locs; intro hS hP hD
  change va_P (dC, dI) vwCl [(t_to, .inl (k_to, 40, .inl f_to)), (t_leak, .inl (k_leak, 40, .inl f_leak)), (t_vacuum, .inl (k_vacuum, 40, .inl f_vacuum)), (h0, .inr (10, [.ref t_to, .ref t_height, .ref t_member, .ref t_lengthHome, .ref t_runs, .ref t_leak, .ref t_vacuum, .ref t_reading, .int n_tb]))] H at hP
  change va_D A [(t_to, .inl (k_to, 40, .inl f_to)), (t_leak, .inl (k_leak, 40, .inl f_leak)), (t_vacuum, .inl (k_vacuum, 40, .inl f_vacuum)), (h0, .inr (10, [.ref t_to, .ref t_height, .ref t_member, .ref t_lengthHome, .ref t_runs, .ref t_leak, .ref t_vacuum, .ref t_reading, .int n_tb]))] at hD
  rcases h_2 with ⟨rfl, h_2⟩ | ⟨rfl, h_2⟩
  · refine lv_if_eq (tgt := 19) hx hb dX10_setLeak_5 (by decide) (fun c_3 => absurd c_3 (by decide)) ?_
    intro _
    refine lv_aload_n hx hb dX10_setLeak_8 rfl (lv_at hl 0 rfl) ?_
    refine va_get (D := (dC, dI)) (ci := 10) (v := .ref t_leak) (C := RX10) (T := TX10) (N := 9) hx hb htb iX10 hown hK hP 3 rfl rfl 5 (Nat.le_of_ble_eq_true rfl) (htb _ m_39) (fun _ h9 => h9) rfl dX10_setLeak_9 ?_
    refine lv_iload_n hx hb dX10_setLeak_12 rfl (lv_at hl 1 rfl) ?_
    refine lv_iload_n hx hb dX10_setLeak_13 rfl (lv_at hl 2 rfl) ?_
    refine va_iast hx hb hK hP hD hS 1 1 rfl rfl (i_in rfl (lg_X10_setLeak_0 n_tb v1 v2 yb yv h_2)) dX10_setLeak_14 ?_
    clear hP hD hS; intro H locs hP hD hS
    change va_P (dC, dI) vwCl [(t_to, .inl (k_to, 40, .inl f_to)), (t_leak, .inl (k_leak, 40, .inl (upd f_leak (Int32.toNatClampNeg v1) v2))), (t_vacuum, .inl (k_vacuum, 40, .inl f_vacuum)), (h0, .inr (10, [.ref t_to, .ref t_height, .ref t_member, .ref t_lengthHome, .ref t_runs, .ref t_leak, .ref t_vacuum, .ref t_reading, .int n_tb]))] H at hP
    change va_D A [(t_to, .inl (k_to, 40, .inl f_to)), (t_leak, .inl (k_leak, 40, .inl (upd f_leak (Int32.toNatClampNeg v1) v2))), (t_vacuum, .inl (k_vacuum, 40, .inl f_vacuum)), (h0, .inr (10, [.ref t_to, .ref t_height, .ref t_member, .ref t_lengthHome, .ref t_runs, .ref t_leak, .ref t_vacuum, .ref t_reading, .int n_tb]))] at hD
    have hR_5 : Rg (upd f_leak (Int32.toNatClampNeg v1) v2) 40 0 20 := Rg_st ylk rfl (lg_X10_setLeak_1 n_tb v1 v2 yb yv h_2)
    generalize hG_6 : upd f_leak (Int32.toNatClampNeg v1) v2 = g_4 at hP hD hR_5
    refine lv_aload_n hx hb dX10_setLeak_15 rfl (lv_at hl 0 rfl) ?_
    have hPc := hP.sub (ws' := [(h0, .inr (10, [.ref t_to, .ref t_height, .ref t_member, .ref t_lengthHome, .ref t_runs, .ref t_leak, .ref t_vacuum, .ref t_reading, .int n_tb])), (t_to, .inl (k_to, 40, .inl f_to)), (t_leak, .inl (k_leak, 40, .inl g_4)), (t_vacuum, .inl (k_vacuum, 40, .inl f_vacuum))]) [3, 0, 1, 2] rfl
    have hDc := hD.sub (ws' := [(h0, .inr (10, [.ref t_to, .ref t_height, .ref t_member, .ref t_lengthHome, .ref t_runs, .ref t_leak, .ref t_vacuum, .ref t_reading, .int n_tb])), (t_to, .inl (k_to, 40, .inl f_to)), (t_leak, .inl (k_leak, 40, .inl g_4)), (t_vacuum, .inl (k_vacuum, 40, .inl f_vacuum))]) [3, 0, 1, 2] (by decide) rfl
    have hKc := hK.sub (tys' := [(k_to, .int), (k_leak, .int), (k_vacuum, .int)]) [0, 1, 2] rfl
    have hFc := va_free (wc := [(h0, .inr (10, [.ref t_to, .ref t_height, .ref t_member, .ref t_lengthHome, .ref t_runs, .ref t_leak, .ref t_vacuum, .ref t_reading, .int n_tb])), (t_to, .inl (k_to, 40, .inl f_to)), (t_leak, .inl (k_leak, 40, .inl g_4)), (t_vacuum, .inl (k_vacuum, 40, .inl f_vacuum))]) hD hS hA [3, 0, 1, 2] rfl
    refine va_callv (va_runV (C := RX10) (As := []) (rest := []) ⟨hx, hb, hml, hown, htb⟩ (kX10_settleVacuum l dC dI H.size h0 t_to t_height t_member t_lengthHome t_runs t_leak t_vacuum t_reading n_tb k_to k_leak k_vacuum f_to g_4 f_vacuum e_to nv yb yvac hR_5 yTT yDn yV0) ⟨callB_of 0 htb (gd_c m_430) rfl rfl rfl (htb _ m_2) (htb _ m_427) hdX10_settleVacuum ⟨(Nat.le_of_ble_eq_true rfl), (Nat.le_of_ble_eq_true rfl)⟩, htb _ m_429, htb _ ms_0⟩ ⟨pcW_blind, va_recv hKc hPc (ci := 10) (q0 := 0) rfl rfl, pcW_at hPc hKc hDc hN⟩ rfl rfl hl.1 rfl (lv_room (Nat.le_of_ble_eq_true rfl)) dX10_setLeak_16 ⟨(Nat.le_of_ble_eq_true rfl), (Nat.le_of_ble_eq_true rfl)⟩) hS (fun q _ h => hFc q h) hFc (fun u t H1 locs1 ht hvm h_8 hB hz1 hk1 hS1 => ?_)
    obtain ⟨w_vacuum_9, e_10, e_11, e_12, hP1, hK1, hD1⟩ := hB
    rw [ht] at hP1
    obtain ⟨hPn, hDn⟩ := va_join (wr := []) (w1 := [(h0, .inr (10, [.ref t_to, .ref t_height, .ref t_member, .ref t_lengthHome, .ref t_runs, .ref t_leak, .ref t_vacuum, .ref t_reading, .int n_tb])), (t_to, .inl (k_to, 40, .inl f_to)), (t_leak, .inl (k_leak, 40, .inl g_4)), (t_vacuum, .inl (k_vacuum, 40, .inl w_vacuum_9))]) hP hD [3, 0, 1, 2] [] rfl rfl (by decide) (by decide) hk1 hFc hP1 hD1
    clear hP1 hD1 hK1
    clear hP hD hS hPc hDc hKc hFc hk1 hz1 ht hvm
    clear t
    revert hS1 hPn hDn; generalize H1 = H; generalize locs1 = locs; intro hS hP hD
    change va_P (dC, dI) vwCl [(h0, .inr (10, [.ref t_to, .ref t_height, .ref t_member, .ref t_lengthHome, .ref t_runs, .ref t_leak, .ref t_vacuum, .ref t_reading, .int n_tb])), (t_to, .inl (k_to, 40, .inl f_to)), (t_leak, .inl (k_leak, 40, .inl g_4)), (t_vacuum, .inl (k_vacuum, 40, .inl w_vacuum_9))] H at hP
    change va_D A [(h0, .inr (10, [.ref t_to, .ref t_height, .ref t_member, .ref t_lengthHome, .ref t_runs, .ref t_leak, .ref t_vacuum, .ref t_reading, .int n_tb])), (t_to, .inl (k_to, 40, .inl f_to)), (t_leak, .inl (k_leak, 40, .inl g_4)), (t_vacuum, .inl (k_vacuum, 40, .inl w_vacuum_9))] at hD
    refine W.widen (k := 0) (n := 0) (Nat.le_of_ble_eq_true rfl) (Nat.le_of_ble_eq_true rfl) ?_
    have hP9 := hP.sub (ws' := [(h0, .inr (10, [.ref t_to, .ref t_height, .ref t_member, .ref t_lengthHome, .ref t_runs, .ref t_leak, .ref t_vacuum, .ref t_reading, .int n_tb])), (t_to, .inl (k_to, 40, .inl f_to)), (t_leak, .inl (k_leak, 40, .inl g_4)), (t_vacuum, .inl (k_vacuum, 40, .inl w_vacuum_9))]) [0, 1, 2, 3] rfl
    have hD9 := hD.sub (ws' := [(h0, .inr (10, [.ref t_to, .ref t_height, .ref t_member, .ref t_lengthHome, .ref t_runs, .ref t_leak, .ref t_vacuum, .ref t_reading, .int n_tb])), (t_to, .inl (k_to, 40, .inl f_to)), (t_leak, .inl (k_leak, 40, .inl g_4)), (t_vacuum, .inl (k_vacuum, 40, .inl w_vacuum_9))]) [0, 1, 2, 3] (by decide) rfl
    have hK9 := hK.sub (tys' := []) [] rfl
    exact W.vret hx hb hr (fun t ht hW => ⟨⟨(), rfl, trivial, ⟨g_4, w_vacuum_9, hR_5, e_10, (Uc_t (lg_X10_setLeak_2 n_tb v1 v2 yb yv h_2) hG_6), e_11, e_12, by rw [ht]; exact hP9, va_K.moved hW.alike hK9, hD9⟩⟩, hS.F ht⟩) hS.2.2 dX10_setLeak_19
  · refine lv_if_eq (tgt := 19) hx hb dX10_setLeak_5 (by decide) ?_ (fun c_13 => absurd (by decide) c_13)
    intro _
    refine W.widen (k := 0) (n := 0) (Nat.le_of_ble_eq_true rfl) (Nat.le_of_ble_eq_true rfl) ?_
    have hP9 := hP.sub (ws' := [(h0, .inr (10, [.ref t_to, .ref t_height, .ref t_member, .ref t_lengthHome, .ref t_runs, .ref t_leak, .ref t_vacuum, .ref t_reading, .int n_tb])), (t_to, .inl (k_to, 40, .inl f_to)), (t_leak, .inl (k_leak, 40, .inl f_leak)), (t_vacuum, .inl (k_vacuum, 40, .inl f_vacuum))]) [3, 0, 1, 2] rfl
    have hD9 := hD.sub (ws' := [(h0, .inr (10, [.ref t_to, .ref t_height, .ref t_member, .ref t_lengthHome, .ref t_runs, .ref t_leak, .ref t_vacuum, .ref t_reading, .int n_tb])), (t_to, .inl (k_to, 40, .inl f_to)), (t_leak, .inl (k_leak, 40, .inl f_leak)), (t_vacuum, .inl (k_vacuum, 40, .inl f_vacuum))]) [3, 0, 1, 2] (by decide) rfl
    have hK9 := hK.sub (tys' := []) [] rfl
    exact W.vret hx hb hr (fun t ht hW => ⟨⟨(), rfl, trivial, ⟨f_leak, f_vacuum, ylk, yvac, (Uc_f (lg_X10_setLeak_3 n_tb v1 v2 yb yv h_2)), yTV, yV0, by rw [ht]; exact hP9, va_K.moved hW.alike hK9, hD9⟩⟩, hS.F ht⟩) hS.2.2 dX10_setLeak_19

theorem lg_X11_thawOf_0 (v1 : Int32) (x_1 : Int32) (x_4 : Int32) (t_3 : (v1.toInt < (10 : Int) ∧ x_1.toInt = v1.toInt) ∨ ((10 : Int) ≤ v1.toInt ∧ x_1.toInt = (10 : Int))) (t_6 : ((0 : Int) < x_1.toInt ∧ x_4.toInt = x_1.toInt) ∨ (x_1.toInt ≤ (0 : Int) ∧ x_4.toInt = (0 : Int))) : x_4.toInt = hlF v1.toInt ∧ 0 ≤ x_4.toInt ∧ x_4.toInt ≤ 10 := by
  have := rg_rng v1; have := rg_rng x_1; have := rg_rng x_4; unfold hlF; (repeat' split) <;> omega
set_option maxHeartbeats 4000000 in
set_option maxRecDepth 100000 in
theorem kX11_thawOf (l : Launch) (dC : Nat → ClassId) (dI : Nat → Nat → Nat) (sz : Nat) (v1 : Int32) : Met l yX11_thawOf (Cond.code yX11_thawOf cX11_thawOf 1 (some .int) :: bg) ({ frames := 1, cells := 0, slots := 0, locals := 14 }) (pcW dC dI [.int v1] sz [] []) (va_Qi (fun (r : Int32) (u : Unit) => r.toInt = hlF v1.toInt ∧ 0 ≤ r.toInt ∧ r.toInt ≤ 10) (fun (u : Unit) (t : State) => va_P (dC, dI) vwCl [] t.heap ∧ va_K (dC, dI) vwCl [] t ∧ va_D (va_A [] sz) []) (va_A [] sz)) 0 0 (va_A [] sz) := by
  refine Met.ofW (cc := cX11_thawOf) (maxL := 1) (ret := (some .int)) pnX11 rfl ?_
  intro p e s m args below meth c s₁ B hml hv
  obtain ⟨rfl, hsz, hP, hK, hD0, hN⟩ := hv
  have hx := B.exec
  have hb := B.bytes
  have hr := B.returns
  have htb : ∀ w ∈ bg, w.before [.int v1].toArray s = true := fun w h => atoms_spec (ws := Cond.code yX11_thawOf cX11_thawOf 1 (some .int) :: bg) B.pre w (List.mem_cons_of_mem _ h)
  have hown : s.vm.findClass RX11 = some m.cls := findClass_of_methodNamed B.named
  have hlocks := B.notSynchronized
  subst hsz
  have hD := hD0.self (sz := s.heap.size)
  generalize hAe : va_A [] s.heap.size = A at hD ⊢
  have hA : ∀ q : Nat, s.heap.size ≤ q → A q := fun q h => by rw [← hAe]; exact Or.inr h
  have hS : va_S A s.heap s.heap [] := va_S.rf
  have hl := lv_entry ([.int v1]) (n := 1) (Nat.le_of_ble_eq_true rfl)
  rw [lg_entry_eq]
  generalize (lg_sl ([.int v1]) ++ List.replicate (1 - (lg_sl ([.int v1])).length) Slot.unset).toArray = ls at hl ⊢
  change lv_has ls 1 [(0, .int v1)] at hl
  clear hD0 hAe
  refine go0 (wsP := fun H => va_P (dC, dI) vwCl [] H) hP hS ?_
  clear hP hS; intro H locs hP hS
  change va_P (dC, dI) vwCl [] H at hP
  refine lv_iconst (v := 0) hx hb dX11_thawOf_0 (by decide) ?_
  refine lv_bipush (v := 10) hx hb dX11_thawOf_1 (by decide) ?_
  refine lv_iload_n hx hb dX11_thawOf_3 rfl (lv_at hl 0 rfl) ?_
  refine va_mmin hx hb (hml.trans hl.1.symm) hown (htb _ m_500) (htb _ m_408) (htb _ m_14) (htb _ m_409) (Nat.le_of_ble_eq_true rfl) (Nat.le_of_ble_eq_true rfl) (Nat.le_of_ble_eq_true rfl) (Nat.le_of_ble_eq_true rfl) dX11_thawOf_4 ?_
  refine lv_topi (fun x_1 ex_2 => ?_)
  have t_3 : (v1.toInt < (10 : Int) ∧ x_1.toInt = v1.toInt) ∨ ((10 : Int) ≤ v1.toInt ∧ x_1.toInt = (10 : Int)) := i_min (by decide) rfl ex_2
  refine va_mmax hx hb (hml.trans hl.1.symm) hown (htb _ m_501) (htb _ m_436) (htb _ m_14) (htb _ m_437) (Nat.le_of_ble_eq_true rfl) (Nat.le_of_ble_eq_true rfl) (Nat.le_of_ble_eq_true rfl) (Nat.le_of_ble_eq_true rfl) dX11_thawOf_7 ?_
  refine lv_topi (fun x_4 ex_5 => ?_)
  have t_6 : ((0 : Int) < x_1.toInt ∧ x_4.toInt = x_1.toInt) ∨ (x_1.toInt ≤ (0 : Int) ∧ x_4.toInt = (0 : Int)) := i_max (by decide) rfl ex_5
  refine W.widen (k := 0) (n := 0) (Nat.le_of_ble_eq_true rfl) (Nat.le_of_ble_eq_true rfl) ?_
  have hP9 := hP.sub (ws' := []) [] rfl
  have hD9 := hD.sub (ws' := []) [] (by decide) rfl
  have hK9 := hK.sub (tys' := []) [] rfl
  exact W.iret (v := x_4) hx hb hr (fun t ht hW => ⟨⟨x_4, (), rfl, (lg_X11_thawOf_0 v1 x_1 x_4 t_3 t_6), ⟨by rw [ht]; exact hP9, va_K.moved hW.alike hK9, hD9⟩⟩, hS.F ht⟩) hS.2.2 dX11_thawOf_10

theorem lg_X11_frostOf_0 (v1 : Int32) (yw : (-30) ≤ v1.toInt ∧ v1.toInt ≤ 30) : -2147483648 < v1.toInt := by
  have := rg_rng v1; omega
theorem lg_X11_frostOf_1 (v1 : Int32) (x_1 : Int32) (r_4 : Int32) (yw : (-30) ≤ v1.toInt ∧ v1.toInt ≤ 30) (t_3 : x_1.toInt = - v1.toInt) (h_5 : r_4.toInt = hlF x_1.toInt ∧ 0 ≤ r_4.toInt ∧ r_4.toInt ≤ 10) : 0 ≤ r_4.toInt ∧ r_4.toInt ≤ 10 := by
  have := rg_rng v1; have := rg_rng x_1; have := rg_rng r_4; omega
set_option maxHeartbeats 4000000 in
set_option maxRecDepth 100000 in
theorem kX11_frostOf (l : Launch) (dC : Nat → ClassId) (dI : Nat → Nat → Nat) (sz : Nat) (v1 : Int32) (yw : (-30) ≤ v1.toInt ∧ v1.toInt ≤ 30) : Met l yX11_frostOf (Cond.code yX11_frostOf cX11_frostOf 1 (some .int) :: bg) ({ frames := 2, cells := 0, slots := 0, locals := 34 }) (pcW dC dI [.int v1] sz [] []) (va_Qi (fun (r : Int32) (u : Unit) => r.toInt = hlF (-v1.toInt) ∧ 0 ≤ r.toInt ∧ r.toInt ≤ 10) (fun (u : Unit) (t : State) => va_P (dC, dI) vwCl [] t.heap ∧ va_K (dC, dI) vwCl [] t ∧ va_D (va_A [] sz) []) (va_A [] sz)) 0 0 (va_A [] sz) := by
  refine Met.ofW (cc := cX11_frostOf) (maxL := 1) (ret := (some .int)) pnX11 rfl ?_
  intro p e s m args below meth c s₁ B hml hv
  obtain ⟨rfl, hsz, hP, hK, hD0, hN⟩ := hv
  have hx := B.exec
  have hb := B.bytes
  have hr := B.returns
  have htb : ∀ w ∈ bg, w.before [.int v1].toArray s = true := fun w h => atoms_spec (ws := Cond.code yX11_frostOf cX11_frostOf 1 (some .int) :: bg) B.pre w (List.mem_cons_of_mem _ h)
  have hown : s.vm.findClass RX11 = some m.cls := findClass_of_methodNamed B.named
  have hlocks := B.notSynchronized
  subst hsz
  have hD := hD0.self (sz := s.heap.size)
  generalize hAe : va_A [] s.heap.size = A at hD ⊢
  have hA : ∀ q : Nat, s.heap.size ≤ q → A q := fun q h => by rw [← hAe]; exact Or.inr h
  have hS : va_S A s.heap s.heap [] := va_S.rf
  have hl := lv_entry ([.int v1]) (n := 1) (Nat.le_of_ble_eq_true rfl)
  rw [lg_entry_eq]
  generalize (lg_sl ([.int v1]) ++ List.replicate (1 - (lg_sl ([.int v1])).length) Slot.unset).toArray = ls at hl ⊢
  change lv_has ls 1 [(0, .int v1)] at hl
  clear hD0 hAe
  refine go0 (wsP := fun H => va_P (dC, dI) vwCl [] H) hP hS ?_
  clear hP hS; intro H locs hP hS
  change va_P (dC, dI) vwCl [] H at hP
  refine lv_iload_n hx hb dX11_frostOf_0 rfl (lv_at hl 0 rfl) ?_
  refine lv_ineg hx hb dX11_frostOf_1 ?_
  refine lv_topi (fun x_1 ex_2 => ?_)
  have t_3 : x_1.toInt = - v1.toInt := i_neg rfl (lg_X11_frostOf_0 v1 yw) ex_2
  have hPc := hP.sub (ws' := []) [] rfl
  have hDc := hD.sub (ws' := []) [] (by decide) rfl
  have hKc := hK.sub (tys' := []) [] rfl
  have hFc := va_free (wc := []) hD hS hA [] rfl
  refine va_calli (va_runS (As := [.int x_1]) (rest := []) ⟨hx, hb, hml, hown, htb⟩ (kX11_thawOf l dC dI H.size x_1 ) ⟨callB_of 1 htb (gd_c m_499) rfl rfl rfl (htb _ m_1) (htb _ m_497) hdX11_thawOf ⟨(Nat.le_of_ble_eq_true rfl), (Nat.le_of_ble_eq_true rfl)⟩, htb _ m_498⟩ ⟨pcW_blind, pcW_at hPc hKc hDc hN⟩ rfl rfl hl.1 rfl (lv_room (Nat.le_of_ble_eq_true rfl)) dX11_frostOf_2 ⟨(Nat.le_of_ble_eq_true rfl), (Nat.le_of_ble_eq_true rfl)⟩) hS (fun q _ h => hFc q h) hFc (fun r_4 u t H1 locs1 ht hvm h_5 hB hz1 hk1 hS1 => ?_)
  obtain ⟨hP1, hK1, hD1⟩ := hB
  rw [ht] at hP1
  obtain ⟨hPn, hDn⟩ := va_join (wr := []) (w1 := []) hP hD [] [] rfl rfl (by decide) (by decide) hk1 hFc hP1 hD1
  clear hP1 hD1 hK1
  clear hP hD hS hPc hDc hKc hFc hk1 hz1 ht hvm
  clear t
  revert hS1 hPn hDn; generalize H1 = H; generalize locs1 = locs; intro hS hP hD
  change va_P (dC, dI) vwCl [] H at hP
  change va_D A [] at hD
  refine W.widen (k := 0) (n := 0) (Nat.le_of_ble_eq_true rfl) (Nat.le_of_ble_eq_true rfl) ?_
  have hP9 := hP.sub (ws' := []) [] rfl
  have hD9 := hD.sub (ws' := []) [] (by decide) rfl
  have hK9 := hK.sub (tys' := []) [] rfl
  exact W.iret (v := r_4) hx hb hr (fun t ht hW => ⟨⟨r_4, (), rfl, ⟨h_5.1.trans (congrArg hlF t_3), (lg_X11_frostOf_1 v1 x_1 r_4 yw t_3 h_5)⟩, ⟨by rw [ht]; exact hP9, va_K.moved hW.alike hK9, hD9⟩⟩, hS.F ht⟩) hS.2.2 dX11_frostOf_5

theorem lg_X4_placeOf_0 (v1 : Int32) (r_1 : Int32) (yw : (-30) ≤ v1.toInt ∧ v1.toInt ≤ 30) (h_2 : r_1.toInt = hlF (-v1.toInt) ∧ 0 ≤ r_1.toInt ∧ r_1.toInt ≤ 10) : -2147483648 ≤ r_1.toInt * (11 : Int) ∧ r_1.toInt * (11 : Int) < 2147483648 := by
  have := rg_rng v1; have := rg_rng r_1; omega
theorem lg_X4_placeOf_1 (v1 : Int32) (v2 : Int32) (r_1 : Int32) (x_3 : Int32) (r_6 : Int32) (yw : (-30) ≤ v1.toInt ∧ v1.toInt ≤ 30) (h_2 : r_1.toInt = hlF (-v1.toInt) ∧ 0 ≤ r_1.toInt ∧ r_1.toInt ≤ 10) (t_5 : x_3.toInt = r_1.toInt * (11 : Int)) (h_7 : r_6.toInt = hlF v2.toInt ∧ 0 ≤ r_6.toInt ∧ r_6.toInt ≤ 10) : -2147483648 ≤ x_3.toInt + r_6.toInt ∧ x_3.toInt + r_6.toInt < 2147483648 := by
  have := rg_rng v1; have := rg_rng v2; have := rg_rng r_1; have := rg_rng x_3; have := rg_rng r_6; omega
theorem lg_X4_placeOf_2 (v1 : Int32) (v2 : Int32) (r_1 : Int32) (x_3 : Int32) (r_6 : Int32) (x_8 : Int32) (yw : (-30) ≤ v1.toInt ∧ v1.toInt ≤ 30) (h_2 : r_1.toInt = hlF (-v1.toInt) ∧ 0 ≤ r_1.toInt ∧ r_1.toInt ≤ 10) (t_5 : x_3.toInt = r_1.toInt * (11 : Int)) (h_7 : r_6.toInt = hlF v2.toInt ∧ 0 ≤ r_6.toInt ∧ r_6.toInt ≤ 10) (t_10 : x_8.toInt = x_3.toInt + r_6.toInt) (t_11 : ((plN v1.toInt v2.toInt : Nat) : Int) = 11 * hlF (-v1.toInt) + hlF v2.toInt ∧ plN v1.toInt v2.toInt < 121) : x_8.toInt = ((plN v1.toInt v2.toInt : Nat) : Int) ∧ 0 ≤ x_8.toInt ∧ x_8.toInt < 121 := by
  have := rg_rng v1; have := rg_rng v2; have := rg_rng r_1; have := rg_rng x_3; have := rg_rng r_6; have := rg_rng x_8; omega
set_option maxHeartbeats 4000000 in
set_option maxRecDepth 100000 in
theorem kX4_placeOf (l : Launch) (dC : Nat → ClassId) (dI : Nat → Nat → Nat) (sz : Nat) (v1 : Int32) (v2 : Int32) (yw : (-30) ≤ v1.toInt ∧ v1.toInt ≤ 30) : Met l yX4_placeOf (Cond.code yX4_placeOf cX4_placeOf 2 (some .int) :: bg) ({ frames := 3, cells := 0, slots := 0, locals := 54 }) (pcW dC dI [.int v1, .int v2] sz [] []) (va_Qi (fun (r : Int32) (u : Unit) => r.toInt = ((plN v1.toInt v2.toInt : Nat) : Int) ∧ 0 ≤ r.toInt ∧ r.toInt < 121) (fun (u : Unit) (t : State) => va_P (dC, dI) vwCl [] t.heap ∧ va_K (dC, dI) vwCl [] t ∧ va_D (va_A [] sz) []) (va_A [] sz)) 0 0 (va_A [] sz) := by
  refine Met.ofW (cc := cX4_placeOf) (maxL := 2) (ret := (some .int)) pnX4 rfl ?_
  intro p e s m args below meth c s₁ B hml hv
  obtain ⟨rfl, hsz, hP, hK, hD0, hN⟩ := hv
  have hx := B.exec
  have hb := B.bytes
  have hr := B.returns
  have htb : ∀ w ∈ bg, w.before [.int v1, .int v2].toArray s = true := fun w h => atoms_spec (ws := Cond.code yX4_placeOf cX4_placeOf 2 (some .int) :: bg) B.pre w (List.mem_cons_of_mem _ h)
  have hown : s.vm.findClass RX4 = some m.cls := findClass_of_methodNamed B.named
  have hlocks := B.notSynchronized
  subst hsz
  have hD := hD0.self (sz := s.heap.size)
  generalize hAe : va_A [] s.heap.size = A at hD ⊢
  have hA : ∀ q : Nat, s.heap.size ≤ q → A q := fun q h => by rw [← hAe]; exact Or.inr h
  have hS : va_S A s.heap s.heap [] := va_S.rf
  have hl := lv_entry ([.int v1, .int v2]) (n := 2) (Nat.le_of_ble_eq_true rfl)
  rw [lg_entry_eq]
  generalize (lg_sl ([.int v1, .int v2]) ++ List.replicate (2 - (lg_sl ([.int v1, .int v2])).length) Slot.unset).toArray = ls at hl ⊢
  change lv_has ls 2 [(0, .int v1), (1, .int v2)] at hl
  clear hD0 hAe
  refine go0 (wsP := fun H => va_P (dC, dI) vwCl [] H) hP hS ?_
  clear hP hS; intro H locs hP hS
  change va_P (dC, dI) vwCl [] H at hP
  refine lv_iload_n hx hb dX4_placeOf_0 rfl (lv_at hl 0 rfl) ?_
  have hPc := hP.sub (ws' := []) [] rfl
  have hDc := hD.sub (ws' := []) [] (by decide) rfl
  have hKc := hK.sub (tys' := []) [] rfl
  have hFc := va_free (wc := []) hD hS hA [] rfl
  refine va_calli (va_runSN (As := [.int v1]) (rest := []) ⟨hx, hb, hml, hown, htb⟩ (kX11_frostOf l dC dI H.size v1 yw) ⟨va_cnB 1 htb (gd_c m_496) rfl rfl rfl (hN.1 _ nm_27) (htb _ m_1) hdX11_frostOf ⟨(Nat.le_of_ble_eq_true rfl), (Nat.le_of_ble_eq_true rfl)⟩, htb _ m_495, trivial⟩ ⟨pcW_blind, pcW_at hPc hKc hDc hN⟩ rfl rfl hl.1 rfl (lv_room (Nat.le_of_ble_eq_true rfl)) dX4_placeOf_1 ⟨(Nat.le_of_ble_eq_true rfl), (Nat.le_of_ble_eq_true rfl)⟩) hS (fun q _ h => hFc q h) hFc (fun r_1 u t H1 locs1 ht hvm h_2 hB hz1 hk1 hS1 => ?_)
  obtain ⟨hP1, hK1, hD1⟩ := hB
  rw [ht] at hP1
  obtain ⟨hPn, hDn⟩ := va_join (wr := []) (w1 := []) hP hD [] [] rfl rfl (by decide) (by decide) hk1 hFc hP1 hD1
  clear hP1 hD1 hK1
  clear hP hD hS hPc hDc hKc hFc hk1 hz1 ht hvm
  clear t
  revert hS1 hPn hDn; generalize H1 = H; generalize locs1 = locs; intro hS hP hD
  change va_P (dC, dI) vwCl [] H at hP
  change va_D A [] at hD
  refine lv_bipush (v := 11) hx hb dX4_placeOf_4 (by decide) ?_
  refine lv_imul hx hb dX4_placeOf_6 ?_
  refine lv_topi (fun x_3 ex_4 => ?_)
  have t_5 : x_3.toInt = r_1.toInt * (11 : Int) := i_mul rfl (by decide) (lg_X4_placeOf_0 v1 r_1 yw h_2) ex_4
  refine lv_iload_n hx hb dX4_placeOf_7 rfl (lv_at hl 1 rfl) ?_
  have hPc := hP.sub (ws' := []) [] rfl
  have hDc := hD.sub (ws' := []) [] (by decide) rfl
  have hKc := hK.sub (tys' := []) [] rfl
  have hFc := va_free (wc := []) hD hS hA [] rfl
  refine va_calli (va_runSN (As := [.int v2]) (rest := [.int x_3]) ⟨hx, hb, hml, hown, htb⟩ (kX11_thawOf l dC dI H.size v2 ) ⟨va_cnB 1 htb (gd_c m_499) rfl rfl rfl (hN.1 _ nm_28) (htb _ m_1) hdX11_thawOf ⟨(Nat.le_of_ble_eq_true rfl), (Nat.le_of_ble_eq_true rfl)⟩, htb _ m_498, trivial⟩ ⟨pcW_blind, pcW_at hPc hKc hDc hN⟩ rfl rfl hl.1 rfl (lv_room (Nat.le_of_ble_eq_true rfl)) dX4_placeOf_8 ⟨(Nat.le_of_ble_eq_true rfl), (Nat.le_of_ble_eq_true rfl)⟩) hS (fun q _ h => hFc q h) hFc (fun r_6 u t H1 locs1 ht hvm h_7 hB hz1 hk1 hS1 => ?_)
  obtain ⟨hP1, hK1, hD1⟩ := hB
  rw [ht] at hP1
  obtain ⟨hPn, hDn⟩ := va_join (wr := []) (w1 := []) hP hD [] [] rfl rfl (by decide) (by decide) hk1 hFc hP1 hD1
  clear hP1 hD1 hK1
  clear hP hD hS hPc hDc hKc hFc hk1 hz1 ht hvm
  clear t
  revert hS1 hPn hDn; generalize H1 = H; generalize locs1 = locs; intro hS hP hD
  change va_P (dC, dI) vwCl [] H at hP
  change va_D A [] at hD
  refine lv_iadd hx hb dX4_placeOf_11 ?_
  refine lv_topi (fun x_8 ex_9 => ?_)
  have t_10 : x_8.toInt = x_3.toInt + r_6.toInt := i_add rfl rfl (lg_X4_placeOf_1 v1 v2 r_1 x_3 r_6 yw h_2 t_5 h_7) ex_9
  have t_11 : ((plN v1.toInt v2.toInt : Nat) : Int) = 11 * hlF (-v1.toInt) + hlF v2.toInt ∧ plN v1.toInt v2.toInt < 121 := pl_i _ _
  refine W.widen (k := 0) (n := 0) (Nat.le_of_ble_eq_true rfl) (Nat.le_of_ble_eq_true rfl) ?_
  have hP9 := hP.sub (ws' := []) [] rfl
  have hD9 := hD.sub (ws' := []) [] (by decide) rfl
  have hK9 := hK.sub (tys' := []) [] rfl
  exact W.iret (v := x_8) hx hb hr (fun t ht hW => ⟨⟨x_8, (), rfl, (lg_X4_placeOf_2 v1 v2 r_1 x_3 r_6 x_8 yw h_2 t_5 h_7 t_10 t_11), ⟨by rw [ht]; exact hP9, va_K.moved hW.alike hK9, hD9⟩⟩, hS.F ht⟩) hS.2.2 dX4_placeOf_12

theorem lg_X4_keep_0 (v1 : Int32) (v2 : Int32) (r_1 : Int32) (yw : (-30) ≤ v1.toInt ∧ v1.toInt ≤ 30) (h_2 : r_1.toInt = ((plN v1.toInt v2.toInt : Nat) : Int) ∧ 0 ≤ r_1.toInt ∧ r_1.toInt < 121) : 0 ≤ r_1.toInt ∧ r_1.toInt < ((121 : Nat) : Int) := by
  have := rg_rng v1; have := rg_rng v2; have := rg_rng r_1; omega
theorem lg_X4_keep_1 (v1 : Int32) (v2 : Int32) (r_1 : Int32) (yw : (-30) ≤ v1.toInt ∧ v1.toInt ≤ 30) (h_2 : r_1.toInt = ((plN v1.toInt v2.toInt : Nat) : Int) ∧ 0 ≤ r_1.toInt ∧ r_1.toInt < 121) : r_1.toInt = (((plN v1.toInt v2.toInt) : Nat) : Int) := by
  have := rg_rng v1; have := rg_rng v2; have := rg_rng r_1; omega
set_option maxHeartbeats 4000000 in
set_option maxRecDepth 100000 in
theorem kX4_keep (l : Launch) (dC : Nat → ClassId) (dI : Nat → Nat → Nat) (sz : Nat) (h0 : Nat) (a_given : Nat) (a_days : Nat) (k_given : ClassId) (k_days : ClassId) (f_given : Nat → Int32) (f_days : Nat → Int32) (v1 : Int32) (v2 : Int32) (v3 : Int32) (yw : (-30) ≤ v1.toInt ∧ v1.toInt ≤ 30) : Met l yX4_keep (Cond.code yX4_keep cX4_keep 5 none :: bg) ({ frames := 4, cells := 0, slots := 0, locals := 75 }) (pcW dC dI [.ref h0, .int v1, .int v2, .int v3] sz [(h0, .inr (4, [.ref a_given, .ref a_days])), (a_given, .inl (k_given, 121, .inl f_given)), (a_days, .inl (k_days, 121, .inl f_days))] [(k_given, .int), (k_days, .int)]) (va_Qv (fun (u : Unit) => True) (fun (u : Unit) (t : State) => ∃ (w_given : Nat → Int32) (w_days : Nat → Int32), Uk w_given f_given (plN v1.toInt v2.toInt) v3 (True) ∧ Uk w_days f_days (plN v1.toInt v2.toInt) 1 (True) ∧ va_P (dC, dI) vwCl [(h0, .inr (4, [.ref a_given, .ref a_days])), (a_given, .inl (k_given, 121, .inl w_given)), (a_days, .inl (k_days, 121, .inl w_days))] t.heap ∧ va_K (dC, dI) vwCl [] t ∧ va_D (va_A [(h0, .inr (4, [.ref a_given, .ref a_days])), (a_given, .inl (k_given, 121, .inl f_given)), (a_days, .inl (k_days, 121, .inl f_days))] sz) [(h0, .inr (4, [.ref a_given, .ref a_days])), (a_given, .inl (k_given, 121, .inl w_given)), (a_days, .inl (k_days, 121, .inl w_days))]) (va_A [(h0, .inr (4, [.ref a_given, .ref a_days])), (a_given, .inl (k_given, 121, .inl f_given)), (a_days, .inl (k_days, 121, .inl f_days))] sz)) 0 0 (va_A [(h0, .inr (4, [.ref a_given, .ref a_days])), (a_given, .inl (k_given, 121, .inl f_given)), (a_days, .inl (k_days, 121, .inl f_days))] sz) := by
  refine Met.ofW (cc := cX4_keep) (maxL := 5) (ret := none) pnX4 rfl ?_
  intro p e s m args below meth c s₁ B hml hv
  obtain ⟨rfl, hsz, hP, hK, hD0, hN⟩ := hv
  have hx := B.exec
  have hb := B.bytes
  have hr := B.returns
  have htb : ∀ w ∈ bg, w.before [.ref h0, .int v1, .int v2, .int v3].toArray s = true := fun w h => atoms_spec (ws := Cond.code yX4_keep cX4_keep 5 none :: bg) B.pre w (List.mem_cons_of_mem _ h)
  have hown : s.vm.findClass RX4 = some m.cls := findClass_of_methodNamed B.named
  have hlocks := B.notSynchronized
  subst hsz
  have hD := hD0.self (sz := s.heap.size)
  generalize hAe : va_A [(h0, .inr (4, [.ref a_given, .ref a_days])), (a_given, .inl (k_given, 121, .inl f_given)), (a_days, .inl (k_days, 121, .inl f_days))] s.heap.size = A at hD ⊢
  have hA : ∀ q : Nat, s.heap.size ≤ q → A q := fun q h => by rw [← hAe]; exact Or.inr h
  have hS : va_S A s.heap s.heap [] := va_S.rf
  have hl := lv_entry ([.ref h0, .int v1, .int v2, .int v3]) (n := 5) (Nat.le_of_ble_eq_true rfl)
  rw [lg_entry_eq]
  generalize (lg_sl ([.ref h0, .int v1, .int v2, .int v3]) ++ List.replicate (5 - (lg_sl ([.ref h0, .int v1, .int v2, .int v3])).length) Slot.unset).toArray = ls at hl ⊢
  change lv_has ls 5 [(0, .ref h0), (1, .int v1), (2, .int v2), (3, .int v3)] at hl
  clear hD0 hAe
  refine go0 (wsP := fun H => va_P (dC, dI) vwCl [(h0, .inr (4, [.ref a_given, .ref a_days])), (a_given, .inl (k_given, 121, .inl f_given)), (a_days, .inl (k_days, 121, .inl f_days))] H) hP hS ?_
  clear hP hS; intro H locs hP hS
  change va_P (dC, dI) vwCl [(h0, .inr (4, [.ref a_given, .ref a_days])), (a_given, .inl (k_given, 121, .inl f_given)), (a_days, .inl (k_days, 121, .inl f_days))] H at hP
  refine lv_iload_n hx hb dX4_keep_0 rfl (lv_at hl 1 rfl) ?_
  refine lv_iload_n hx hb dX4_keep_1 rfl (lv_at hl 2 rfl) ?_
  have hPc := hP.sub (ws' := []) [] rfl
  have hDc := hD.sub (ws' := []) [] (by decide) rfl
  have hKc := hK.sub (tys' := []) [] rfl
  have hFc := va_free (wc := []) hD hS hA [] rfl
  refine va_calli (va_runS (As := [.int v1, .int v2]) (rest := []) ⟨hx, hb, hml, hown, htb⟩ (kX4_placeOf l dC dI H.size v1 v2 yw) ⟨callB_of 2 htb (gd_c m_559) rfl rfl rfl (htb _ m_5) (htb _ m_557) hdX4_placeOf ⟨(Nat.le_of_ble_eq_true rfl), (Nat.le_of_ble_eq_true rfl)⟩, htb _ m_558⟩ ⟨pcW_blind, pcW_at hPc hKc hDc hN⟩ rfl rfl hl.1 rfl (lv_room (Nat.le_of_ble_eq_true rfl)) dX4_keep_2 ⟨(Nat.le_of_ble_eq_true rfl), (Nat.le_of_ble_eq_true rfl)⟩) hS (fun q _ h => hFc q h) hFc (fun r_1 u t H1 locs1 ht hvm h_2 hB hz1 hk1 hS1 => ?_)
  obtain ⟨hP1, hK1, hD1⟩ := hB
  rw [ht] at hP1
  obtain ⟨hPn, hDn⟩ := va_join (wr := [(h0, .inr (4, [.ref a_given, .ref a_days])), (a_given, .inl (k_given, 121, .inl f_given)), (a_days, .inl (k_days, 121, .inl f_days))]) (w1 := []) hP hD [] [0, 1, 2] rfl rfl (by decide) (by decide) hk1 hFc hP1 hD1
  clear hP1 hD1 hK1
  clear hP hD hS hPc hDc hKc hFc hk1 hz1 ht hvm
  clear t
  revert hS1 hPn hDn; generalize H1 = H; generalize locs1 = locs; intro hS hP hD
  change va_P (dC, dI) vwCl [(h0, .inr (4, [.ref a_given, .ref a_days])), (a_given, .inl (k_given, 121, .inl f_given)), (a_days, .inl (k_days, 121, .inl f_days))] H at hP
  change va_D A [(h0, .inr (4, [.ref a_given, .ref a_days])), (a_given, .inl (k_given, 121, .inl f_given)), (a_days, .inl (k_days, 121, .inl f_days))] at hD
  refine lv_istore (lv' := [(4, .int r_1), (0, .ref h0), (1, .int v1), (2, .int v2), (3, .int v3)]) hx hb dX4_keep_5 hl (by decide) rfl ?_
  clear hl; intro ls hl
  refine lv_aload_n hx hb dX4_keep_7 rfl (lv_at hl 1 rfl) ?_
  refine va_get (D := (dC, dI)) (ci := 4) (v := .ref a_given) (C := RX4) (T := TX4) (N := 2) hx hb htb iX4 hown hK hP 0 rfl rfl 0 (Nat.le_of_ble_eq_true rfl) (htb _ m_126) (fun _ h9 => h9) rfl dX4_keep_8 ?_
  refine lv_iload hx hb dX4_keep_11 (lv_at hl 0 rfl) ?_
  refine lv_dup2_11 hx hb dX4_keep_13 rfl rfl ?_
  refine va_iald hx hb hK hP 1 0 rfl rfl (i_in rfl (lg_X4_keep_0 v1 v2 r_1 yw h_2)) dX4_keep_14 ?_
  refine lv_topi (fun x_3 ex_4 => ?_)
  refine lv_iload_n hx hb dX4_keep_15 rfl (lv_at hl 4 rfl) ?_
  refine lv_iadd hx hb dX4_keep_16 ?_
  refine lv_topi (fun x_5 ex_6 => ?_)
  refine va_iast hx hb hK hP hD hS 1 0 rfl rfl (i_in rfl (lg_X4_keep_0 v1 v2 r_1 yw h_2)) dX4_keep_17 ?_
  clear hP hD hS; intro H locs hP hD hS
  change va_P (dC, dI) vwCl [(h0, .inr (4, [.ref a_given, .ref a_days])), (a_given, .inl (k_given, 121, .inl (upd f_given (Int32.toNatClampNeg r_1) x_5))), (a_days, .inl (k_days, 121, .inl f_days))] H at hP
  change va_D A [(h0, .inr (4, [.ref a_given, .ref a_days])), (a_given, .inl (k_given, 121, .inl (upd f_given (Int32.toNatClampNeg r_1) x_5))), (a_days, .inl (k_days, 121, .inl f_days))] at hD
  generalize hG_9 : upd f_given (Int32.toNatClampNeg r_1) x_5 = g_8 at hP hD
  refine lv_aload_n hx hb dX4_keep_18 rfl (lv_at hl 1 rfl) ?_
  refine va_get (D := (dC, dI)) (ci := 4) (v := .ref a_days) (C := RX4) (T := TX4) (N := 2) hx hb htb iX4 hown hK hP 0 rfl rfl 1 (Nat.le_of_ble_eq_true rfl) (htb _ m_127) (fun _ h9 => h9) rfl dX4_keep_19 ?_
  refine lv_iload hx hb dX4_keep_22 (lv_at hl 0 rfl) ?_
  refine lv_dup2_11 hx hb dX4_keep_24 rfl rfl ?_
  refine va_iald hx hb hK hP 2 1 rfl rfl (i_in rfl (lg_X4_keep_0 v1 v2 r_1 yw h_2)) dX4_keep_25 ?_
  refine lv_topi (fun x_10 ex_11 => ?_)
  refine lv_iconst (v := 1) hx hb dX4_keep_26 (by decide) ?_
  refine lv_iadd hx hb dX4_keep_27 ?_
  refine lv_topi (fun x_12 ex_13 => ?_)
  refine va_iast hx hb hK hP hD hS 2 1 rfl rfl (i_in rfl (lg_X4_keep_0 v1 v2 r_1 yw h_2)) dX4_keep_28 ?_
  clear hP hD hS; intro H locs hP hD hS
  change va_P (dC, dI) vwCl [(h0, .inr (4, [.ref a_given, .ref a_days])), (a_given, .inl (k_given, 121, .inl g_8)), (a_days, .inl (k_days, 121, .inl (upd f_days (Int32.toNatClampNeg r_1) x_12)))] H at hP
  change va_D A [(h0, .inr (4, [.ref a_given, .ref a_days])), (a_given, .inl (k_given, 121, .inl g_8)), (a_days, .inl (k_days, 121, .inl (upd f_days (Int32.toNatClampNeg r_1) x_12)))] at hD
  generalize hG_16 : upd f_days (Int32.toNatClampNeg r_1) x_12 = g_15 at hP hD
  refine W.widen (k := 0) (n := 0) (Nat.le_of_ble_eq_true rfl) (Nat.le_of_ble_eq_true rfl) ?_
  have hP9 := hP.sub (ws' := [(h0, .inr (4, [.ref a_given, .ref a_days])), (a_given, .inl (k_given, 121, .inl g_8)), (a_days, .inl (k_days, 121, .inl g_15))]) [0, 1, 2] rfl
  have hD9 := hD.sub (ws' := [(h0, .inr (4, [.ref a_given, .ref a_days])), (a_given, .inl (k_given, 121, .inl g_8)), (a_days, .inl (k_days, 121, .inl g_15))]) [0, 1, 2] (by decide) rfl
  have hK9 := hK.sub (tys' := []) [] rfl
  exact W.vret hx hb hr (fun t ht hW => ⟨⟨(), rfl, trivial, ⟨g_8, g_15, (Uk_t trivial hG_9 ex_6 ex_4 (lg_X4_keep_1 v1 v2 r_1 yw h_2)), (Uk_t trivial hG_16 ex_13 ex_11 (lg_X4_keep_1 v1 v2 r_1 yw h_2)), by rw [ht]; exact hP9, va_K.moved hW.alike hK9, hD9⟩⟩, hS.F ht⟩) hS.2.2 dX4_keep_29

theorem lg_X4_inLowestTerms_0 (v1 : Int32) (v2 : Int32) (yv : 0 ≤ v2.toInt ∧ v2.toInt < 121) (y1 : 0 ≤ v1.toInt) : 0 ≤ v2.toInt ∧ v2.toInt < ((121 : Nat) : Int) := by
  have := rg_rng v1; have := rg_rng v2; omega
theorem lg_X4_inLowestTerms_1 (f_given : Nat → Int32) (v1 : Int32) (v2 : Int32) (x_1 : Int32) (yv : 0 ≤ v2.toInt ∧ v2.toInt < 121) (y1 : 0 ≤ v1.toInt) (t_3 : x_1.toInt = (f_given (Int32.toNatClampNeg v2)).toInt) : 0 ≤ v2.toInt ∧ v2.toInt < ((121 : Nat) : Int) := by
  have := rg_rng v1; have := rg_rng v2; have := rg_rng x_1; omega
theorem lg_X4_inLowestTerms_2 (f_given : Nat → Int32) (v1 : Int32) (v2 : Int32) (x_1 : Int32) (yv : 0 ≤ v2.toInt ∧ v2.toInt < 121) (y1 : 0 ≤ v1.toInt) (t_3 : x_1.toInt = (f_given (Int32.toNatClampNeg v2)).toInt) (t_4 : 0 ≤ x_1.toInt ∧ x_1.toInt ≤ 2000000000) : 0 ≤ v2.toInt ∧ v2.toInt < ((121 : Nat) : Int) := by
  have := rg_rng v1; have := rg_rng v2; have := rg_rng x_1; omega
theorem lg_X4_inLowestTerms_3 (f_given : Nat → Int32) (f_days : Nat → Int32) (v1 : Int32) (v2 : Int32) (x_1 : Int32) (x_5 : Int32) (yv : 0 ≤ v2.toInt ∧ v2.toInt < 121) (y1 : 0 ≤ v1.toInt) (t_3 : x_1.toInt = (f_given (Int32.toNatClampNeg v2)).toInt) (t_4 : 0 ≤ x_1.toInt ∧ x_1.toInt ≤ 2000000000) (t_7 : x_5.toInt = (f_days (Int32.toNatClampNeg v2)).toInt) : 0 ≤ v2.toInt ∧ v2.toInt < ((121 : Nat) : Int) := by
  have := rg_rng v1; have := rg_rng v2; have := rg_rng x_1; have := rg_rng x_5; omega
theorem lg_X4_inLowestTerms_4 (f_given : Nat → Int32) (f_days : Nat → Int32) (v1 : Int32) (v2 : Int32) (x_1 : Int32) (x_5 : Int32) (yv : 0 ≤ v2.toInt ∧ v2.toInt < 121) (y1 : 0 ≤ v1.toInt) (t_3 : x_1.toInt = (f_given (Int32.toNatClampNeg v2)).toInt) (t_4 : 0 ≤ x_1.toInt ∧ x_1.toInt ≤ 2000000000) (t_7 : x_5.toInt = (f_days (Int32.toNatClampNeg v2)).toInt) (t_8 : 0 ≤ x_5.toInt ∧ x_5.toInt ≤ 2000000000) : 0 ≤ x_1.toInt ∧ 0 ≤ x_5.toInt := by
  have := rg_rng v1; have := rg_rng v2; have := rg_rng x_1; have := rg_rng x_5; omega
theorem lg_X4_inLowestTerms_5 (f_given : Nat → Int32) (f_days : Nat → Int32) (v1 : Int32) (v2 : Int32) (x_1 : Int32) (x_5 : Int32) (r_9 : Int32) (yv : 0 ≤ v2.toInt ∧ v2.toInt < 121) (y1 : 0 ≤ v1.toInt) (t_3 : x_1.toInt = (f_given (Int32.toNatClampNeg v2)).toInt) (t_4 : 0 ≤ x_1.toInt ∧ x_1.toInt ≤ 2000000000) (t_7 : x_5.toInt = (f_days (Int32.toNatClampNeg v2)).toInt) (t_8 : 0 ≤ x_5.toInt ∧ x_5.toInt ≤ 2000000000) (h_10 : r_9.toInt = gcI x_1.toInt x_5.toInt ∧ 0 ≤ r_9.toInt) (t_11 : r_9.toInt = gcI (f_given (Int32.toNatClampNeg v2)).toInt (f_days (Int32.toNatClampNeg v2)).toInt) (t_12 : (f_days (Int32.toNatClampNeg v2)).toInt ≤ 0 ∨ 0 < gcI (f_given (Int32.toNatClampNeg v2)).toInt (f_days (Int32.toNatClampNeg v2)).toInt) : 0 ≤ v2.toInt ∧ v2.toInt < ((121 : Nat) : Int) := by
  have := rg_rng v1; have := rg_rng v2; have := rg_rng x_1; have := rg_rng x_5; have := rg_rng r_9; omega
theorem lg_X4_inLowestTerms_6 (f_given : Nat → Int32) (f_days : Nat → Int32) (v1 : Int32) (v2 : Int32) (x_1 : Int32) (x_5 : Int32) (r_9 : Int32) (x_13 : Int32) (yv : 0 ≤ v2.toInt ∧ v2.toInt < 121) (y1 : 0 ≤ v1.toInt) (t_3 : x_1.toInt = (f_given (Int32.toNatClampNeg v2)).toInt) (t_4 : 0 ≤ x_1.toInt ∧ x_1.toInt ≤ 2000000000) (t_7 : x_5.toInt = (f_days (Int32.toNatClampNeg v2)).toInt) (t_8 : 0 ≤ x_5.toInt ∧ x_5.toInt ≤ 2000000000) (h_10 : r_9.toInt = gcI x_1.toInt x_5.toInt ∧ 0 ≤ r_9.toInt) (t_11 : r_9.toInt = gcI (f_given (Int32.toNatClampNeg v2)).toInt (f_days (Int32.toNatClampNeg v2)).toInt) (t_12 : (f_days (Int32.toNatClampNeg v2)).toInt ≤ 0 ∨ 0 < gcI (f_given (Int32.toNatClampNeg v2)).toInt (f_days (Int32.toNatClampNeg v2)).toInt) (t_15 : x_13.toInt = (f_days (Int32.toNatClampNeg v2)).toInt) : 0 ≤ v2.toInt ∧ v2.toInt < ((121 : Nat) : Int) := by
  have := rg_rng v1; have := rg_rng v2; have := rg_rng x_1; have := rg_rng x_5; have := rg_rng r_9; have := rg_rng x_13; omega
theorem lg_X4_inLowestTerms_7 (f_given : Nat → Int32) (f_days : Nat → Int32) (v1 : Int32) (v2 : Int32) (x_1 : Int32) (x_5 : Int32) (r_9 : Int32) (x_13 : Int32) (yv : 0 ≤ v2.toInt ∧ v2.toInt < 121) (y1 : 0 ≤ v1.toInt) (t_3 : x_1.toInt = (f_given (Int32.toNatClampNeg v2)).toInt) (t_4 : 0 ≤ x_1.toInt ∧ x_1.toInt ≤ 2000000000) (t_7 : x_5.toInt = (f_days (Int32.toNatClampNeg v2)).toInt) (t_8 : 0 ≤ x_5.toInt ∧ x_5.toInt ≤ 2000000000) (h_10 : r_9.toInt = gcI x_1.toInt x_5.toInt ∧ 0 ≤ r_9.toInt) (t_11 : r_9.toInt = gcI (f_given (Int32.toNatClampNeg v2)).toInt (f_days (Int32.toNatClampNeg v2)).toInt) (t_12 : (f_days (Int32.toNatClampNeg v2)).toInt ≤ 0 ∨ 0 < gcI (f_given (Int32.toNatClampNeg v2)).toInt (f_days (Int32.toNatClampNeg v2)).toInt) (t_15 : x_13.toInt = (f_days (Int32.toNatClampNeg v2)).toInt) (t_16 : 0 ≤ x_13.toInt ∧ x_13.toInt ≤ 2000000000) (t_17 : x_13.toInt = x_5.toInt) (t_19 : x_13.toInt = (0 : Int)) : (-1 : Int) = loV v1.toInt (f_given (Int32.toNatClampNeg v2)).toInt (f_days (Int32.toNatClampNeg v2)).toInt := by
  have := rg_rng v1; have := rg_rng v2; have := rg_rng x_1; have := rg_rng x_5; have := rg_rng r_9; have := rg_rng x_13; unfold loV; (repeat' split) <;> omega
theorem lg_X4_inLowestTerms_8 (f_given : Nat → Int32) (f_days : Nat → Int32) (v1 : Int32) (v2 : Int32) (x_1 : Int32) (x_5 : Int32) (r_9 : Int32) (x_13 : Int32) (yv : 0 ≤ v2.toInt ∧ v2.toInt < 121) (y1 : 0 ≤ v1.toInt) (t_3 : x_1.toInt = (f_given (Int32.toNatClampNeg v2)).toInt) (t_4 : 0 ≤ x_1.toInt ∧ x_1.toInt ≤ 2000000000) (t_7 : x_5.toInt = (f_days (Int32.toNatClampNeg v2)).toInt) (t_8 : 0 ≤ x_5.toInt ∧ x_5.toInt ≤ 2000000000) (h_10 : r_9.toInt = gcI x_1.toInt x_5.toInt ∧ 0 ≤ r_9.toInt) (t_11 : r_9.toInt = gcI (f_given (Int32.toNatClampNeg v2)).toInt (f_days (Int32.toNatClampNeg v2)).toInt) (t_12 : (f_days (Int32.toNatClampNeg v2)).toInt ≤ 0 ∨ 0 < gcI (f_given (Int32.toNatClampNeg v2)).toInt (f_days (Int32.toNatClampNeg v2)).toInt) (t_15 : x_13.toInt = (f_days (Int32.toNatClampNeg v2)).toInt) (t_16 : 0 ≤ x_13.toInt ∧ x_13.toInt ≤ 2000000000) (t_17 : x_13.toInt = x_5.toInt) (t_19 : ¬ x_13.toInt = (0 : Int)) (t_21 : ¬ r_9.toInt = (0 : Int)) : ¬ r_9.toInt = 0 := by
  have := rg_rng v1; have := rg_rng v2; have := rg_rng x_1; have := rg_rng x_5; have := rg_rng r_9; have := rg_rng x_13; omega
theorem lg_X4_inLowestTerms_9 (f_given : Nat → Int32) (f_days : Nat → Int32) (v1 : Int32) (v2 : Int32) (x_1 : Int32) (x_5 : Int32) (r_9 : Int32) (x_13 : Int32) (yv : 0 ≤ v2.toInt ∧ v2.toInt < 121) (y1 : 0 ≤ v1.toInt) (t_3 : x_1.toInt = (f_given (Int32.toNatClampNeg v2)).toInt) (t_4 : 0 ≤ x_1.toInt ∧ x_1.toInt ≤ 2000000000) (t_7 : x_5.toInt = (f_days (Int32.toNatClampNeg v2)).toInt) (t_8 : 0 ≤ x_5.toInt ∧ x_5.toInt ≤ 2000000000) (h_10 : r_9.toInt = gcI x_1.toInt x_5.toInt ∧ 0 ≤ r_9.toInt) (t_11 : r_9.toInt = gcI (f_given (Int32.toNatClampNeg v2)).toInt (f_days (Int32.toNatClampNeg v2)).toInt) (t_12 : (f_days (Int32.toNatClampNeg v2)).toInt ≤ 0 ∨ 0 < gcI (f_given (Int32.toNatClampNeg v2)).toInt (f_days (Int32.toNatClampNeg v2)).toInt) (t_15 : x_13.toInt = (f_days (Int32.toNatClampNeg v2)).toInt) (t_16 : 0 ≤ x_13.toInt ∧ x_13.toInt ≤ 2000000000) (t_17 : x_13.toInt = x_5.toInt) (t_19 : ¬ x_13.toInt = (0 : Int)) (t_21 : ¬ r_9.toInt = (0 : Int)) : r_9.toInt = gcI (f_given (Int32.toNatClampNeg v2)).toInt (f_days (Int32.toNatClampNeg v2)).toInt := by
  have := rg_rng v1; have := rg_rng v2; have := rg_rng x_1; have := rg_rng x_5; have := rg_rng r_9; have := rg_rng x_13; omega
theorem lg_X4_inLowestTerms_10 (f_given : Nat → Int32) (f_days : Nat → Int32) (v1 : Int32) (v2 : Int32) (x_1 : Int32) (x_5 : Int32) (r_9 : Int32) (x_13 : Int32) (yv : 0 ≤ v2.toInt ∧ v2.toInt < 121) (y1 : 0 ≤ v1.toInt) (t_3 : x_1.toInt = (f_given (Int32.toNatClampNeg v2)).toInt) (t_4 : 0 ≤ x_1.toInt ∧ x_1.toInt ≤ 2000000000) (t_7 : x_5.toInt = (f_days (Int32.toNatClampNeg v2)).toInt) (t_8 : 0 ≤ x_5.toInt ∧ x_5.toInt ≤ 2000000000) (h_10 : r_9.toInt = gcI x_1.toInt x_5.toInt ∧ 0 ≤ r_9.toInt) (t_11 : r_9.toInt = gcI (f_given (Int32.toNatClampNeg v2)).toInt (f_days (Int32.toNatClampNeg v2)).toInt) (t_12 : (f_days (Int32.toNatClampNeg v2)).toInt ≤ 0 ∨ 0 < gcI (f_given (Int32.toNatClampNeg v2)).toInt (f_days (Int32.toNatClampNeg v2)).toInt) (t_15 : x_13.toInt = (f_days (Int32.toNatClampNeg v2)).toInt) (t_16 : 0 ≤ x_13.toInt ∧ x_13.toInt ≤ 2000000000) (t_17 : x_13.toInt = x_5.toInt) (t_19 : ¬ x_13.toInt = (0 : Int)) (t_21 : ¬ r_9.toInt = (0 : Int)) : 0 ≤ v1.toInt ∧ 0 < gcI (f_given (Int32.toNatClampNeg v2)).toInt (f_days (Int32.toNatClampNeg v2)).toInt := by
  have := rg_rng v1; have := rg_rng v2; have := rg_rng x_1; have := rg_rng x_5; have := rg_rng r_9; have := rg_rng x_13; omega
theorem lg_X4_inLowestTerms_11 (f_given : Nat → Int32) (f_days : Nat → Int32) (v1 : Int32) (v2 : Int32) (x_1 : Int32) (x_5 : Int32) (r_9 : Int32) (x_13 : Int32) (x_22 : Int32) (yv : 0 ≤ v2.toInt ∧ v2.toInt < 121) (y1 : 0 ≤ v1.toInt) (t_3 : x_1.toInt = (f_given (Int32.toNatClampNeg v2)).toInt) (t_4 : 0 ≤ x_1.toInt ∧ x_1.toInt ≤ 2000000000) (t_7 : x_5.toInt = (f_days (Int32.toNatClampNeg v2)).toInt) (t_8 : 0 ≤ x_5.toInt ∧ x_5.toInt ≤ 2000000000) (h_10 : r_9.toInt = gcI x_1.toInt x_5.toInt ∧ 0 ≤ r_9.toInt) (t_11 : r_9.toInt = gcI (f_given (Int32.toNatClampNeg v2)).toInt (f_days (Int32.toNatClampNeg v2)).toInt) (t_12 : (f_days (Int32.toNatClampNeg v2)).toInt ≤ 0 ∨ 0 < gcI (f_given (Int32.toNatClampNeg v2)).toInt (f_days (Int32.toNatClampNeg v2)).toInt) (t_15 : x_13.toInt = (f_days (Int32.toNatClampNeg v2)).toInt) (t_16 : 0 ≤ x_13.toInt ∧ x_13.toInt ≤ 2000000000) (t_17 : x_13.toInt = x_5.toInt) (t_19 : ¬ x_13.toInt = (0 : Int)) (t_21 : ¬ r_9.toInt = (0 : Int)) (t_24 : x_22.toInt = v1.toInt / gcI (f_given (Int32.toNatClampNeg v2)).toInt (f_days (Int32.toNatClampNeg v2)).toInt) : x_22.toInt = loV v1.toInt (f_given (Int32.toNatClampNeg v2)).toInt (f_days (Int32.toNatClampNeg v2)).toInt := by
  have := rg_rng v1; have := rg_rng v2; have := rg_rng x_1; have := rg_rng x_5; have := rg_rng r_9; have := rg_rng x_13; have := rg_rng x_22; unfold loV; (repeat' split) <;> omega
theorem lg_X4_inLowestTerms_12 (f_given : Nat → Int32) (f_days : Nat → Int32) (v1 : Int32) (v2 : Int32) (x_1 : Int32) (x_5 : Int32) (r_9 : Int32) (x_13 : Int32) (yv : 0 ≤ v2.toInt ∧ v2.toInt < 121) (y1 : 0 ≤ v1.toInt) (t_3 : x_1.toInt = (f_given (Int32.toNatClampNeg v2)).toInt) (t_4 : 0 ≤ x_1.toInt ∧ x_1.toInt ≤ 2000000000) (t_7 : x_5.toInt = (f_days (Int32.toNatClampNeg v2)).toInt) (t_8 : 0 ≤ x_5.toInt ∧ x_5.toInt ≤ 2000000000) (h_10 : r_9.toInt = gcI x_1.toInt x_5.toInt ∧ 0 ≤ r_9.toInt) (t_11 : r_9.toInt = gcI (f_given (Int32.toNatClampNeg v2)).toInt (f_days (Int32.toNatClampNeg v2)).toInt) (t_12 : (f_days (Int32.toNatClampNeg v2)).toInt ≤ 0 ∨ 0 < gcI (f_given (Int32.toNatClampNeg v2)).toInt (f_days (Int32.toNatClampNeg v2)).toInt) (t_15 : x_13.toInt = (f_days (Int32.toNatClampNeg v2)).toInt) (t_16 : 0 ≤ x_13.toInt ∧ x_13.toInt ≤ 2000000000) (t_17 : x_13.toInt = x_5.toInt) (t_19 : ¬ x_13.toInt = (0 : Int)) (t_21 : r_9.toInt = (0 : Int)) : (-1 : Int) = loV v1.toInt (f_given (Int32.toNatClampNeg v2)).toInt (f_days (Int32.toNatClampNeg v2)).toInt := by
  have := rg_rng v1; have := rg_rng v2; have := rg_rng x_1; have := rg_rng x_5; have := rg_rng r_9; have := rg_rng x_13; unfold loV; (repeat' split) <;> omega
set_option maxHeartbeats 4000000 in
set_option maxRecDepth 100000 in
theorem kX4_inLowestTerms (l : Launch) (dC : Nat → ClassId) (dI : Nat → Nat → Nat) (sz : Nat) (h0 : Nat) (a_given : Nat) (a_days : Nat) (k_given : ClassId) (k_days : ClassId) (f_given : Nat → Int32) (f_days : Nat → Int32) (v1 : Int32) (v2 : Int32) (yv : 0 ≤ v2.toInt ∧ v2.toInt < 121) (y1 : 0 ≤ v1.toInt) (yrg : Rg f_given 121 0 2000000000) (yrd : Rg f_days 121 0 2000000000) : Met l yX4_inLowestTerms (Cond.code yX4_inLowestTerms cX4_inLowestTerms 4 (some .int) :: bg) ({ frames := 1, cells := 0, slots := 0, locals := 25 }) (pcW dC dI [.ref h0, .int v1, .int v2] sz [(h0, .inr (4, [.ref a_given, .ref a_days])), (a_given, .inl (k_given, 121, .inl f_given)), (a_days, .inl (k_days, 121, .inl f_days))] [(k_given, .int), (k_days, .int)]) (va_Qi (fun (r : Int32) (u : Unit) => r.toInt = loV v1.toInt (f_given (Int32.toNatClampNeg v2)).toInt (f_days (Int32.toNatClampNeg v2)).toInt) (fun (u : Unit) (t : State) => va_P (dC, dI) vwCl [(h0, .inr (4, [.ref a_given, .ref a_days])), (a_given, .inl (k_given, 121, .inl f_given)), (a_days, .inl (k_days, 121, .inl f_days))] t.heap ∧ va_K (dC, dI) vwCl [(k_given, .int), (k_days, .int)] t ∧ va_D (va_A [(h0, .inr (4, [.ref a_given, .ref a_days])), (a_given, .inl (k_given, 121, .inl f_given)), (a_days, .inl (k_days, 121, .inl f_days))] sz) [(h0, .inr (4, [.ref a_given, .ref a_days])), (a_given, .inl (k_given, 121, .inl f_given)), (a_days, .inl (k_days, 121, .inl f_days))]) (va_A [(h0, .inr (4, [.ref a_given, .ref a_days])), (a_given, .inl (k_given, 121, .inl f_given)), (a_days, .inl (k_days, 121, .inl f_days))] sz)) 0 0 (va_A [(h0, .inr (4, [.ref a_given, .ref a_days])), (a_given, .inl (k_given, 121, .inl f_given)), (a_days, .inl (k_days, 121, .inl f_days))] sz) := by
  refine Met.ofW (cc := cX4_inLowestTerms) (maxL := 4) (ret := (some .int)) pnX4 rfl ?_
  intro p e s m args below meth c s₁ B hml hv
  obtain ⟨rfl, hsz, hP, hK, hD0, hN⟩ := hv
  have hx := B.exec
  have hb := B.bytes
  have hr := B.returns
  have htb : ∀ w ∈ bg, w.before [.ref h0, .int v1, .int v2].toArray s = true := fun w h => atoms_spec (ws := Cond.code yX4_inLowestTerms cX4_inLowestTerms 4 (some .int) :: bg) B.pre w (List.mem_cons_of_mem _ h)
  have hown : s.vm.findClass RX4 = some m.cls := findClass_of_methodNamed B.named
  have hlocks := B.notSynchronized
  subst hsz
  have hD := hD0.self (sz := s.heap.size)
  generalize hAe : va_A [(h0, .inr (4, [.ref a_given, .ref a_days])), (a_given, .inl (k_given, 121, .inl f_given)), (a_days, .inl (k_days, 121, .inl f_days))] s.heap.size = A at hD ⊢
  have hA : ∀ q : Nat, s.heap.size ≤ q → A q := fun q h => by rw [← hAe]; exact Or.inr h
  have hS : va_S A s.heap s.heap [] := va_S.rf
  have hl := lv_entry ([.ref h0, .int v1, .int v2]) (n := 4) (Nat.le_of_ble_eq_true rfl)
  rw [lg_entry_eq]
  generalize (lg_sl ([.ref h0, .int v1, .int v2]) ++ List.replicate (4 - (lg_sl ([.ref h0, .int v1, .int v2])).length) Slot.unset).toArray = ls at hl ⊢
  change lv_has ls 4 [(0, .ref h0), (1, .int v1), (2, .int v2)] at hl
  clear hD0 hAe
  refine go0 (wsP := fun H => va_P (dC, dI) vwCl [(h0, .inr (4, [.ref a_given, .ref a_days])), (a_given, .inl (k_given, 121, .inl f_given)), (a_days, .inl (k_days, 121, .inl f_days))] H) hP hS ?_
  clear hP hS; intro H locs hP hS
  change va_P (dC, dI) vwCl [(h0, .inr (4, [.ref a_given, .ref a_days])), (a_given, .inl (k_given, 121, .inl f_given)), (a_days, .inl (k_days, 121, .inl f_days))] H at hP
  refine lv_aload_n hx hb dX4_inLowestTerms_0 rfl (lv_at hl 0 rfl) ?_
  refine va_get (D := (dC, dI)) (ci := 4) (v := .ref a_given) (C := RX4) (T := TX4) (N := 2) hx hb htb iX4 hown hK hP 0 rfl rfl 0 (Nat.le_of_ble_eq_true rfl) (htb _ m_126) (fun _ h9 => h9) rfl dX4_inLowestTerms_1 ?_
  refine lv_iload_n hx hb dX4_inLowestTerms_4 rfl (lv_at hl 2 rfl) ?_
  refine va_iald hx hb hK hP 1 0 rfl rfl (i_in rfl (lg_X4_inLowestTerms_0 v1 v2 yv y1)) dX4_inLowestTerms_5 ?_
  refine lv_topi (fun x_1 ex_2 => ?_)
  have t_3 : x_1.toInt = (f_given (Int32.toNatClampNeg v2)).toInt := by rw [ex_2]
  have t_4 : 0 ≤ x_1.toInt ∧ x_1.toInt ≤ 2000000000 := Rg_ld yrg (i_in rfl (lg_X4_inLowestTerms_1 f_given v1 v2 x_1 yv y1 t_3)) ex_2
  refine lv_aload_n hx hb dX4_inLowestTerms_6 rfl (lv_at hl 0 rfl) ?_
  refine va_get (D := (dC, dI)) (ci := 4) (v := .ref a_days) (C := RX4) (T := TX4) (N := 2) hx hb htb iX4 hown hK hP 0 rfl rfl 1 (Nat.le_of_ble_eq_true rfl) (htb _ m_127) (fun _ h9 => h9) rfl dX4_inLowestTerms_7 ?_
  refine lv_iload_n hx hb dX4_inLowestTerms_10 rfl (lv_at hl 2 rfl) ?_
  refine va_iald hx hb hK hP 2 1 rfl rfl (i_in rfl (lg_X4_inLowestTerms_2 f_given v1 v2 x_1 yv y1 t_3 t_4)) dX4_inLowestTerms_11 ?_
  refine lv_topi (fun x_5 ex_6 => ?_)
  have t_7 : x_5.toInt = (f_days (Int32.toNatClampNeg v2)).toInt := by rw [ex_6]
  have t_8 : 0 ≤ x_5.toInt ∧ x_5.toInt ≤ 2000000000 := Rg_ld yrd (i_in rfl (lg_X4_inLowestTerms_3 f_given f_days v1 v2 x_1 x_5 yv y1 t_3 t_4 t_7)) ex_6
  have hPc := hP.sub (ws' := []) [] rfl
  have hDc := hD.sub (ws' := []) [] (by decide) rfl
  have hKc := hK.sub (tys' := []) [] rfl
  have hFc := va_free (wc := []) hD hS hA [] rfl
  refine va_calli (va_runS (As := [.int x_1, .int x_5]) (rest := []) ⟨hx, hb, hml, hown, htb⟩ (kX4_greatestDivisor l dC dI H.size x_1 x_5 (lg_X4_inLowestTerms_4 f_given f_days v1 v2 x_1 x_5 yv y1 t_3 t_4 t_7 t_8)) ⟨callB_of 2 htb (gd_c m_604) rfl rfl rfl (htb _ m_5) (htb _ m_602) hdX4_greatestDivisor ⟨(Nat.le_of_ble_eq_true rfl), (Nat.le_of_ble_eq_true rfl)⟩, htb _ m_603⟩ ⟨pcW_blind, pcW_at hPc hKc hDc hN⟩ rfl rfl hl.1 rfl (lv_room (Nat.le_of_ble_eq_true rfl)) dX4_inLowestTerms_12 ⟨(Nat.le_of_ble_eq_true rfl), (Nat.le_of_ble_eq_true rfl)⟩) hS (fun q _ h => hFc q h) hFc (fun r_9 u t H1 locs1 ht hvm h_10 hB hz1 hk1 hS1 => ?_)
  obtain ⟨hP1, hK1, hD1⟩ := hB
  rw [ht] at hP1
  obtain ⟨hPn, hDn⟩ := va_join (wr := [(h0, .inr (4, [.ref a_given, .ref a_days])), (a_given, .inl (k_given, 121, .inl f_given)), (a_days, .inl (k_days, 121, .inl f_days))]) (w1 := []) hP hD [] [0, 1, 2] rfl rfl (by decide) (by decide) hk1 hFc hP1 hD1
  clear hP1 hD1 hK1
  clear hP hD hS hPc hDc hKc hFc hk1 hz1 ht hvm
  clear t
  revert hS1 hPn hDn; generalize H1 = H; generalize locs1 = locs; intro hS hP hD
  change va_P (dC, dI) vwCl [(h0, .inr (4, [.ref a_given, .ref a_days])), (a_given, .inl (k_given, 121, .inl f_given)), (a_days, .inl (k_days, 121, .inl f_days))] H at hP
  change va_D A [(h0, .inr (4, [.ref a_given, .ref a_days])), (a_given, .inl (k_given, 121, .inl f_given)), (a_days, .inl (k_days, 121, .inl f_days))] at hD
  have t_11 : r_9.toInt = gcI (f_given (Int32.toNatClampNeg v2)).toInt (f_days (Int32.toNatClampNeg v2)).toInt := by rw [h_10.1, t_3, t_7]
  have t_12 : (f_days (Int32.toNatClampNeg v2)).toInt ≤ 0 ∨ 0 < gcI (f_given (Int32.toNatClampNeg v2)).toInt (f_days (Int32.toNatClampNeg v2)).toInt := gc_pos _ _
  refine lv_istore_n (lv' := [(3, .int r_9), (0, .ref h0), (1, .int v1), (2, .int v2)]) hx hb dX4_inLowestTerms_15 rfl hl (by decide) rfl ?_
  clear hl; intro ls hl
  refine lv_aload_n hx hb dX4_inLowestTerms_16 rfl (lv_at hl 1 rfl) ?_
  refine va_get (D := (dC, dI)) (ci := 4) (v := .ref a_days) (C := RX4) (T := TX4) (N := 2) hx hb htb iX4 hown hK hP 0 rfl rfl 1 (Nat.le_of_ble_eq_true rfl) (htb _ m_127) (fun _ h9 => h9) rfl dX4_inLowestTerms_17 ?_
  refine lv_iload_n hx hb dX4_inLowestTerms_20 rfl (lv_at hl 3 rfl) ?_
  refine va_iald hx hb hK hP 2 1 rfl rfl (i_in rfl (lg_X4_inLowestTerms_5 f_given f_days v1 v2 x_1 x_5 r_9 yv y1 t_3 t_4 t_7 t_8 h_10 t_11 t_12)) dX4_inLowestTerms_21 ?_
  refine lv_topi (fun x_13 ex_14 => ?_)
  have t_15 : x_13.toInt = (f_days (Int32.toNatClampNeg v2)).toInt := by rw [ex_14]
  have t_16 : 0 ≤ x_13.toInt ∧ x_13.toInt ≤ 2000000000 := Rg_ld yrd (i_in rfl (lg_X4_inLowestTerms_6 f_given f_days v1 v2 x_1 x_5 r_9 x_13 yv y1 t_3 t_4 t_7 t_8 h_10 t_11 t_12 t_15)) ex_14
  have t_17 : x_13.toInt = x_5.toInt := by rw [ex_14, ex_6]
  refine lv_if_eq (tgt := 29) hx hb dX4_inLowestTerms_22 (by decide) (fun c_18 => ?_) (fun c_18 => ?_)
  · have t_19 : x_13.toInt = (0 : Int) := i_eq rfl (by decide) c_18
    refine lv_iconst (v := (-1)) hx hb dX4_inLowestTerms_29 (by decide) ?_
    refine lv_goto (tgt := 36) hx hb dX4_inLowestTerms_30 (by decide) ?_
    refine W.widen (k := 0) (n := 0) (Nat.le_of_ble_eq_true rfl) (Nat.le_of_ble_eq_true rfl) ?_
    have hP9 := hP.sub (ws' := [(h0, .inr (4, [.ref a_given, .ref a_days])), (a_given, .inl (k_given, 121, .inl f_given)), (a_days, .inl (k_days, 121, .inl f_days))]) [0, 1, 2] rfl
    have hD9 := hD.sub (ws' := [(h0, .inr (4, [.ref a_given, .ref a_days])), (a_given, .inl (k_given, 121, .inl f_given)), (a_days, .inl (k_days, 121, .inl f_days))]) [0, 1, 2] (by decide) rfl
    have hK9 := hK.sub (tys' := [(k_given, .int), (k_days, .int)]) [0, 1] rfl
    exact W.iret (v := (-1)) hx hb hr (fun t ht hW => ⟨⟨(-1), (), rfl, (lg_X4_inLowestTerms_7 f_given f_days v1 v2 x_1 x_5 r_9 x_13 yv y1 t_3 t_4 t_7 t_8 h_10 t_11 t_12 t_15 t_16 t_17 t_19), ⟨by rw [ht]; exact hP9, va_K.moved hW.alike hK9, hD9⟩⟩, hS.F ht⟩) hS.2.2 dX4_inLowestTerms_36
  · have t_19 : ¬ x_13.toInt = (0 : Int) := i_ne rfl (by decide) c_18
    refine lv_iload_n hx hb dX4_inLowestTerms_25 rfl (lv_at hl 0 rfl) ?_
    refine lv_if_ne (tgt := 33) hx hb dX4_inLowestTerms_26 (by decide) (fun c_20 => ?_) (fun c_20 => ?_)
    · have t_21 : ¬ r_9.toInt = (0 : Int) := i_ne rfl (by decide) c_20
      refine lv_iload_n hx hb dX4_inLowestTerms_33 rfl (lv_at hl 2 rfl) ?_
      refine lv_iload_n hx hb dX4_inLowestTerms_34 rfl (lv_at hl 0 rfl) ?_
      refine lv_idiv hx hb dX4_inLowestTerms_35 (fun q9 => (lg_X4_inLowestTerms_8 f_given f_days v1 v2 x_1 x_5 r_9 x_13 yv y1 t_3 t_4 t_7 t_8 h_10 t_11 t_12 t_15 t_16 t_17 t_19 t_21) (i_eq rfl (by decide) q9)) ?_
      refine lv_topi (fun x_22 ex_23 => ?_)
      have t_24 : x_22.toInt = v1.toInt / gcI (f_given (Int32.toNatClampNeg v2)).toInt (f_days (Int32.toNatClampNeg v2)).toInt := i_div rfl (lg_X4_inLowestTerms_9 f_given f_days v1 v2 x_1 x_5 r_9 x_13 yv y1 t_3 t_4 t_7 t_8 h_10 t_11 t_12 t_15 t_16 t_17 t_19 t_21) (lg_X4_inLowestTerms_10 f_given f_days v1 v2 x_1 x_5 r_9 x_13 yv y1 t_3 t_4 t_7 t_8 h_10 t_11 t_12 t_15 t_16 t_17 t_19 t_21) ex_23
      refine W.widen (k := 0) (n := 0) (Nat.le_of_ble_eq_true rfl) (Nat.le_of_ble_eq_true rfl) ?_
      have hP9 := hP.sub (ws' := [(h0, .inr (4, [.ref a_given, .ref a_days])), (a_given, .inl (k_given, 121, .inl f_given)), (a_days, .inl (k_days, 121, .inl f_days))]) [0, 1, 2] rfl
      have hD9 := hD.sub (ws' := [(h0, .inr (4, [.ref a_given, .ref a_days])), (a_given, .inl (k_given, 121, .inl f_given)), (a_days, .inl (k_days, 121, .inl f_days))]) [0, 1, 2] (by decide) rfl
      have hK9 := hK.sub (tys' := [(k_given, .int), (k_days, .int)]) [0, 1] rfl
      exact W.iret (v := x_22) hx hb hr (fun t ht hW => ⟨⟨x_22, (), rfl, (lg_X4_inLowestTerms_11 f_given f_days v1 v2 x_1 x_5 r_9 x_13 x_22 yv y1 t_3 t_4 t_7 t_8 h_10 t_11 t_12 t_15 t_16 t_17 t_19 t_21 t_24), ⟨by rw [ht]; exact hP9, va_K.moved hW.alike hK9, hD9⟩⟩, hS.F ht⟩) hS.2.2 dX4_inLowestTerms_36
    · have t_21 : r_9.toInt = (0 : Int) := i_eq rfl (by decide) c_20
      refine lv_iconst (v := (-1)) hx hb dX4_inLowestTerms_29 (by decide) ?_
      refine lv_goto (tgt := 36) hx hb dX4_inLowestTerms_30 (by decide) ?_
      refine W.widen (k := 0) (n := 0) (Nat.le_of_ble_eq_true rfl) (Nat.le_of_ble_eq_true rfl) ?_
      have hP9 := hP.sub (ws' := [(h0, .inr (4, [.ref a_given, .ref a_days])), (a_given, .inl (k_given, 121, .inl f_given)), (a_days, .inl (k_days, 121, .inl f_days))]) [0, 1, 2] rfl
      have hD9 := hD.sub (ws' := [(h0, .inr (4, [.ref a_given, .ref a_days])), (a_given, .inl (k_given, 121, .inl f_given)), (a_days, .inl (k_days, 121, .inl f_days))]) [0, 1, 2] (by decide) rfl
      have hK9 := hK.sub (tys' := [(k_given, .int), (k_days, .int)]) [0, 1] rfl
      exact W.iret (v := (-1)) hx hb hr (fun t ht hW => ⟨⟨(-1), (), rfl, (lg_X4_inLowestTerms_12 f_given f_days v1 v2 x_1 x_5 r_9 x_13 yv y1 t_3 t_4 t_7 t_8 h_10 t_11 t_12 t_15 t_16 t_17 t_19 t_21), ⟨by rw [ht]; exact hP9, va_K.moved hW.alike hK9, hD9⟩⟩, hS.F ht⟩) hS.2.2 dX4_inLowestTerms_36

theorem lg_X4_meanUpper_0 (v1 : Int32) (v2 : Int32) (r_1 : Int32) (yw : (-30) ≤ v1.toInt ∧ v1.toInt ≤ 30) (h_2 : r_1.toInt = ((plN v1.toInt v2.toInt : Nat) : Int) ∧ 0 ≤ r_1.toInt ∧ r_1.toInt < 121) : 0 ≤ r_1.toInt ∧ r_1.toInt < ((121 : Nat) : Int) := by
  have := rg_rng v1; have := rg_rng v2; have := rg_rng r_1; omega
theorem lg_X4_meanUpper_1 (f_given : Nat → Int32) (v1 : Int32) (v2 : Int32) (r_1 : Int32) (x_3 : Int32) (yw : (-30) ≤ v1.toInt ∧ v1.toInt ≤ 30) (h_2 : r_1.toInt = ((plN v1.toInt v2.toInt : Nat) : Int) ∧ 0 ≤ r_1.toInt ∧ r_1.toInt < 121) (t_5 : x_3.toInt = (f_given (Int32.toNatClampNeg r_1)).toInt) : 0 ≤ r_1.toInt ∧ r_1.toInt < ((121 : Nat) : Int) := by
  have := rg_rng v1; have := rg_rng v2; have := rg_rng r_1; have := rg_rng x_3; omega
theorem lg_X4_meanUpper_2 (f_given : Nat → Int32) (v1 : Int32) (v2 : Int32) (r_1 : Int32) (x_3 : Int32) (yw : (-30) ≤ v1.toInt ∧ v1.toInt ≤ 30) (h_2 : r_1.toInt = ((plN v1.toInt v2.toInt : Nat) : Int) ∧ 0 ≤ r_1.toInt ∧ r_1.toInt < 121) (t_5 : x_3.toInt = (f_given (Int32.toNatClampNeg r_1)).toInt) (t_6 : 0 ≤ x_3.toInt ∧ x_3.toInt ≤ 2000000000) : 0 ≤ r_1.toInt ∧ r_1.toInt < 121 := by
  have := rg_rng v1; have := rg_rng v2; have := rg_rng r_1; have := rg_rng x_3; omega
theorem lg_X4_meanUpper_3 (f_given : Nat → Int32) (v1 : Int32) (v2 : Int32) (r_1 : Int32) (x_3 : Int32) (yw : (-30) ≤ v1.toInt ∧ v1.toInt ≤ 30) (h_2 : r_1.toInt = ((plN v1.toInt v2.toInt : Nat) : Int) ∧ 0 ≤ r_1.toInt ∧ r_1.toInt < 121) (t_5 : x_3.toInt = (f_given (Int32.toNatClampNeg r_1)).toInt) (t_6 : 0 ≤ x_3.toInt ∧ x_3.toInt ≤ 2000000000) : 0 ≤ x_3.toInt := by
  have := rg_rng v1; have := rg_rng v2; have := rg_rng r_1; have := rg_rng x_3; omega
theorem lg_X4_meanUpper_4 (f_given : Nat → Int32) (f_days : Nat → Int32) (v1 : Int32) (v2 : Int32) (r_1 : Int32) (x_3 : Int32) (r_7 : Int32) (yw : (-30) ≤ v1.toInt ∧ v1.toInt ≤ 30) (h_2 : r_1.toInt = ((plN v1.toInt v2.toInt : Nat) : Int) ∧ 0 ≤ r_1.toInt ∧ r_1.toInt < 121) (t_5 : x_3.toInt = (f_given (Int32.toNatClampNeg r_1)).toInt) (t_6 : 0 ≤ x_3.toInt ∧ x_3.toInt ≤ 2000000000) (h_8 : r_7.toInt = loV x_3.toInt (f_given (Int32.toNatClampNeg r_1)).toInt (f_days (Int32.toNatClampNeg r_1)).toInt) : r_1.toInt = ((plN v1.toInt v2.toInt : Nat) : Int) := by
  have := rg_rng v1; have := rg_rng v2; have := rg_rng r_1; have := rg_rng x_3; have := rg_rng r_7; omega
theorem lg_X4_meanUpper_5 (f_given : Nat → Int32) (f_days : Nat → Int32) (v1 : Int32) (v2 : Int32) (r_1 : Int32) (x_3 : Int32) (r_7 : Int32) (yw : (-30) ≤ v1.toInt ∧ v1.toInt ≤ 30) (h_2 : r_1.toInt = ((plN v1.toInt v2.toInt : Nat) : Int) ∧ 0 ≤ r_1.toInt ∧ r_1.toInt < 121) (t_5 : x_3.toInt = (f_given (Int32.toNatClampNeg r_1)).toInt) (t_6 : 0 ≤ x_3.toInt ∧ x_3.toInt ≤ 2000000000) (h_8 : r_7.toInt = loV x_3.toInt (f_given (Int32.toNatClampNeg r_1)).toInt (f_days (Int32.toNatClampNeg r_1)).toInt) (t_9 : r_7.toInt = loV (f_given (plN v1.toInt v2.toInt)).toInt (f_given (plN v1.toInt v2.toInt)).toInt (f_days (plN v1.toInt v2.toInt)).toInt) : r_7.toInt = loV (f_given (plN v1.toInt v2.toInt)).toInt (f_given (plN v1.toInt v2.toInt)).toInt (f_days (plN v1.toInt v2.toInt)).toInt := by
  have := rg_rng v1; have := rg_rng v2; have := rg_rng r_1; have := rg_rng x_3; have := rg_rng r_7; omega
set_option maxHeartbeats 4000000 in
set_option maxRecDepth 100000 in
theorem kX4_meanUpper (l : Launch) (dC : Nat → ClassId) (dI : Nat → Nat → Nat) (sz : Nat) (h0 : Nat) (a_given : Nat) (a_days : Nat) (k_given : ClassId) (k_days : ClassId) (f_given : Nat → Int32) (f_days : Nat → Int32) (v1 : Int32) (v2 : Int32) (yw : (-30) ≤ v1.toInt ∧ v1.toInt ≤ 30) (yrg : Rg f_given 121 0 2000000000) (yrd : Rg f_days 121 0 2000000000) : Met l yX4_meanUpper (Cond.code yX4_meanUpper cX4_meanUpper 4 (some .int) :: bg) ({ frames := 4, cells := 0, slots := 0, locals := 75 }) (pcW dC dI [.ref h0, .int v1, .int v2] sz [(h0, .inr (4, [.ref a_given, .ref a_days])), (a_given, .inl (k_given, 121, .inl f_given)), (a_days, .inl (k_days, 121, .inl f_days))] [(k_given, .int), (k_days, .int)]) (va_Qi (fun (r : Int32) (u : Unit) => r.toInt = loV (f_given (plN v1.toInt v2.toInt)).toInt (f_given (plN v1.toInt v2.toInt)).toInt (f_days (plN v1.toInt v2.toInt)).toInt) (fun (u : Unit) (t : State) => va_P (dC, dI) vwCl [(h0, .inr (4, [.ref a_given, .ref a_days])), (a_given, .inl (k_given, 121, .inl f_given)), (a_days, .inl (k_days, 121, .inl f_days))] t.heap ∧ va_K (dC, dI) vwCl [(k_given, .int), (k_days, .int)] t ∧ va_D (va_A [(h0, .inr (4, [.ref a_given, .ref a_days])), (a_given, .inl (k_given, 121, .inl f_given)), (a_days, .inl (k_days, 121, .inl f_days))] sz) [(h0, .inr (4, [.ref a_given, .ref a_days])), (a_given, .inl (k_given, 121, .inl f_given)), (a_days, .inl (k_days, 121, .inl f_days))]) (va_A [(h0, .inr (4, [.ref a_given, .ref a_days])), (a_given, .inl (k_given, 121, .inl f_given)), (a_days, .inl (k_days, 121, .inl f_days))] sz)) 0 0 (va_A [(h0, .inr (4, [.ref a_given, .ref a_days])), (a_given, .inl (k_given, 121, .inl f_given)), (a_days, .inl (k_days, 121, .inl f_days))] sz) := by
  refine Met.ofW (cc := cX4_meanUpper) (maxL := 4) (ret := (some .int)) pnX4 rfl ?_
  intro p e s m args below meth c s₁ B hml hv
  obtain ⟨rfl, hsz, hP, hK, hD0, hN⟩ := hv
  have hx := B.exec
  have hb := B.bytes
  have hr := B.returns
  have htb : ∀ w ∈ bg, w.before [.ref h0, .int v1, .int v2].toArray s = true := fun w h => atoms_spec (ws := Cond.code yX4_meanUpper cX4_meanUpper 4 (some .int) :: bg) B.pre w (List.mem_cons_of_mem _ h)
  have hown : s.vm.findClass RX4 = some m.cls := findClass_of_methodNamed B.named
  have hlocks := B.notSynchronized
  subst hsz
  have hD := hD0.self (sz := s.heap.size)
  generalize hAe : va_A [(h0, .inr (4, [.ref a_given, .ref a_days])), (a_given, .inl (k_given, 121, .inl f_given)), (a_days, .inl (k_days, 121, .inl f_days))] s.heap.size = A at hD ⊢
  have hA : ∀ q : Nat, s.heap.size ≤ q → A q := fun q h => by rw [← hAe]; exact Or.inr h
  have hS : va_S A s.heap s.heap [] := va_S.rf
  have hl := lv_entry ([.ref h0, .int v1, .int v2]) (n := 4) (Nat.le_of_ble_eq_true rfl)
  rw [lg_entry_eq]
  generalize (lg_sl ([.ref h0, .int v1, .int v2]) ++ List.replicate (4 - (lg_sl ([.ref h0, .int v1, .int v2])).length) Slot.unset).toArray = ls at hl ⊢
  change lv_has ls 4 [(0, .ref h0), (1, .int v1), (2, .int v2)] at hl
  clear hD0 hAe
  refine go0 (wsP := fun H => va_P (dC, dI) vwCl [(h0, .inr (4, [.ref a_given, .ref a_days])), (a_given, .inl (k_given, 121, .inl f_given)), (a_days, .inl (k_days, 121, .inl f_days))] H) hP hS ?_
  clear hP hS; intro H locs hP hS
  change va_P (dC, dI) vwCl [(h0, .inr (4, [.ref a_given, .ref a_days])), (a_given, .inl (k_given, 121, .inl f_given)), (a_days, .inl (k_days, 121, .inl f_days))] H at hP
  refine lv_iload_n hx hb dX4_meanUpper_0 rfl (lv_at hl 1 rfl) ?_
  refine lv_iload_n hx hb dX4_meanUpper_1 rfl (lv_at hl 2 rfl) ?_
  have hPc := hP.sub (ws' := []) [] rfl
  have hDc := hD.sub (ws' := []) [] (by decide) rfl
  have hKc := hK.sub (tys' := []) [] rfl
  have hFc := va_free (wc := []) hD hS hA [] rfl
  refine va_calli (va_runS (As := [.int v1, .int v2]) (rest := []) ⟨hx, hb, hml, hown, htb⟩ (kX4_placeOf l dC dI H.size v1 v2 yw) ⟨callB_of 2 htb (gd_c m_559) rfl rfl rfl (htb _ m_5) (htb _ m_557) hdX4_placeOf ⟨(Nat.le_of_ble_eq_true rfl), (Nat.le_of_ble_eq_true rfl)⟩, htb _ m_558⟩ ⟨pcW_blind, pcW_at hPc hKc hDc hN⟩ rfl rfl hl.1 rfl (lv_room (Nat.le_of_ble_eq_true rfl)) dX4_meanUpper_2 ⟨(Nat.le_of_ble_eq_true rfl), (Nat.le_of_ble_eq_true rfl)⟩) hS (fun q _ h => hFc q h) hFc (fun r_1 u t H1 locs1 ht hvm h_2 hB hz1 hk1 hS1 => ?_)
  obtain ⟨hP1, hK1, hD1⟩ := hB
  rw [ht] at hP1
  obtain ⟨hPn, hDn⟩ := va_join (wr := [(h0, .inr (4, [.ref a_given, .ref a_days])), (a_given, .inl (k_given, 121, .inl f_given)), (a_days, .inl (k_days, 121, .inl f_days))]) (w1 := []) hP hD [] [0, 1, 2] rfl rfl (by decide) (by decide) hk1 hFc hP1 hD1
  clear hP1 hD1 hK1
  clear hP hD hS hPc hDc hKc hFc hk1 hz1 ht hvm
  clear t
  revert hS1 hPn hDn; generalize H1 = H; generalize locs1 = locs; intro hS hP hD
  change va_P (dC, dI) vwCl [(h0, .inr (4, [.ref a_given, .ref a_days])), (a_given, .inl (k_given, 121, .inl f_given)), (a_days, .inl (k_days, 121, .inl f_days))] H at hP
  change va_D A [(h0, .inr (4, [.ref a_given, .ref a_days])), (a_given, .inl (k_given, 121, .inl f_given)), (a_days, .inl (k_days, 121, .inl f_days))] at hD
  refine lv_istore_n (lv' := [(3, .int r_1), (0, .ref h0), (1, .int v1), (2, .int v2)]) hx hb dX4_meanUpper_5 rfl hl (by decide) rfl ?_
  clear hl; intro ls hl
  refine lv_aload_n hx hb dX4_meanUpper_6 rfl (lv_at hl 1 rfl) ?_
  refine lv_aload_n hx hb dX4_meanUpper_7 rfl (lv_at hl 1 rfl) ?_
  refine va_get (D := (dC, dI)) (ci := 4) (v := .ref a_given) (C := RX4) (T := TX4) (N := 2) hx hb htb iX4 hown hK hP 0 rfl rfl 0 (Nat.le_of_ble_eq_true rfl) (htb _ m_126) (fun _ h9 => h9) rfl dX4_meanUpper_8 ?_
  refine lv_iload_n hx hb dX4_meanUpper_11 rfl (lv_at hl 0 rfl) ?_
  refine va_iald hx hb hK hP 1 0 rfl rfl (i_in rfl (lg_X4_meanUpper_0 v1 v2 r_1 yw h_2)) dX4_meanUpper_12 ?_
  refine lv_topi (fun x_3 ex_4 => ?_)
  have t_5 : x_3.toInt = (f_given (Int32.toNatClampNeg r_1)).toInt := by rw [ex_4]
  have t_6 : 0 ≤ x_3.toInt ∧ x_3.toInt ≤ 2000000000 := Rg_ld yrg (i_in rfl (lg_X4_meanUpper_1 f_given v1 v2 r_1 x_3 yw h_2 t_5)) ex_4
  refine lv_iload_n hx hb dX4_meanUpper_13 rfl (lv_at hl 0 rfl) ?_
  have hPc := hP.sub (ws' := [(h0, .inr (4, [.ref a_given, .ref a_days])), (a_given, .inl (k_given, 121, .inl f_given)), (a_days, .inl (k_days, 121, .inl f_days))]) [0, 1, 2] rfl
  have hDc := hD.sub (ws' := [(h0, .inr (4, [.ref a_given, .ref a_days])), (a_given, .inl (k_given, 121, .inl f_given)), (a_days, .inl (k_days, 121, .inl f_days))]) [0, 1, 2] (by decide) rfl
  have hKc := hK.sub (tys' := [(k_given, .int), (k_days, .int)]) [0, 1] rfl
  have hFc := va_free (wc := [(h0, .inr (4, [.ref a_given, .ref a_days])), (a_given, .inl (k_given, 121, .inl f_given)), (a_days, .inl (k_days, 121, .inl f_days))]) hD hS hA [0, 1, 2] rfl
  refine va_calli (va_runV (C := RX4) (As := [.int x_3, .int r_1]) (rest := []) ⟨hx, hb, hml, hown, htb⟩ (kX4_inLowestTerms l dC dI H.size h0 a_given a_days k_given k_days f_given f_days x_3 r_1 (lg_X4_meanUpper_2 f_given v1 v2 r_1 x_3 yw h_2 t_5 t_6) (lg_X4_meanUpper_3 f_given v1 v2 r_1 x_3 yw h_2 t_5 t_6) yrg yrd) ⟨callB_of 2 htb (gd_c m_601) rfl rfl rfl (htb _ m_5) (htb _ m_598) hdX4_inLowestTerms ⟨(Nat.le_of_ble_eq_true rfl), (Nat.le_of_ble_eq_true rfl)⟩, htb _ m_600, htb _ ms_6⟩ ⟨pcW_blind, va_recv hKc hPc (ci := 4) (q0 := 0) rfl rfl, pcW_at hPc hKc hDc hN⟩ rfl rfl hl.1 rfl (lv_room (Nat.le_of_ble_eq_true rfl)) dX4_meanUpper_14 ⟨(Nat.le_of_ble_eq_true rfl), (Nat.le_of_ble_eq_true rfl)⟩) hS (fun q _ h => hFc q h) hFc (fun r_7 u t H1 locs1 ht hvm h_8 hB hz1 hk1 hS1 => ?_)
  obtain ⟨hP1, hK1, hD1⟩ := hB
  rw [ht] at hP1
  obtain ⟨hPn, hDn⟩ := va_join (wr := []) (w1 := [(h0, .inr (4, [.ref a_given, .ref a_days])), (a_given, .inl (k_given, 121, .inl f_given)), (a_days, .inl (k_days, 121, .inl f_days))]) hP hD [0, 1, 2] [] rfl rfl (by decide) (by decide) hk1 hFc hP1 hD1
  clear hP1 hD1 hK1
  clear hP hD hS hPc hDc hKc hFc hk1 hz1 ht hvm
  clear t
  revert hS1 hPn hDn; generalize H1 = H; generalize locs1 = locs; intro hS hP hD
  change va_P (dC, dI) vwCl [(h0, .inr (4, [.ref a_given, .ref a_days])), (a_given, .inl (k_given, 121, .inl f_given)), (a_days, .inl (k_days, 121, .inl f_days))] H at hP
  change va_D A [(h0, .inr (4, [.ref a_given, .ref a_days])), (a_given, .inl (k_given, 121, .inl f_given)), (a_days, .inl (k_days, 121, .inl f_days))] at hD
  have t_9 : r_7.toInt = loV (f_given (plN v1.toInt v2.toInt)).toInt (f_given (plN v1.toInt v2.toInt)).toInt (f_days (plN v1.toInt v2.toInt)).toInt := by rw [h_8, t_5, cl_n (lg_X4_meanUpper_4 f_given f_days v1 v2 r_1 x_3 r_7 yw h_2 t_5 t_6 h_8)]
  refine W.widen (k := 0) (n := 0) (Nat.le_of_ble_eq_true rfl) (Nat.le_of_ble_eq_true rfl) ?_
  have hP9 := hP.sub (ws' := [(h0, .inr (4, [.ref a_given, .ref a_days])), (a_given, .inl (k_given, 121, .inl f_given)), (a_days, .inl (k_days, 121, .inl f_days))]) [0, 1, 2] rfl
  have hD9 := hD.sub (ws' := [(h0, .inr (4, [.ref a_given, .ref a_days])), (a_given, .inl (k_given, 121, .inl f_given)), (a_days, .inl (k_days, 121, .inl f_days))]) [0, 1, 2] (by decide) rfl
  have hK9 := hK.sub (tys' := [(k_given, .int), (k_days, .int)]) [0, 1] rfl
  exact W.iret (v := r_7) hx hb hr (fun t ht hW => ⟨⟨r_7, (), rfl, (lg_X4_meanUpper_5 f_given f_days v1 v2 r_1 x_3 r_7 yw h_2 t_5 t_6 h_8 t_9), ⟨by rw [ht]; exact hP9, va_K.moved hW.alike hK9, hD9⟩⟩, hS.F ht⟩) hS.2.2 dX4_meanUpper_17

theorem lg_X4_meanLower_0 (v1 : Int32) (v2 : Int32) (r_1 : Int32) (yw : (-30) ≤ v1.toInt ∧ v1.toInt ≤ 30) (h_2 : r_1.toInt = ((plN v1.toInt v2.toInt : Nat) : Int) ∧ 0 ≤ r_1.toInt ∧ r_1.toInt < 121) : 0 ≤ r_1.toInt ∧ r_1.toInt < ((121 : Nat) : Int) := by
  have := rg_rng v1; have := rg_rng v2; have := rg_rng r_1; omega
theorem lg_X4_meanLower_1 (f_days : Nat → Int32) (v1 : Int32) (v2 : Int32) (r_1 : Int32) (x_3 : Int32) (yw : (-30) ≤ v1.toInt ∧ v1.toInt ≤ 30) (h_2 : r_1.toInt = ((plN v1.toInt v2.toInt : Nat) : Int) ∧ 0 ≤ r_1.toInt ∧ r_1.toInt < 121) (t_5 : x_3.toInt = (f_days (Int32.toNatClampNeg r_1)).toInt) : 0 ≤ r_1.toInt ∧ r_1.toInt < ((121 : Nat) : Int) := by
  have := rg_rng v1; have := rg_rng v2; have := rg_rng r_1; have := rg_rng x_3; omega
theorem lg_X4_meanLower_2 (f_days : Nat → Int32) (v1 : Int32) (v2 : Int32) (r_1 : Int32) (x_3 : Int32) (yw : (-30) ≤ v1.toInt ∧ v1.toInt ≤ 30) (h_2 : r_1.toInt = ((plN v1.toInt v2.toInt : Nat) : Int) ∧ 0 ≤ r_1.toInt ∧ r_1.toInt < 121) (t_5 : x_3.toInt = (f_days (Int32.toNatClampNeg r_1)).toInt) (t_6 : 0 ≤ x_3.toInt ∧ x_3.toInt ≤ 2000000000) : 0 ≤ r_1.toInt ∧ r_1.toInt < 121 := by
  have := rg_rng v1; have := rg_rng v2; have := rg_rng r_1; have := rg_rng x_3; omega
theorem lg_X4_meanLower_3 (f_days : Nat → Int32) (v1 : Int32) (v2 : Int32) (r_1 : Int32) (x_3 : Int32) (yw : (-30) ≤ v1.toInt ∧ v1.toInt ≤ 30) (h_2 : r_1.toInt = ((plN v1.toInt v2.toInt : Nat) : Int) ∧ 0 ≤ r_1.toInt ∧ r_1.toInt < 121) (t_5 : x_3.toInt = (f_days (Int32.toNatClampNeg r_1)).toInt) (t_6 : 0 ≤ x_3.toInt ∧ x_3.toInt ≤ 2000000000) : 0 ≤ x_3.toInt := by
  have := rg_rng v1; have := rg_rng v2; have := rg_rng r_1; have := rg_rng x_3; omega
theorem lg_X4_meanLower_4 (f_given : Nat → Int32) (f_days : Nat → Int32) (v1 : Int32) (v2 : Int32) (r_1 : Int32) (x_3 : Int32) (r_7 : Int32) (yw : (-30) ≤ v1.toInt ∧ v1.toInt ≤ 30) (h_2 : r_1.toInt = ((plN v1.toInt v2.toInt : Nat) : Int) ∧ 0 ≤ r_1.toInt ∧ r_1.toInt < 121) (t_5 : x_3.toInt = (f_days (Int32.toNatClampNeg r_1)).toInt) (t_6 : 0 ≤ x_3.toInt ∧ x_3.toInt ≤ 2000000000) (h_8 : r_7.toInt = loV x_3.toInt (f_given (Int32.toNatClampNeg r_1)).toInt (f_days (Int32.toNatClampNeg r_1)).toInt) : r_1.toInt = ((plN v1.toInt v2.toInt : Nat) : Int) := by
  have := rg_rng v1; have := rg_rng v2; have := rg_rng r_1; have := rg_rng x_3; have := rg_rng r_7; omega
theorem lg_X4_meanLower_5 (f_given : Nat → Int32) (f_days : Nat → Int32) (v1 : Int32) (v2 : Int32) (r_1 : Int32) (x_3 : Int32) (r_7 : Int32) (yw : (-30) ≤ v1.toInt ∧ v1.toInt ≤ 30) (h_2 : r_1.toInt = ((plN v1.toInt v2.toInt : Nat) : Int) ∧ 0 ≤ r_1.toInt ∧ r_1.toInt < 121) (t_5 : x_3.toInt = (f_days (Int32.toNatClampNeg r_1)).toInt) (t_6 : 0 ≤ x_3.toInt ∧ x_3.toInt ≤ 2000000000) (h_8 : r_7.toInt = loV x_3.toInt (f_given (Int32.toNatClampNeg r_1)).toInt (f_days (Int32.toNatClampNeg r_1)).toInt) (t_9 : r_7.toInt = loV (f_days (plN v1.toInt v2.toInt)).toInt (f_given (plN v1.toInt v2.toInt)).toInt (f_days (plN v1.toInt v2.toInt)).toInt) : r_7.toInt = loV (f_days (plN v1.toInt v2.toInt)).toInt (f_given (plN v1.toInt v2.toInt)).toInt (f_days (plN v1.toInt v2.toInt)).toInt := by
  have := rg_rng v1; have := rg_rng v2; have := rg_rng r_1; have := rg_rng x_3; have := rg_rng r_7; omega
set_option maxHeartbeats 4000000 in
set_option maxRecDepth 100000 in
theorem kX4_meanLower (l : Launch) (dC : Nat → ClassId) (dI : Nat → Nat → Nat) (sz : Nat) (h0 : Nat) (a_given : Nat) (a_days : Nat) (k_given : ClassId) (k_days : ClassId) (f_given : Nat → Int32) (f_days : Nat → Int32) (v1 : Int32) (v2 : Int32) (yw : (-30) ≤ v1.toInt ∧ v1.toInt ≤ 30) (yrg : Rg f_given 121 0 2000000000) (yrd : Rg f_days 121 0 2000000000) : Met l yX4_meanLower (Cond.code yX4_meanLower cX4_meanLower 4 (some .int) :: bg) ({ frames := 4, cells := 0, slots := 0, locals := 75 }) (pcW dC dI [.ref h0, .int v1, .int v2] sz [(h0, .inr (4, [.ref a_given, .ref a_days])), (a_given, .inl (k_given, 121, .inl f_given)), (a_days, .inl (k_days, 121, .inl f_days))] [(k_given, .int), (k_days, .int)]) (va_Qi (fun (r : Int32) (u : Unit) => r.toInt = loV (f_days (plN v1.toInt v2.toInt)).toInt (f_given (plN v1.toInt v2.toInt)).toInt (f_days (plN v1.toInt v2.toInt)).toInt) (fun (u : Unit) (t : State) => va_P (dC, dI) vwCl [(h0, .inr (4, [.ref a_given, .ref a_days])), (a_given, .inl (k_given, 121, .inl f_given)), (a_days, .inl (k_days, 121, .inl f_days))] t.heap ∧ va_K (dC, dI) vwCl [(k_given, .int), (k_days, .int)] t ∧ va_D (va_A [(h0, .inr (4, [.ref a_given, .ref a_days])), (a_given, .inl (k_given, 121, .inl f_given)), (a_days, .inl (k_days, 121, .inl f_days))] sz) [(h0, .inr (4, [.ref a_given, .ref a_days])), (a_given, .inl (k_given, 121, .inl f_given)), (a_days, .inl (k_days, 121, .inl f_days))]) (va_A [(h0, .inr (4, [.ref a_given, .ref a_days])), (a_given, .inl (k_given, 121, .inl f_given)), (a_days, .inl (k_days, 121, .inl f_days))] sz)) 0 0 (va_A [(h0, .inr (4, [.ref a_given, .ref a_days])), (a_given, .inl (k_given, 121, .inl f_given)), (a_days, .inl (k_days, 121, .inl f_days))] sz) := by
  refine Met.ofW (cc := cX4_meanLower) (maxL := 4) (ret := (some .int)) pnX4 rfl ?_
  intro p e s m args below meth c s₁ B hml hv
  obtain ⟨rfl, hsz, hP, hK, hD0, hN⟩ := hv
  have hx := B.exec
  have hb := B.bytes
  have hr := B.returns
  have htb : ∀ w ∈ bg, w.before [.ref h0, .int v1, .int v2].toArray s = true := fun w h => atoms_spec (ws := Cond.code yX4_meanLower cX4_meanLower 4 (some .int) :: bg) B.pre w (List.mem_cons_of_mem _ h)
  have hown : s.vm.findClass RX4 = some m.cls := findClass_of_methodNamed B.named
  have hlocks := B.notSynchronized
  subst hsz
  have hD := hD0.self (sz := s.heap.size)
  generalize hAe : va_A [(h0, .inr (4, [.ref a_given, .ref a_days])), (a_given, .inl (k_given, 121, .inl f_given)), (a_days, .inl (k_days, 121, .inl f_days))] s.heap.size = A at hD ⊢
  have hA : ∀ q : Nat, s.heap.size ≤ q → A q := fun q h => by rw [← hAe]; exact Or.inr h
  have hS : va_S A s.heap s.heap [] := va_S.rf
  have hl := lv_entry ([.ref h0, .int v1, .int v2]) (n := 4) (Nat.le_of_ble_eq_true rfl)
  rw [lg_entry_eq]
  generalize (lg_sl ([.ref h0, .int v1, .int v2]) ++ List.replicate (4 - (lg_sl ([.ref h0, .int v1, .int v2])).length) Slot.unset).toArray = ls at hl ⊢
  change lv_has ls 4 [(0, .ref h0), (1, .int v1), (2, .int v2)] at hl
  clear hD0 hAe
  refine go0 (wsP := fun H => va_P (dC, dI) vwCl [(h0, .inr (4, [.ref a_given, .ref a_days])), (a_given, .inl (k_given, 121, .inl f_given)), (a_days, .inl (k_days, 121, .inl f_days))] H) hP hS ?_
  clear hP hS; intro H locs hP hS
  change va_P (dC, dI) vwCl [(h0, .inr (4, [.ref a_given, .ref a_days])), (a_given, .inl (k_given, 121, .inl f_given)), (a_days, .inl (k_days, 121, .inl f_days))] H at hP
  refine lv_iload_n hx hb dX4_meanLower_0 rfl (lv_at hl 1 rfl) ?_
  refine lv_iload_n hx hb dX4_meanLower_1 rfl (lv_at hl 2 rfl) ?_
  have hPc := hP.sub (ws' := []) [] rfl
  have hDc := hD.sub (ws' := []) [] (by decide) rfl
  have hKc := hK.sub (tys' := []) [] rfl
  have hFc := va_free (wc := []) hD hS hA [] rfl
  refine va_calli (va_runS (As := [.int v1, .int v2]) (rest := []) ⟨hx, hb, hml, hown, htb⟩ (kX4_placeOf l dC dI H.size v1 v2 yw) ⟨callB_of 2 htb (gd_c m_559) rfl rfl rfl (htb _ m_5) (htb _ m_557) hdX4_placeOf ⟨(Nat.le_of_ble_eq_true rfl), (Nat.le_of_ble_eq_true rfl)⟩, htb _ m_558⟩ ⟨pcW_blind, pcW_at hPc hKc hDc hN⟩ rfl rfl hl.1 rfl (lv_room (Nat.le_of_ble_eq_true rfl)) dX4_meanLower_2 ⟨(Nat.le_of_ble_eq_true rfl), (Nat.le_of_ble_eq_true rfl)⟩) hS (fun q _ h => hFc q h) hFc (fun r_1 u t H1 locs1 ht hvm h_2 hB hz1 hk1 hS1 => ?_)
  obtain ⟨hP1, hK1, hD1⟩ := hB
  rw [ht] at hP1
  obtain ⟨hPn, hDn⟩ := va_join (wr := [(h0, .inr (4, [.ref a_given, .ref a_days])), (a_given, .inl (k_given, 121, .inl f_given)), (a_days, .inl (k_days, 121, .inl f_days))]) (w1 := []) hP hD [] [0, 1, 2] rfl rfl (by decide) (by decide) hk1 hFc hP1 hD1
  clear hP1 hD1 hK1
  clear hP hD hS hPc hDc hKc hFc hk1 hz1 ht hvm
  clear t
  revert hS1 hPn hDn; generalize H1 = H; generalize locs1 = locs; intro hS hP hD
  change va_P (dC, dI) vwCl [(h0, .inr (4, [.ref a_given, .ref a_days])), (a_given, .inl (k_given, 121, .inl f_given)), (a_days, .inl (k_days, 121, .inl f_days))] H at hP
  change va_D A [(h0, .inr (4, [.ref a_given, .ref a_days])), (a_given, .inl (k_given, 121, .inl f_given)), (a_days, .inl (k_days, 121, .inl f_days))] at hD
  refine lv_istore_n (lv' := [(3, .int r_1), (0, .ref h0), (1, .int v1), (2, .int v2)]) hx hb dX4_meanLower_5 rfl hl (by decide) rfl ?_
  clear hl; intro ls hl
  refine lv_aload_n hx hb dX4_meanLower_6 rfl (lv_at hl 1 rfl) ?_
  refine lv_aload_n hx hb dX4_meanLower_7 rfl (lv_at hl 1 rfl) ?_
  refine va_get (D := (dC, dI)) (ci := 4) (v := .ref a_days) (C := RX4) (T := TX4) (N := 2) hx hb htb iX4 hown hK hP 0 rfl rfl 1 (Nat.le_of_ble_eq_true rfl) (htb _ m_127) (fun _ h9 => h9) rfl dX4_meanLower_8 ?_
  refine lv_iload_n hx hb dX4_meanLower_11 rfl (lv_at hl 0 rfl) ?_
  refine va_iald hx hb hK hP 2 1 rfl rfl (i_in rfl (lg_X4_meanLower_0 v1 v2 r_1 yw h_2)) dX4_meanLower_12 ?_
  refine lv_topi (fun x_3 ex_4 => ?_)
  have t_5 : x_3.toInt = (f_days (Int32.toNatClampNeg r_1)).toInt := by rw [ex_4]
  have t_6 : 0 ≤ x_3.toInt ∧ x_3.toInt ≤ 2000000000 := Rg_ld yrd (i_in rfl (lg_X4_meanLower_1 f_days v1 v2 r_1 x_3 yw h_2 t_5)) ex_4
  refine lv_iload_n hx hb dX4_meanLower_13 rfl (lv_at hl 0 rfl) ?_
  have hPc := hP.sub (ws' := [(h0, .inr (4, [.ref a_given, .ref a_days])), (a_given, .inl (k_given, 121, .inl f_given)), (a_days, .inl (k_days, 121, .inl f_days))]) [0, 1, 2] rfl
  have hDc := hD.sub (ws' := [(h0, .inr (4, [.ref a_given, .ref a_days])), (a_given, .inl (k_given, 121, .inl f_given)), (a_days, .inl (k_days, 121, .inl f_days))]) [0, 1, 2] (by decide) rfl
  have hKc := hK.sub (tys' := [(k_given, .int), (k_days, .int)]) [0, 1] rfl
  have hFc := va_free (wc := [(h0, .inr (4, [.ref a_given, .ref a_days])), (a_given, .inl (k_given, 121, .inl f_given)), (a_days, .inl (k_days, 121, .inl f_days))]) hD hS hA [0, 1, 2] rfl
  refine va_calli (va_runV (C := RX4) (As := [.int x_3, .int r_1]) (rest := []) ⟨hx, hb, hml, hown, htb⟩ (kX4_inLowestTerms l dC dI H.size h0 a_given a_days k_given k_days f_given f_days x_3 r_1 (lg_X4_meanLower_2 f_days v1 v2 r_1 x_3 yw h_2 t_5 t_6) (lg_X4_meanLower_3 f_days v1 v2 r_1 x_3 yw h_2 t_5 t_6) yrg yrd) ⟨callB_of 2 htb (gd_c m_601) rfl rfl rfl (htb _ m_5) (htb _ m_598) hdX4_inLowestTerms ⟨(Nat.le_of_ble_eq_true rfl), (Nat.le_of_ble_eq_true rfl)⟩, htb _ m_600, htb _ ms_6⟩ ⟨pcW_blind, va_recv hKc hPc (ci := 4) (q0 := 0) rfl rfl, pcW_at hPc hKc hDc hN⟩ rfl rfl hl.1 rfl (lv_room (Nat.le_of_ble_eq_true rfl)) dX4_meanLower_14 ⟨(Nat.le_of_ble_eq_true rfl), (Nat.le_of_ble_eq_true rfl)⟩) hS (fun q _ h => hFc q h) hFc (fun r_7 u t H1 locs1 ht hvm h_8 hB hz1 hk1 hS1 => ?_)
  obtain ⟨hP1, hK1, hD1⟩ := hB
  rw [ht] at hP1
  obtain ⟨hPn, hDn⟩ := va_join (wr := []) (w1 := [(h0, .inr (4, [.ref a_given, .ref a_days])), (a_given, .inl (k_given, 121, .inl f_given)), (a_days, .inl (k_days, 121, .inl f_days))]) hP hD [0, 1, 2] [] rfl rfl (by decide) (by decide) hk1 hFc hP1 hD1
  clear hP1 hD1 hK1
  clear hP hD hS hPc hDc hKc hFc hk1 hz1 ht hvm
  clear t
  revert hS1 hPn hDn; generalize H1 = H; generalize locs1 = locs; intro hS hP hD
  change va_P (dC, dI) vwCl [(h0, .inr (4, [.ref a_given, .ref a_days])), (a_given, .inl (k_given, 121, .inl f_given)), (a_days, .inl (k_days, 121, .inl f_days))] H at hP
  change va_D A [(h0, .inr (4, [.ref a_given, .ref a_days])), (a_given, .inl (k_given, 121, .inl f_given)), (a_days, .inl (k_days, 121, .inl f_days))] at hD
  have t_9 : r_7.toInt = loV (f_days (plN v1.toInt v2.toInt)).toInt (f_given (plN v1.toInt v2.toInt)).toInt (f_days (plN v1.toInt v2.toInt)).toInt := by rw [h_8, t_5, cl_n (lg_X4_meanLower_4 f_given f_days v1 v2 r_1 x_3 r_7 yw h_2 t_5 t_6 h_8)]
  refine W.widen (k := 0) (n := 0) (Nat.le_of_ble_eq_true rfl) (Nat.le_of_ble_eq_true rfl) ?_
  have hP9 := hP.sub (ws' := [(h0, .inr (4, [.ref a_given, .ref a_days])), (a_given, .inl (k_given, 121, .inl f_given)), (a_days, .inl (k_days, 121, .inl f_days))]) [0, 1, 2] rfl
  have hD9 := hD.sub (ws' := [(h0, .inr (4, [.ref a_given, .ref a_days])), (a_given, .inl (k_given, 121, .inl f_given)), (a_days, .inl (k_days, 121, .inl f_days))]) [0, 1, 2] (by decide) rfl
  have hK9 := hK.sub (tys' := [(k_given, .int), (k_days, .int)]) [0, 1] rfl
  exact W.iret (v := r_7) hx hb hr (fun t ht hW => ⟨⟨r_7, (), rfl, (lg_X4_meanLower_5 f_given f_days v1 v2 r_1 x_3 r_7 yw h_2 t_5 t_6 h_8 t_9), ⟨by rw [ht]; exact hP9, va_K.moved hW.alike hK9, hD9⟩⟩, hS.F ht⟩) hS.2.2 dX4_meanLower_17

set_option maxHeartbeats 4000000 in
set_option maxRecDepth 100000 in
theorem kX1_forgetYear (l : Launch) (dC : Nat → ClassId) (dI : Nat → Nat → Nat) (sz : Nat) (h0 : Nat) (o_came : Nat) (o_coins : Nat) (o_rem : Nat) (k_came : ClassId) (f_came : Nat → Int32) : Met l yX1_forgetYear (Cond.code yX1_forgetYear cX1_forgetYear 1 none :: bg) ({ frames := 1, cells := 0, slots := 0, locals := 23 }) (pcW dC dI [.ref h0] sz [(h0, .inr (1, [.ref o_came, .ref o_coins, .ref o_rem])), (o_came, .inl (k_came, 10, .inl f_came))] [(k_came, .int)]) (va_Qv (fun (u : Unit) => True) (fun (u : Unit) (t : State) => ∃ (w_came : Nat → Int32), va_P (dC, dI) vwCl [(h0, .inr (1, [.ref o_came, .ref o_coins, .ref o_rem])), (o_came, .inl (k_came, 10, .inl w_came))] t.heap ∧ va_K (dC, dI) vwCl [] t ∧ va_D (va_A [(h0, .inr (1, [.ref o_came, .ref o_coins, .ref o_rem])), (o_came, .inl (k_came, 10, .inl f_came))] sz) [(h0, .inr (1, [.ref o_came, .ref o_coins, .ref o_rem])), (o_came, .inl (k_came, 10, .inl w_came))]) (va_A [(h0, .inr (1, [.ref o_came, .ref o_coins, .ref o_rem])), (o_came, .inl (k_came, 10, .inl f_came))] sz)) 0 0 (va_A [(h0, .inr (1, [.ref o_came, .ref o_coins, .ref o_rem])), (o_came, .inl (k_came, 10, .inl f_came))] sz) := by
  refine Met.ofW (cc := cX1_forgetYear) (maxL := 1) (ret := none) pnX1 rfl ?_
  intro p e s m args below meth c s₁ B hml hv
  obtain ⟨rfl, hsz, hP, hK, hD0, hN⟩ := hv
  have hx := B.exec
  have hb := B.bytes
  have hr := B.returns
  have htb : ∀ w ∈ bg, w.before [.ref h0].toArray s = true := fun w h => atoms_spec (ws := Cond.code yX1_forgetYear cX1_forgetYear 1 none :: bg) B.pre w (List.mem_cons_of_mem _ h)
  have hown : s.vm.findClass RX1 = some m.cls := findClass_of_methodNamed B.named
  have hlocks := B.notSynchronized
  subst hsz
  have hD := hD0.self (sz := s.heap.size)
  generalize hAe : va_A [(h0, .inr (1, [.ref o_came, .ref o_coins, .ref o_rem])), (o_came, .inl (k_came, 10, .inl f_came))] s.heap.size = A at hD ⊢
  have hA : ∀ q : Nat, s.heap.size ≤ q → A q := fun q h => by rw [← hAe]; exact Or.inr h
  have hS : va_S A s.heap s.heap [] := va_S.rf
  have hl := lv_entry ([.ref h0]) (n := 1) (Nat.le_of_ble_eq_true rfl)
  rw [lg_entry_eq]
  generalize (lg_sl ([.ref h0]) ++ List.replicate (1 - (lg_sl ([.ref h0])).length) Slot.unset).toArray = ls at hl ⊢
  change lv_has ls 1 [(0, .ref h0)] at hl
  clear hD0 hAe
  refine go0 (wsP := fun H => va_P (dC, dI) vwCl [(h0, .inr (1, [.ref o_came, .ref o_coins, .ref o_rem])), (o_came, .inl (k_came, 10, .inl f_came))] H) hP hS ?_
  clear hP hS; intro H locs hP hS
  change va_P (dC, dI) vwCl [(h0, .inr (1, [.ref o_came, .ref o_coins, .ref o_rem])), (o_came, .inl (k_came, 10, .inl f_came))] H at hP
  refine lv_aload_n hx hb dX1_forgetYear_0 rfl (lv_at hl 0 rfl) ?_
  refine va_get (D := (dC, dI)) (ci := 1) (v := .ref o_came) (C := RX1) (T := TX1) (N := 3) hx hb htb iX1 hown hK hP 0 rfl rfl 0 (Nat.le_of_ble_eq_true rfl) (htb _ m_219) (fun _ h9 => h9) rfl dX1_forgetYear_1 ?_
  refine lv_iconst (v := 0) hx hb dX1_forgetYear_4 (by decide) ?_
  have hPc := hP.sub (ws' := [(o_came, .inl (k_came, 10, .inl f_came))]) [1] rfl
  have hDc := hD.sub (ws' := [(o_came, .inl (k_came, 10, .inl f_came))]) [1] (by decide) rfl
  have hKc := hK.sub (tys' := [(k_came, .int)]) [0] rfl
  have hFc := va_free (wc := [(o_came, .inl (k_came, 10, .inl f_came))]) hD hS hA [1] rfl
  refine va_callv (va_runS (As := [.ref o_came, .int 0]) (rest := []) ⟨hx, hb, hml, hown, htb⟩ (kJ7_fill_53178 l dC dI H.size o_came k_came 10 f_came 0 (by decide)) ⟨callB_of 2 htb (gd_c m_576) rfl rfl rfl (htb _ m_15) (htb _ m_581) hdJ7_fill_53178 ⟨(Nat.le_of_ble_eq_true rfl), (Nat.le_of_ble_eq_true rfl)⟩, htb _ m_575⟩ ⟨pcW_blind, pcW_at hPc hKc hDc hN⟩ rfl rfl hl.1 rfl (lv_room (Nat.le_of_ble_eq_true rfl)) dX1_forgetYear_5 ⟨(Nat.le_of_ble_eq_true rfl), (Nat.le_of_ble_eq_true rfl)⟩) hS (fun q _ h => hFc q h) hFc (fun u t H1 locs1 ht hvm h_2 hB hz1 hk1 hS1 => ?_)
  obtain ⟨w_f_3, hP1, hK1, hD1⟩ := hB
  rw [ht] at hP1
  obtain ⟨hPn, hDn⟩ := va_join (wr := [(h0, .inr (1, [.ref o_came, .ref o_coins, .ref o_rem]))]) (w1 := [(o_came, .inl (k_came, 10, .inl w_f_3))]) hP hD [1] [0] rfl rfl (by decide) (by decide) hk1 hFc hP1 hD1
  clear hP1 hD1 hK1
  clear hP hD hS hPc hDc hKc hFc hk1 hz1 ht hvm
  clear t
  revert hS1 hPn hDn; generalize H1 = H; generalize locs1 = locs; intro hS hP hD
  change va_P (dC, dI) vwCl [(h0, .inr (1, [.ref o_came, .ref o_coins, .ref o_rem])), (o_came, .inl (k_came, 10, .inl w_f_3))] H at hP
  change va_D A [(h0, .inr (1, [.ref o_came, .ref o_coins, .ref o_rem])), (o_came, .inl (k_came, 10, .inl w_f_3))] at hD
  refine W.widen (k := 0) (n := 0) (Nat.le_of_ble_eq_true rfl) (Nat.le_of_ble_eq_true rfl) ?_
  have hP9 := hP.sub (ws' := [(h0, .inr (1, [.ref o_came, .ref o_coins, .ref o_rem])), (o_came, .inl (k_came, 10, .inl w_f_3))]) [0, 1] rfl
  have hD9 := hD.sub (ws' := [(h0, .inr (1, [.ref o_came, .ref o_coins, .ref o_rem])), (o_came, .inl (k_came, 10, .inl w_f_3))]) [0, 1] (by decide) rfl
  have hK9 := hK.sub (tys' := []) [] rfl
  exact W.vret hx hb hr (fun t ht hW => ⟨⟨(), rfl, trivial, ⟨w_f_3, by rw [ht]; exact hP9, va_K.moved hW.alike hK9, hD9⟩⟩, hS.F ht⟩) hS.2.2 dX1_forgetYear_8

theorem lg_X10_add_0 (n_tb : Int32) (v1 : Int32) (v2 : Int32) (yb : 1 ≤ n_tb.toInt ∧ n_tb.toInt ≤ 40) (yv : 0 ≤ v1.toInt ∧ v1.toInt < n_tb.toInt) (yv2 : 1 ≤ v2.toInt ∧ v2.toInt ≤ 100) (t_2 : (40 : Int) ≤ n_tb.toInt) : (n_tb.toInt < 40 ∧ n_tb.toInt = n_tb.toInt + 1) ∨ (n_tb.toInt = 40 ∧ n_tb.toInt = n_tb.toInt) := by
  have := rg_rng n_tb; have := rg_rng v1; have := rg_rng v2; omega
theorem lg_X10_add_1 (n_tb : Int32) (v1 : Int32) (v2 : Int32) (yb : 1 ≤ n_tb.toInt ∧ n_tb.toInt ≤ 40) (yv : 0 ≤ v1.toInt ∧ v1.toInt < n_tb.toInt) (yv2 : 1 ≤ v2.toInt ∧ v2.toInt ≤ 100) (t_2 : (40 : Int) ≤ n_tb.toInt) : n_tb.toInt = n_tb.toInt := by
  have := rg_rng n_tb; have := rg_rng v1; have := rg_rng v2; omega
theorem lg_X10_add_2 (n_tb : Int32) (f_lengthHome : Nat → Int32) (v1 : Int32) (v2 : Int32) (yb : 1 ≤ n_tb.toInt ∧ n_tb.toInt ≤ 40) (yv : 0 ≤ v1.toInt ∧ v1.toInt < n_tb.toInt) (yv2 : 1 ≤ v2.toInt ∧ v2.toInt ≤ 100) (t_2 : (40 : Int) ≤ n_tb.toInt) : n_tb.toInt = n_tb.toInt ∨ (0 : Int) = (f_lengthHome (Int32.toNatClampNeg v1)).toInt + v2.toInt := by
  have := rg_rng n_tb; have := rg_rng v1; have := rg_rng v2; omega
theorem lg_X10_add_3 (n_tb : Int32) (f_vacuum : Nat → Int32) (v1 : Int32) (v2 : Int32) (yb : 1 ≤ n_tb.toInt ∧ n_tb.toInt ≤ 40) (yv : 0 ≤ v1.toInt ∧ v1.toInt < n_tb.toInt) (yv2 : 1 ≤ v2.toInt ∧ v2.toInt ≤ 100) (t_2 : (40 : Int) ≤ n_tb.toInt) : n_tb.toInt = n_tb.toInt ∨ (0 : Int) = (f_vacuum (Int32.toNatClampNeg v1)).toInt := by
  have := rg_rng n_tb; have := rg_rng v1; have := rg_rng v2; omega
theorem lg_X10_add_4 (n_tb : Int32) (f_height : Nat → Int32) (f_runs : Nat → Int32) (v1 : Int32) (v2 : Int32) (v3 : Int32) (yb : 1 ≤ n_tb.toInt ∧ n_tb.toInt ≤ 40) (yv : 0 ≤ v1.toInt ∧ v1.toInt < n_tb.toInt) (yv2 : 1 ≤ v2.toInt ∧ v2.toInt ≤ 100) (t_2 : (40 : Int) ≤ n_tb.toInt) : n_tb.toInt = n_tb.toInt ∨ ((0 : Int) = 1 ∧ ((f_runs (Int32.toNatClampNeg v1)).toInt = 1 ∧ (f_height (Int32.toNatClampNeg v1)).toInt < v3.toInt)) ∨ ((0 : Int) = 0 ∧ ¬ ((f_runs (Int32.toNatClampNeg v1)).toInt = 1 ∧ (f_height (Int32.toNatClampNeg v1)).toInt < v3.toInt)) := by
  have := rg_rng n_tb; have := rg_rng v1; have := rg_rng v2; have := rg_rng v3; omega
theorem lg_X10_add_5 (n_tb : Int32) (v1 : Int32) (v2 : Int32) (yb : 1 ≤ n_tb.toInt ∧ n_tb.toInt ≤ 40) (yv : 0 ≤ v1.toInt ∧ v1.toInt < n_tb.toInt) (yv2 : 1 ≤ v2.toInt ∧ v2.toInt ≤ 100) (t_2 : (40 : Int) ≤ n_tb.toInt) : n_tb.toInt = n_tb.toInt ∨ (0 ≤ (0 : Int) ∧ (0 : Int) ≤ 100 * n_tb.toInt) := by
  have := rg_rng n_tb; have := rg_rng v1; have := rg_rng v2; omega
theorem lg_X10_add_6 (n_tb : Int32) (v1 : Int32) (v2 : Int32) (yb : 1 ≤ n_tb.toInt ∧ n_tb.toInt ≤ 40) (yv : 0 ≤ v1.toInt ∧ v1.toInt < n_tb.toInt) (yv2 : 1 ≤ v2.toInt ∧ v2.toInt ≤ 100) (t_2 : (40 : Int) ≤ n_tb.toInt) : (n_tb.toInt < 40 ∧ (-1 : Int) = n_tb.toInt) ∨ (n_tb.toInt = 40 ∧ (-1 : Int) = (-1)) := by
  have := rg_rng n_tb; have := rg_rng v1; have := rg_rng v2; omega
theorem lg_X10_add_7 (n_tb : Int32) (v1 : Int32) (v2 : Int32) (yb : 1 ≤ n_tb.toInt ∧ n_tb.toInt ≤ 40) (yv : 0 ≤ v1.toInt ∧ v1.toInt < n_tb.toInt) (yv2 : 1 ≤ v2.toInt ∧ v2.toInt ≤ 100) (t_2 : n_tb.toInt < (40 : Int)) (h_4 : 0 ≤ v1.toInt ∧ v1.toInt < n_tb.toInt) : -2147483648 ≤ n_tb.toInt + (1 : Int) ∧ n_tb.toInt + (1 : Int) < 2147483648 := by
  have := rg_rng n_tb; have := rg_rng v1; have := rg_rng v2; omega
theorem lg_X10_add_8 (n_tb : Int32) (v1 : Int32) (v2 : Int32) (x_6 : Int32) (yb : 1 ≤ n_tb.toInt ∧ n_tb.toInt ≤ 40) (yv : 0 ≤ v1.toInt ∧ v1.toInt < n_tb.toInt) (yv2 : 1 ≤ v2.toInt ∧ v2.toInt ≤ 100) (t_2 : n_tb.toInt < (40 : Int)) (h_4 : 0 ≤ v1.toInt ∧ v1.toInt < n_tb.toInt) (t_8 : x_6.toInt = n_tb.toInt + (1 : Int)) : 0 ≤ n_tb.toInt ∧ n_tb.toInt < ((40 : Nat) : Int) := by
  have := rg_rng n_tb; have := rg_rng v1; have := rg_rng v2; have := rg_rng x_6; omega
theorem lg_X10_add_9 (n_tb : Int32) (v1 : Int32) (v2 : Int32) (x_6 : Int32) (yb : 1 ≤ n_tb.toInt ∧ n_tb.toInt ≤ 40) (yv : 0 ≤ v1.toInt ∧ v1.toInt < n_tb.toInt) (yv2 : 1 ≤ v2.toInt ∧ v2.toInt ≤ 100) (t_2 : n_tb.toInt < (40 : Int)) (h_4 : 0 ≤ v1.toInt ∧ v1.toInt < n_tb.toInt) (t_8 : x_6.toInt = n_tb.toInt + (1 : Int)) : 0 ≤ v1.toInt ∧ v1.toInt < ((40 : Nat) : Int) := by
  have := rg_rng n_tb; have := rg_rng v1; have := rg_rng v2; have := rg_rng x_6; omega
theorem lg_X10_add_10 (n_tb : Int32) (v1 : Int32) (v2 : Int32) (x_6 : Int32) (yb : 1 ≤ n_tb.toInt ∧ n_tb.toInt ≤ 40) (yv : 0 ≤ v1.toInt ∧ v1.toInt < n_tb.toInt) (yv2 : 1 ≤ v2.toInt ∧ v2.toInt ≤ 100) (t_2 : n_tb.toInt < (40 : Int)) (h_4 : 0 ≤ v1.toInt ∧ v1.toInt < n_tb.toInt) (t_8 : x_6.toInt = n_tb.toInt + (1 : Int)) : 0 ≤ v1.toInt ∧ v1.toInt < n_tb.toInt := by
  have := rg_rng n_tb; have := rg_rng v1; have := rg_rng v2; have := rg_rng x_6; omega
theorem lg_X10_add_11 (n_tb : Int32) (f_lengthHome : Nat → Int32) (v1 : Int32) (v2 : Int32) (x_6 : Int32) (x_15 : Int32) (yb : 1 ≤ n_tb.toInt ∧ n_tb.toInt ≤ 40) (yv : 0 ≤ v1.toInt ∧ v1.toInt < n_tb.toInt) (yv2 : 1 ≤ v2.toInt ∧ v2.toInt ≤ 100) (t_2 : n_tb.toInt < (40 : Int)) (h_4 : 0 ≤ v1.toInt ∧ v1.toInt < n_tb.toInt) (t_8 : x_6.toInt = n_tb.toInt + (1 : Int)) (t_17 : 0 ≤ x_15.toInt ∧ x_15.toInt ≤ 100 * v1.toInt) (t_18 : x_15.toInt = (f_lengthHome (Int32.toNatClampNeg v1)).toInt) : -2147483648 ≤ x_15.toInt + v2.toInt ∧ x_15.toInt + v2.toInt < 2147483648 := by
  have := rg_rng n_tb; have := rg_rng v1; have := rg_rng v2; have := rg_rng x_6; have := rg_rng x_15; omega
theorem lg_X10_add_12 (n_tb : Int32) (f_lengthHome : Nat → Int32) (v1 : Int32) (v2 : Int32) (x_6 : Int32) (x_15 : Int32) (x_19 : Int32) (yb : 1 ≤ n_tb.toInt ∧ n_tb.toInt ≤ 40) (yv : 0 ≤ v1.toInt ∧ v1.toInt < n_tb.toInt) (yv2 : 1 ≤ v2.toInt ∧ v2.toInt ≤ 100) (t_2 : n_tb.toInt < (40 : Int)) (h_4 : 0 ≤ v1.toInt ∧ v1.toInt < n_tb.toInt) (t_8 : x_6.toInt = n_tb.toInt + (1 : Int)) (t_17 : 0 ≤ x_15.toInt ∧ x_15.toInt ≤ 100 * v1.toInt) (t_18 : x_15.toInt = (f_lengthHome (Int32.toNatClampNeg v1)).toInt) (t_21 : x_19.toInt = x_15.toInt + v2.toInt) : 0 ≤ n_tb.toInt ∧ n_tb.toInt < ((40 : Nat) : Int) := by
  have := rg_rng n_tb; have := rg_rng v1; have := rg_rng v2; have := rg_rng x_6; have := rg_rng x_15; have := rg_rng x_19; omega
theorem lg_X10_add_13 (n_tb : Int32) (f_lengthHome : Nat → Int32) (v1 : Int32) (v2 : Int32) (x_6 : Int32) (x_15 : Int32) (x_19 : Int32) (yb : 1 ≤ n_tb.toInt ∧ n_tb.toInt ≤ 40) (yv : 0 ≤ v1.toInt ∧ v1.toInt < n_tb.toInt) (yv2 : 1 ≤ v2.toInt ∧ v2.toInt ≤ 100) (t_2 : n_tb.toInt < (40 : Int)) (h_4 : 0 ≤ v1.toInt ∧ v1.toInt < n_tb.toInt) (t_8 : x_6.toInt = n_tb.toInt + (1 : Int)) (t_17 : 0 ≤ x_15.toInt ∧ x_15.toInt ≤ 100 * v1.toInt) (t_18 : x_15.toInt = (f_lengthHome (Int32.toNatClampNeg v1)).toInt) (t_21 : x_19.toInt = x_15.toInt + v2.toInt) : 0 ≤ v1.toInt ∧ v1.toInt < ((40 : Nat) : Int) := by
  have := rg_rng n_tb; have := rg_rng v1; have := rg_rng v2; have := rg_rng x_6; have := rg_rng x_15; have := rg_rng x_19; omega
theorem lg_X10_add_14 (n_tb : Int32) (f_lengthHome : Nat → Int32) (f_runs : Nat → Int32) (v1 : Int32) (v2 : Int32) (x_6 : Int32) (x_15 : Int32) (x_19 : Int32) (x_24 : Int32) (yb : 1 ≤ n_tb.toInt ∧ n_tb.toInt ≤ 40) (yv : 0 ≤ v1.toInt ∧ v1.toInt < n_tb.toInt) (yv2 : 1 ≤ v2.toInt ∧ v2.toInt ≤ 100) (t_2 : n_tb.toInt < (40 : Int)) (h_4 : 0 ≤ v1.toInt ∧ v1.toInt < n_tb.toInt) (t_8 : x_6.toInt = n_tb.toInt + (1 : Int)) (t_17 : 0 ≤ x_15.toInt ∧ x_15.toInt ≤ 100 * v1.toInt) (t_18 : x_15.toInt = (f_lengthHome (Int32.toNatClampNeg v1)).toInt) (t_21 : x_19.toInt = x_15.toInt + v2.toInt) (t_26 : x_24.toInt = (f_runs (Int32.toNatClampNeg v1)).toInt) : 0 ≤ v1.toInt ∧ v1.toInt < ((40 : Nat) : Int) := by
  have := rg_rng n_tb; have := rg_rng v1; have := rg_rng v2; have := rg_rng x_6; have := rg_rng x_15; have := rg_rng x_19; have := rg_rng x_24; omega
theorem lg_X10_add_15 (n_tb : Int32) (f_lengthHome : Nat → Int32) (f_runs : Nat → Int32) (v1 : Int32) (v2 : Int32) (x_6 : Int32) (x_15 : Int32) (x_19 : Int32) (x_24 : Int32) (yb : 1 ≤ n_tb.toInt ∧ n_tb.toInt ≤ 40) (yv : 0 ≤ v1.toInt ∧ v1.toInt < n_tb.toInt) (yv2 : 1 ≤ v2.toInt ∧ v2.toInt ≤ 100) (t_2 : n_tb.toInt < (40 : Int)) (h_4 : 0 ≤ v1.toInt ∧ v1.toInt < n_tb.toInt) (t_8 : x_6.toInt = n_tb.toInt + (1 : Int)) (t_17 : 0 ≤ x_15.toInt ∧ x_15.toInt ≤ 100 * v1.toInt) (t_18 : x_15.toInt = (f_lengthHome (Int32.toNatClampNeg v1)).toInt) (t_21 : x_19.toInt = x_15.toInt + v2.toInt) (t_26 : x_24.toInt = (f_runs (Int32.toNatClampNeg v1)).toInt) (t_27 : 0 ≤ x_24.toInt ∧ x_24.toInt ≤ 1) (t_29 : x_24.toInt = (0 : Int)) : 0 ≤ n_tb.toInt ∧ n_tb.toInt < ((40 : Nat) : Int) := by
  have := rg_rng n_tb; have := rg_rng v1; have := rg_rng v2; have := rg_rng x_6; have := rg_rng x_15; have := rg_rng x_19; have := rg_rng x_24; omega
theorem lg_X10_add_16 (n_tb : Int32) (f_lengthHome : Nat → Int32) (f_runs : Nat → Int32) (v1 : Int32) (v2 : Int32) (x_6 : Int32) (x_15 : Int32) (x_19 : Int32) (x_24 : Int32) (yb : 1 ≤ n_tb.toInt ∧ n_tb.toInt ≤ 40) (yv : 0 ≤ v1.toInt ∧ v1.toInt < n_tb.toInt) (yv2 : 1 ≤ v2.toInt ∧ v2.toInt ≤ 100) (t_2 : n_tb.toInt < (40 : Int)) (h_4 : 0 ≤ v1.toInt ∧ v1.toInt < n_tb.toInt) (t_8 : x_6.toInt = n_tb.toInt + (1 : Int)) (t_17 : 0 ≤ x_15.toInt ∧ x_15.toInt ≤ 100 * v1.toInt) (t_18 : x_15.toInt = (f_lengthHome (Int32.toNatClampNeg v1)).toInt) (t_21 : x_19.toInt = x_15.toInt + v2.toInt) (t_26 : x_24.toInt = (f_runs (Int32.toNatClampNeg v1)).toInt) (t_27 : 0 ≤ x_24.toInt ∧ x_24.toInt ≤ 1) (t_29 : x_24.toInt = (0 : Int)) : 0 ≤ (0 : Int) ∧ (0 : Int) ≤ 1 := by
  have := rg_rng n_tb; have := rg_rng v1; have := rg_rng v2; have := rg_rng x_6; have := rg_rng x_15; have := rg_rng x_19; have := rg_rng x_24; omega
theorem lg_X10_add_17 (n_tb : Int32) (f_lengthHome : Nat → Int32) (f_runs : Nat → Int32) (v1 : Int32) (v2 : Int32) (x_6 : Int32) (x_15 : Int32) (x_19 : Int32) (x_24 : Int32) (yb : 1 ≤ n_tb.toInt ∧ n_tb.toInt ≤ 40) (yv : 0 ≤ v1.toInt ∧ v1.toInt < n_tb.toInt) (yv2 : 1 ≤ v2.toInt ∧ v2.toInt ≤ 100) (t_2 : n_tb.toInt < (40 : Int)) (h_4 : 0 ≤ v1.toInt ∧ v1.toInt < n_tb.toInt) (t_8 : x_6.toInt = n_tb.toInt + (1 : Int)) (t_17 : 0 ≤ x_15.toInt ∧ x_15.toInt ≤ 100 * v1.toInt) (t_18 : x_15.toInt = (f_lengthHome (Int32.toNatClampNeg v1)).toInt) (t_21 : x_19.toInt = x_15.toInt + v2.toInt) (t_26 : x_24.toInt = (f_runs (Int32.toNatClampNeg v1)).toInt) (t_27 : 0 ≤ x_24.toInt ∧ x_24.toInt ≤ 1) (t_29 : x_24.toInt = (0 : Int)) : 0 ≤ v1.toInt ∧ v1.toInt < ((40 : Nat) : Int) := by
  have := rg_rng n_tb; have := rg_rng v1; have := rg_rng v2; have := rg_rng x_6; have := rg_rng x_15; have := rg_rng x_19; have := rg_rng x_24; omega
theorem lg_X10_add_18 (n_tb : Int32) (f_lengthHome : Nat → Int32) (f_runs : Nat → Int32) (f_vacuum : Nat → Int32) (v1 : Int32) (v2 : Int32) (x_6 : Int32) (x_15 : Int32) (x_19 : Int32) (x_24 : Int32) (x_33 : Int32) (yb : 1 ≤ n_tb.toInt ∧ n_tb.toInt ≤ 40) (yv : 0 ≤ v1.toInt ∧ v1.toInt < n_tb.toInt) (yv2 : 1 ≤ v2.toInt ∧ v2.toInt ≤ 100) (t_2 : n_tb.toInt < (40 : Int)) (h_4 : 0 ≤ v1.toInt ∧ v1.toInt < n_tb.toInt) (t_8 : x_6.toInt = n_tb.toInt + (1 : Int)) (t_17 : 0 ≤ x_15.toInt ∧ x_15.toInt ≤ 100 * v1.toInt) (t_18 : x_15.toInt = (f_lengthHome (Int32.toNatClampNeg v1)).toInt) (t_21 : x_19.toInt = x_15.toInt + v2.toInt) (t_26 : x_24.toInt = (f_runs (Int32.toNatClampNeg v1)).toInt) (t_27 : 0 ≤ x_24.toInt ∧ x_24.toInt ≤ 1) (t_29 : x_24.toInt = (0 : Int)) (t_35 : x_33.toInt = (f_vacuum (Int32.toNatClampNeg v1)).toInt) : 0 ≤ v1.toInt ∧ v1.toInt < ((40 : Nat) : Int) := by
  have := rg_rng n_tb; have := rg_rng v1; have := rg_rng v2; have := rg_rng x_6; have := rg_rng x_15; have := rg_rng x_19; have := rg_rng x_24; have := rg_rng x_33; omega
theorem lg_X10_add_19 (n_tb : Int32) (f_lengthHome : Nat → Int32) (f_runs : Nat → Int32) (f_vacuum : Nat → Int32) (v1 : Int32) (v2 : Int32) (x_6 : Int32) (x_15 : Int32) (x_19 : Int32) (x_24 : Int32) (x_33 : Int32) (yb : 1 ≤ n_tb.toInt ∧ n_tb.toInt ≤ 40) (yv : 0 ≤ v1.toInt ∧ v1.toInt < n_tb.toInt) (yv2 : 1 ≤ v2.toInt ∧ v2.toInt ≤ 100) (t_2 : n_tb.toInt < (40 : Int)) (h_4 : 0 ≤ v1.toInt ∧ v1.toInt < n_tb.toInt) (t_8 : x_6.toInt = n_tb.toInt + (1 : Int)) (t_17 : 0 ≤ x_15.toInt ∧ x_15.toInt ≤ 100 * v1.toInt) (t_18 : x_15.toInt = (f_lengthHome (Int32.toNatClampNeg v1)).toInt) (t_21 : x_19.toInt = x_15.toInt + v2.toInt) (t_26 : x_24.toInt = (f_runs (Int32.toNatClampNeg v1)).toInt) (t_27 : 0 ≤ x_24.toInt ∧ x_24.toInt ≤ 1) (t_29 : x_24.toInt = (0 : Int)) (t_35 : x_33.toInt = (f_vacuum (Int32.toNatClampNeg v1)).toInt) (t_36 : 0 ≤ x_33.toInt ∧ x_33.toInt ≤ 100) : 0 ≤ n_tb.toInt ∧ n_tb.toInt < ((40 : Nat) : Int) := by
  have := rg_rng n_tb; have := rg_rng v1; have := rg_rng v2; have := rg_rng x_6; have := rg_rng x_15; have := rg_rng x_19; have := rg_rng x_24; have := rg_rng x_33; omega
theorem lg_X10_add_20 (n_tb : Int32) (f_lengthHome : Nat → Int32) (f_runs : Nat → Int32) (f_vacuum : Nat → Int32) (v1 : Int32) (v2 : Int32) (x_6 : Int32) (x_15 : Int32) (x_19 : Int32) (x_24 : Int32) (x_33 : Int32) (yb : 1 ≤ n_tb.toInt ∧ n_tb.toInt ≤ 40) (yv : 0 ≤ v1.toInt ∧ v1.toInt < n_tb.toInt) (yv2 : 1 ≤ v2.toInt ∧ v2.toInt ≤ 100) (t_2 : n_tb.toInt < (40 : Int)) (h_4 : 0 ≤ v1.toInt ∧ v1.toInt < n_tb.toInt) (t_8 : x_6.toInt = n_tb.toInt + (1 : Int)) (t_17 : 0 ≤ x_15.toInt ∧ x_15.toInt ≤ 100 * v1.toInt) (t_18 : x_15.toInt = (f_lengthHome (Int32.toNatClampNeg v1)).toInt) (t_21 : x_19.toInt = x_15.toInt + v2.toInt) (t_26 : x_24.toInt = (f_runs (Int32.toNatClampNeg v1)).toInt) (t_27 : 0 ≤ x_24.toInt ∧ x_24.toInt ≤ 1) (t_29 : x_24.toInt = (0 : Int)) (t_35 : x_33.toInt = (f_vacuum (Int32.toNatClampNeg v1)).toInt) (t_36 : 0 ≤ x_33.toInt ∧ x_33.toInt ≤ 100) : 0 ≤ x_33.toInt ∧ x_33.toInt ≤ 100 := by
  have := rg_rng n_tb; have := rg_rng v1; have := rg_rng v2; have := rg_rng x_6; have := rg_rng x_15; have := rg_rng x_19; have := rg_rng x_24; have := rg_rng x_33; omega
theorem lg_X10_add_21 (n_tb : Int32) (f_lengthHome : Nat → Int32) (f_runs : Nat → Int32) (f_vacuum : Nat → Int32) (v1 : Int32) (v2 : Int32) (x_6 : Int32) (x_15 : Int32) (x_19 : Int32) (x_24 : Int32) (x_33 : Int32) (yb : 1 ≤ n_tb.toInt ∧ n_tb.toInt ≤ 40) (yv : 0 ≤ v1.toInt ∧ v1.toInt < n_tb.toInt) (yv2 : 1 ≤ v2.toInt ∧ v2.toInt ≤ 100) (t_2 : n_tb.toInt < (40 : Int)) (h_4 : 0 ≤ v1.toInt ∧ v1.toInt < n_tb.toInt) (t_8 : x_6.toInt = n_tb.toInt + (1 : Int)) (t_17 : 0 ≤ x_15.toInt ∧ x_15.toInt ≤ 100 * v1.toInt) (t_18 : x_15.toInt = (f_lengthHome (Int32.toNatClampNeg v1)).toInt) (t_21 : x_19.toInt = x_15.toInt + v2.toInt) (t_26 : x_24.toInt = (f_runs (Int32.toNatClampNeg v1)).toInt) (t_27 : 0 ≤ x_24.toInt ∧ x_24.toInt ≤ 1) (t_29 : x_24.toInt = (0 : Int)) (t_35 : x_33.toInt = (f_vacuum (Int32.toNatClampNeg v1)).toInt) (t_36 : 0 ≤ x_33.toInt ∧ x_33.toInt ≤ 100) : (n_tb.toInt < 40 ∧ x_6.toInt = n_tb.toInt + 1) ∨ (n_tb.toInt = 40 ∧ x_6.toInt = n_tb.toInt) := by
  have := rg_rng n_tb; have := rg_rng v1; have := rg_rng v2; have := rg_rng x_6; have := rg_rng x_15; have := rg_rng x_19; have := rg_rng x_24; have := rg_rng x_33; omega
theorem lg_X10_add_22 (n_tb : Int32) (f_lengthHome : Nat → Int32) (f_runs : Nat → Int32) (f_vacuum : Nat → Int32) (v1 : Int32) (v2 : Int32) (x_6 : Int32) (x_15 : Int32) (x_19 : Int32) (x_24 : Int32) (x_33 : Int32) (yb : 1 ≤ n_tb.toInt ∧ n_tb.toInt ≤ 40) (yv : 0 ≤ v1.toInt ∧ v1.toInt < n_tb.toInt) (yv2 : 1 ≤ v2.toInt ∧ v2.toInt ≤ 100) (t_2 : n_tb.toInt < (40 : Int)) (h_4 : 0 ≤ v1.toInt ∧ v1.toInt < n_tb.toInt) (t_8 : x_6.toInt = n_tb.toInt + (1 : Int)) (t_17 : 0 ≤ x_15.toInt ∧ x_15.toInt ≤ 100 * v1.toInt) (t_18 : x_15.toInt = (f_lengthHome (Int32.toNatClampNeg v1)).toInt) (t_21 : x_19.toInt = x_15.toInt + v2.toInt) (t_26 : x_24.toInt = (f_runs (Int32.toNatClampNeg v1)).toInt) (t_27 : 0 ≤ x_24.toInt ∧ x_24.toInt ≤ 1) (t_29 : x_24.toInt = (0 : Int)) (t_35 : x_33.toInt = (f_vacuum (Int32.toNatClampNeg v1)).toInt) (t_36 : 0 ≤ x_33.toInt ∧ x_33.toInt ≤ 100) : x_6.toInt = n_tb.toInt + 1 := by
  have := rg_rng n_tb; have := rg_rng v1; have := rg_rng v2; have := rg_rng x_6; have := rg_rng x_15; have := rg_rng x_19; have := rg_rng x_24; have := rg_rng x_33; omega
theorem lg_X10_add_23 (n_tb : Int32) (f_lengthHome : Nat → Int32) (f_runs : Nat → Int32) (f_vacuum : Nat → Int32) (v1 : Int32) (v2 : Int32) (x_6 : Int32) (x_15 : Int32) (x_19 : Int32) (x_24 : Int32) (x_33 : Int32) (yb : 1 ≤ n_tb.toInt ∧ n_tb.toInt ≤ 40) (yv : 0 ≤ v1.toInt ∧ v1.toInt < n_tb.toInt) (yv2 : 1 ≤ v2.toInt ∧ v2.toInt ≤ 100) (t_2 : n_tb.toInt < (40 : Int)) (h_4 : 0 ≤ v1.toInt ∧ v1.toInt < n_tb.toInt) (t_8 : x_6.toInt = n_tb.toInt + (1 : Int)) (t_17 : 0 ≤ x_15.toInt ∧ x_15.toInt ≤ 100 * v1.toInt) (t_18 : x_15.toInt = (f_lengthHome (Int32.toNatClampNeg v1)).toInt) (t_21 : x_19.toInt = x_15.toInt + v2.toInt) (t_26 : x_24.toInt = (f_runs (Int32.toNatClampNeg v1)).toInt) (t_27 : 0 ≤ x_24.toInt ∧ x_24.toInt ≤ 1) (t_29 : x_24.toInt = (0 : Int)) (t_35 : x_33.toInt = (f_vacuum (Int32.toNatClampNeg v1)).toInt) (t_36 : 0 ≤ x_33.toInt ∧ x_33.toInt ≤ 100) : x_6.toInt = n_tb.toInt ∨ x_19.toInt = (f_lengthHome (Int32.toNatClampNeg v1)).toInt + v2.toInt := by
  have := rg_rng n_tb; have := rg_rng v1; have := rg_rng v2; have := rg_rng x_6; have := rg_rng x_15; have := rg_rng x_19; have := rg_rng x_24; have := rg_rng x_33; omega
theorem lg_X10_add_24 (n_tb : Int32) (f_lengthHome : Nat → Int32) (f_runs : Nat → Int32) (f_vacuum : Nat → Int32) (v1 : Int32) (v2 : Int32) (x_6 : Int32) (x_15 : Int32) (x_19 : Int32) (x_24 : Int32) (x_33 : Int32) (yb : 1 ≤ n_tb.toInt ∧ n_tb.toInt ≤ 40) (yv : 0 ≤ v1.toInt ∧ v1.toInt < n_tb.toInt) (yv2 : 1 ≤ v2.toInt ∧ v2.toInt ≤ 100) (t_2 : n_tb.toInt < (40 : Int)) (h_4 : 0 ≤ v1.toInt ∧ v1.toInt < n_tb.toInt) (t_8 : x_6.toInt = n_tb.toInt + (1 : Int)) (t_17 : 0 ≤ x_15.toInt ∧ x_15.toInt ≤ 100 * v1.toInt) (t_18 : x_15.toInt = (f_lengthHome (Int32.toNatClampNeg v1)).toInt) (t_21 : x_19.toInt = x_15.toInt + v2.toInt) (t_26 : x_24.toInt = (f_runs (Int32.toNatClampNeg v1)).toInt) (t_27 : 0 ≤ x_24.toInt ∧ x_24.toInt ≤ 1) (t_29 : x_24.toInt = (0 : Int)) (t_35 : x_33.toInt = (f_vacuum (Int32.toNatClampNeg v1)).toInt) (t_36 : 0 ≤ x_33.toInt ∧ x_33.toInt ≤ 100) : x_6.toInt = n_tb.toInt ∨ x_33.toInt = (f_vacuum (Int32.toNatClampNeg v1)).toInt := by
  have := rg_rng n_tb; have := rg_rng v1; have := rg_rng v2; have := rg_rng x_6; have := rg_rng x_15; have := rg_rng x_19; have := rg_rng x_24; have := rg_rng x_33; omega
theorem lg_X10_add_25 (n_tb : Int32) (f_height : Nat → Int32) (f_lengthHome : Nat → Int32) (f_runs : Nat → Int32) (f_vacuum : Nat → Int32) (v1 : Int32) (v2 : Int32) (v3 : Int32) (x_6 : Int32) (x_15 : Int32) (x_19 : Int32) (x_24 : Int32) (x_33 : Int32) (yb : 1 ≤ n_tb.toInt ∧ n_tb.toInt ≤ 40) (yv : 0 ≤ v1.toInt ∧ v1.toInt < n_tb.toInt) (yv2 : 1 ≤ v2.toInt ∧ v2.toInt ≤ 100) (t_2 : n_tb.toInt < (40 : Int)) (h_4 : 0 ≤ v1.toInt ∧ v1.toInt < n_tb.toInt) (t_8 : x_6.toInt = n_tb.toInt + (1 : Int)) (t_17 : 0 ≤ x_15.toInt ∧ x_15.toInt ≤ 100 * v1.toInt) (t_18 : x_15.toInt = (f_lengthHome (Int32.toNatClampNeg v1)).toInt) (t_21 : x_19.toInt = x_15.toInt + v2.toInt) (t_26 : x_24.toInt = (f_runs (Int32.toNatClampNeg v1)).toInt) (t_27 : 0 ≤ x_24.toInt ∧ x_24.toInt ≤ 1) (t_29 : x_24.toInt = (0 : Int)) (t_35 : x_33.toInt = (f_vacuum (Int32.toNatClampNeg v1)).toInt) (t_36 : 0 ≤ x_33.toInt ∧ x_33.toInt ≤ 100) : x_6.toInt = n_tb.toInt ∨ ((0 : Int) = 1 ∧ ((f_runs (Int32.toNatClampNeg v1)).toInt = 1 ∧ (f_height (Int32.toNatClampNeg v1)).toInt < v3.toInt)) ∨ ((0 : Int) = 0 ∧ ¬ ((f_runs (Int32.toNatClampNeg v1)).toInt = 1 ∧ (f_height (Int32.toNatClampNeg v1)).toInt < v3.toInt)) := by
  have := rg_rng n_tb; have := rg_rng v1; have := rg_rng v2; have := rg_rng v3; have := rg_rng x_6; have := rg_rng x_15; have := rg_rng x_19; have := rg_rng x_24; have := rg_rng x_33; omega
theorem lg_X10_add_26 (n_tb : Int32) (f_lengthHome : Nat → Int32) (f_runs : Nat → Int32) (f_vacuum : Nat → Int32) (v1 : Int32) (v2 : Int32) (x_6 : Int32) (x_15 : Int32) (x_19 : Int32) (x_24 : Int32) (x_33 : Int32) (yb : 1 ≤ n_tb.toInt ∧ n_tb.toInt ≤ 40) (yv : 0 ≤ v1.toInt ∧ v1.toInt < n_tb.toInt) (yv2 : 1 ≤ v2.toInt ∧ v2.toInt ≤ 100) (t_2 : n_tb.toInt < (40 : Int)) (h_4 : 0 ≤ v1.toInt ∧ v1.toInt < n_tb.toInt) (t_8 : x_6.toInt = n_tb.toInt + (1 : Int)) (t_17 : 0 ≤ x_15.toInt ∧ x_15.toInt ≤ 100 * v1.toInt) (t_18 : x_15.toInt = (f_lengthHome (Int32.toNatClampNeg v1)).toInt) (t_21 : x_19.toInt = x_15.toInt + v2.toInt) (t_26 : x_24.toInt = (f_runs (Int32.toNatClampNeg v1)).toInt) (t_27 : 0 ≤ x_24.toInt ∧ x_24.toInt ≤ 1) (t_29 : x_24.toInt = (0 : Int)) (t_35 : x_33.toInt = (f_vacuum (Int32.toNatClampNeg v1)).toInt) (t_36 : 0 ≤ x_33.toInt ∧ x_33.toInt ≤ 100) : x_6.toInt = n_tb.toInt ∨ (0 ≤ x_19.toInt ∧ x_19.toInt ≤ 100 * n_tb.toInt) := by
  have := rg_rng n_tb; have := rg_rng v1; have := rg_rng v2; have := rg_rng x_6; have := rg_rng x_15; have := rg_rng x_19; have := rg_rng x_24; have := rg_rng x_33; omega
theorem lg_X10_add_27 (n_tb : Int32) (f_lengthHome : Nat → Int32) (f_runs : Nat → Int32) (f_vacuum : Nat → Int32) (v1 : Int32) (v2 : Int32) (x_6 : Int32) (x_15 : Int32) (x_19 : Int32) (x_24 : Int32) (x_33 : Int32) (yb : 1 ≤ n_tb.toInt ∧ n_tb.toInt ≤ 40) (yv : 0 ≤ v1.toInt ∧ v1.toInt < n_tb.toInt) (yv2 : 1 ≤ v2.toInt ∧ v2.toInt ≤ 100) (t_2 : n_tb.toInt < (40 : Int)) (h_4 : 0 ≤ v1.toInt ∧ v1.toInt < n_tb.toInt) (t_8 : x_6.toInt = n_tb.toInt + (1 : Int)) (t_17 : 0 ≤ x_15.toInt ∧ x_15.toInt ≤ 100 * v1.toInt) (t_18 : x_15.toInt = (f_lengthHome (Int32.toNatClampNeg v1)).toInt) (t_21 : x_19.toInt = x_15.toInt + v2.toInt) (t_26 : x_24.toInt = (f_runs (Int32.toNatClampNeg v1)).toInt) (t_27 : 0 ≤ x_24.toInt ∧ x_24.toInt ≤ 1) (t_29 : x_24.toInt = (0 : Int)) (t_35 : x_33.toInt = (f_vacuum (Int32.toNatClampNeg v1)).toInt) (t_36 : 0 ≤ x_33.toInt ∧ x_33.toInt ≤ 100) : (n_tb.toInt < 40 ∧ n_tb.toInt = n_tb.toInt) ∨ (n_tb.toInt = 40 ∧ n_tb.toInt = (-1)) := by
  have := rg_rng n_tb; have := rg_rng v1; have := rg_rng v2; have := rg_rng x_6; have := rg_rng x_15; have := rg_rng x_19; have := rg_rng x_24; have := rg_rng x_33; omega
theorem lg_X10_add_28 (n_tb : Int32) (f_lengthHome : Nat → Int32) (f_runs : Nat → Int32) (v1 : Int32) (v2 : Int32) (x_6 : Int32) (x_15 : Int32) (x_19 : Int32) (x_24 : Int32) (yb : 1 ≤ n_tb.toInt ∧ n_tb.toInt ≤ 40) (yv : 0 ≤ v1.toInt ∧ v1.toInt < n_tb.toInt) (yv2 : 1 ≤ v2.toInt ∧ v2.toInt ≤ 100) (t_2 : n_tb.toInt < (40 : Int)) (h_4 : 0 ≤ v1.toInt ∧ v1.toInt < n_tb.toInt) (t_8 : x_6.toInt = n_tb.toInt + (1 : Int)) (t_17 : 0 ≤ x_15.toInt ∧ x_15.toInt ≤ 100 * v1.toInt) (t_18 : x_15.toInt = (f_lengthHome (Int32.toNatClampNeg v1)).toInt) (t_21 : x_19.toInt = x_15.toInt + v2.toInt) (t_26 : x_24.toInt = (f_runs (Int32.toNatClampNeg v1)).toInt) (t_27 : 0 ≤ x_24.toInt ∧ x_24.toInt ≤ 1) (t_29 : ¬ x_24.toInt = (0 : Int)) : 0 ≤ v1.toInt ∧ v1.toInt < n_tb.toInt := by
  have := rg_rng n_tb; have := rg_rng v1; have := rg_rng v2; have := rg_rng x_6; have := rg_rng x_15; have := rg_rng x_19; have := rg_rng x_24; omega
theorem lg_X10_add_29 (n_tb : Int32) (f_height : Nat → Int32) (f_lengthHome : Nat → Int32) (f_runs : Nat → Int32) (v1 : Int32) (v2 : Int32) (x_6 : Int32) (g_11 : Nat → Int32) (x_15 : Int32) (x_19 : Int32) (x_24 : Int32) (yb : 1 ≤ n_tb.toInt ∧ n_tb.toInt ≤ 40) (yv : 0 ≤ v1.toInt ∧ v1.toInt < n_tb.toInt) (yv2 : 1 ≤ v2.toInt ∧ v2.toInt ≤ 100) (t_2 : n_tb.toInt < (40 : Int)) (h_4 : 0 ≤ v1.toInt ∧ v1.toInt < n_tb.toInt) (t_8 : x_6.toInt = n_tb.toInt + (1 : Int)) (t_17 : 0 ≤ x_15.toInt ∧ x_15.toInt ≤ 100 * v1.toInt) (t_18 : x_15.toInt = (f_lengthHome (Int32.toNatClampNeg v1)).toInt) (t_21 : x_19.toInt = x_15.toInt + v2.toInt) (t_26 : x_24.toInt = (f_runs (Int32.toNatClampNeg v1)).toInt) (t_27 : 0 ≤ x_24.toInt ∧ x_24.toInt ≤ 1) (t_29 : ¬ x_24.toInt = (0 : Int)) (t_42 : (g_11 (Int32.toNatClampNeg v1)).toInt = (f_height (Int32.toNatClampNeg v1)).toInt) : 0 ≤ v1.toInt ∧ v1.toInt < ((40 : Nat) : Int) := by
  have := rg_rng n_tb; have := rg_rng v1; have := rg_rng v2; have := rg_rng x_6; have := rg_rng x_15; have := rg_rng x_19; have := rg_rng x_24; omega
theorem lg_X10_add_30 (n_tb : Int32) (f_height : Nat → Int32) (f_lengthHome : Nat → Int32) (f_runs : Nat → Int32) (v1 : Int32) (v2 : Int32) (v3 : Int32) (x_6 : Int32) (g_11 : Nat → Int32) (x_15 : Int32) (x_19 : Int32) (x_24 : Int32) (x_43 : Int32) (yb : 1 ≤ n_tb.toInt ∧ n_tb.toInt ≤ 40) (yv : 0 ≤ v1.toInt ∧ v1.toInt < n_tb.toInt) (yv2 : 1 ≤ v2.toInt ∧ v2.toInt ≤ 100) (t_2 : n_tb.toInt < (40 : Int)) (h_4 : 0 ≤ v1.toInt ∧ v1.toInt < n_tb.toInt) (t_8 : x_6.toInt = n_tb.toInt + (1 : Int)) (t_17 : 0 ≤ x_15.toInt ∧ x_15.toInt ≤ 100 * v1.toInt) (t_18 : x_15.toInt = (f_lengthHome (Int32.toNatClampNeg v1)).toInt) (t_21 : x_19.toInt = x_15.toInt + v2.toInt) (t_26 : x_24.toInt = (f_runs (Int32.toNatClampNeg v1)).toInt) (t_27 : 0 ≤ x_24.toInt ∧ x_24.toInt ≤ 1) (t_29 : ¬ x_24.toInt = (0 : Int)) (t_42 : (g_11 (Int32.toNatClampNeg v1)).toInt = (f_height (Int32.toNatClampNeg v1)).toInt) (t_45 : x_43.toInt = (g_11 (Int32.toNatClampNeg v1)).toInt) (t_47 : v3.toInt ≤ x_43.toInt) : 0 ≤ n_tb.toInt ∧ n_tb.toInt < ((40 : Nat) : Int) := by
  have := rg_rng n_tb; have := rg_rng v1; have := rg_rng v2; have := rg_rng v3; have := rg_rng x_6; have := rg_rng x_15; have := rg_rng x_19; have := rg_rng x_24; have := rg_rng x_43; omega
theorem lg_X10_add_31 (n_tb : Int32) (f_height : Nat → Int32) (f_lengthHome : Nat → Int32) (f_runs : Nat → Int32) (v1 : Int32) (v2 : Int32) (v3 : Int32) (x_6 : Int32) (g_11 : Nat → Int32) (x_15 : Int32) (x_19 : Int32) (x_24 : Int32) (x_43 : Int32) (yb : 1 ≤ n_tb.toInt ∧ n_tb.toInt ≤ 40) (yv : 0 ≤ v1.toInt ∧ v1.toInt < n_tb.toInt) (yv2 : 1 ≤ v2.toInt ∧ v2.toInt ≤ 100) (t_2 : n_tb.toInt < (40 : Int)) (h_4 : 0 ≤ v1.toInt ∧ v1.toInt < n_tb.toInt) (t_8 : x_6.toInt = n_tb.toInt + (1 : Int)) (t_17 : 0 ≤ x_15.toInt ∧ x_15.toInt ≤ 100 * v1.toInt) (t_18 : x_15.toInt = (f_lengthHome (Int32.toNatClampNeg v1)).toInt) (t_21 : x_19.toInt = x_15.toInt + v2.toInt) (t_26 : x_24.toInt = (f_runs (Int32.toNatClampNeg v1)).toInt) (t_27 : 0 ≤ x_24.toInt ∧ x_24.toInt ≤ 1) (t_29 : ¬ x_24.toInt = (0 : Int)) (t_42 : (g_11 (Int32.toNatClampNeg v1)).toInt = (f_height (Int32.toNatClampNeg v1)).toInt) (t_45 : x_43.toInt = (g_11 (Int32.toNatClampNeg v1)).toInt) (t_47 : v3.toInt ≤ x_43.toInt) : 0 ≤ (0 : Int) ∧ (0 : Int) ≤ 1 := by
  have := rg_rng n_tb; have := rg_rng v1; have := rg_rng v2; have := rg_rng v3; have := rg_rng x_6; have := rg_rng x_15; have := rg_rng x_19; have := rg_rng x_24; have := rg_rng x_43; omega
theorem lg_X10_add_32 (n_tb : Int32) (f_height : Nat → Int32) (f_lengthHome : Nat → Int32) (f_runs : Nat → Int32) (v1 : Int32) (v2 : Int32) (v3 : Int32) (x_6 : Int32) (g_11 : Nat → Int32) (x_15 : Int32) (x_19 : Int32) (x_24 : Int32) (x_43 : Int32) (yb : 1 ≤ n_tb.toInt ∧ n_tb.toInt ≤ 40) (yv : 0 ≤ v1.toInt ∧ v1.toInt < n_tb.toInt) (yv2 : 1 ≤ v2.toInt ∧ v2.toInt ≤ 100) (t_2 : n_tb.toInt < (40 : Int)) (h_4 : 0 ≤ v1.toInt ∧ v1.toInt < n_tb.toInt) (t_8 : x_6.toInt = n_tb.toInt + (1 : Int)) (t_17 : 0 ≤ x_15.toInt ∧ x_15.toInt ≤ 100 * v1.toInt) (t_18 : x_15.toInt = (f_lengthHome (Int32.toNatClampNeg v1)).toInt) (t_21 : x_19.toInt = x_15.toInt + v2.toInt) (t_26 : x_24.toInt = (f_runs (Int32.toNatClampNeg v1)).toInt) (t_27 : 0 ≤ x_24.toInt ∧ x_24.toInt ≤ 1) (t_29 : ¬ x_24.toInt = (0 : Int)) (t_42 : (g_11 (Int32.toNatClampNeg v1)).toInt = (f_height (Int32.toNatClampNeg v1)).toInt) (t_45 : x_43.toInt = (g_11 (Int32.toNatClampNeg v1)).toInt) (t_47 : v3.toInt ≤ x_43.toInt) : 0 ≤ v1.toInt ∧ v1.toInt < ((40 : Nat) : Int) := by
  have := rg_rng n_tb; have := rg_rng v1; have := rg_rng v2; have := rg_rng v3; have := rg_rng x_6; have := rg_rng x_15; have := rg_rng x_19; have := rg_rng x_24; have := rg_rng x_43; omega
theorem lg_X10_add_33 (n_tb : Int32) (f_height : Nat → Int32) (f_lengthHome : Nat → Int32) (f_runs : Nat → Int32) (f_vacuum : Nat → Int32) (v1 : Int32) (v2 : Int32) (v3 : Int32) (x_6 : Int32) (g_11 : Nat → Int32) (x_15 : Int32) (x_19 : Int32) (x_24 : Int32) (x_43 : Int32) (x_51 : Int32) (yb : 1 ≤ n_tb.toInt ∧ n_tb.toInt ≤ 40) (yv : 0 ≤ v1.toInt ∧ v1.toInt < n_tb.toInt) (yv2 : 1 ≤ v2.toInt ∧ v2.toInt ≤ 100) (t_2 : n_tb.toInt < (40 : Int)) (h_4 : 0 ≤ v1.toInt ∧ v1.toInt < n_tb.toInt) (t_8 : x_6.toInt = n_tb.toInt + (1 : Int)) (t_17 : 0 ≤ x_15.toInt ∧ x_15.toInt ≤ 100 * v1.toInt) (t_18 : x_15.toInt = (f_lengthHome (Int32.toNatClampNeg v1)).toInt) (t_21 : x_19.toInt = x_15.toInt + v2.toInt) (t_26 : x_24.toInt = (f_runs (Int32.toNatClampNeg v1)).toInt) (t_27 : 0 ≤ x_24.toInt ∧ x_24.toInt ≤ 1) (t_29 : ¬ x_24.toInt = (0 : Int)) (t_42 : (g_11 (Int32.toNatClampNeg v1)).toInt = (f_height (Int32.toNatClampNeg v1)).toInt) (t_45 : x_43.toInt = (g_11 (Int32.toNatClampNeg v1)).toInt) (t_47 : v3.toInt ≤ x_43.toInt) (t_53 : x_51.toInt = (f_vacuum (Int32.toNatClampNeg v1)).toInt) : 0 ≤ v1.toInt ∧ v1.toInt < ((40 : Nat) : Int) := by
  have := rg_rng n_tb; have := rg_rng v1; have := rg_rng v2; have := rg_rng v3; have := rg_rng x_6; have := rg_rng x_15; have := rg_rng x_19; have := rg_rng x_24; have := rg_rng x_43; have := rg_rng x_51; omega
theorem lg_X10_add_34 (n_tb : Int32) (f_height : Nat → Int32) (f_lengthHome : Nat → Int32) (f_runs : Nat → Int32) (f_vacuum : Nat → Int32) (v1 : Int32) (v2 : Int32) (v3 : Int32) (x_6 : Int32) (g_11 : Nat → Int32) (x_15 : Int32) (x_19 : Int32) (x_24 : Int32) (x_43 : Int32) (x_51 : Int32) (yb : 1 ≤ n_tb.toInt ∧ n_tb.toInt ≤ 40) (yv : 0 ≤ v1.toInt ∧ v1.toInt < n_tb.toInt) (yv2 : 1 ≤ v2.toInt ∧ v2.toInt ≤ 100) (t_2 : n_tb.toInt < (40 : Int)) (h_4 : 0 ≤ v1.toInt ∧ v1.toInt < n_tb.toInt) (t_8 : x_6.toInt = n_tb.toInt + (1 : Int)) (t_17 : 0 ≤ x_15.toInt ∧ x_15.toInt ≤ 100 * v1.toInt) (t_18 : x_15.toInt = (f_lengthHome (Int32.toNatClampNeg v1)).toInt) (t_21 : x_19.toInt = x_15.toInt + v2.toInt) (t_26 : x_24.toInt = (f_runs (Int32.toNatClampNeg v1)).toInt) (t_27 : 0 ≤ x_24.toInt ∧ x_24.toInt ≤ 1) (t_29 : ¬ x_24.toInt = (0 : Int)) (t_42 : (g_11 (Int32.toNatClampNeg v1)).toInt = (f_height (Int32.toNatClampNeg v1)).toInt) (t_45 : x_43.toInt = (g_11 (Int32.toNatClampNeg v1)).toInt) (t_47 : v3.toInt ≤ x_43.toInt) (t_53 : x_51.toInt = (f_vacuum (Int32.toNatClampNeg v1)).toInt) (t_54 : 0 ≤ x_51.toInt ∧ x_51.toInt ≤ 100) : 0 ≤ n_tb.toInt ∧ n_tb.toInt < ((40 : Nat) : Int) := by
  have := rg_rng n_tb; have := rg_rng v1; have := rg_rng v2; have := rg_rng v3; have := rg_rng x_6; have := rg_rng x_15; have := rg_rng x_19; have := rg_rng x_24; have := rg_rng x_43; have := rg_rng x_51; omega
theorem lg_X10_add_35 (n_tb : Int32) (f_height : Nat → Int32) (f_lengthHome : Nat → Int32) (f_runs : Nat → Int32) (f_vacuum : Nat → Int32) (v1 : Int32) (v2 : Int32) (v3 : Int32) (x_6 : Int32) (g_11 : Nat → Int32) (x_15 : Int32) (x_19 : Int32) (x_24 : Int32) (x_43 : Int32) (x_51 : Int32) (yb : 1 ≤ n_tb.toInt ∧ n_tb.toInt ≤ 40) (yv : 0 ≤ v1.toInt ∧ v1.toInt < n_tb.toInt) (yv2 : 1 ≤ v2.toInt ∧ v2.toInt ≤ 100) (t_2 : n_tb.toInt < (40 : Int)) (h_4 : 0 ≤ v1.toInt ∧ v1.toInt < n_tb.toInt) (t_8 : x_6.toInt = n_tb.toInt + (1 : Int)) (t_17 : 0 ≤ x_15.toInt ∧ x_15.toInt ≤ 100 * v1.toInt) (t_18 : x_15.toInt = (f_lengthHome (Int32.toNatClampNeg v1)).toInt) (t_21 : x_19.toInt = x_15.toInt + v2.toInt) (t_26 : x_24.toInt = (f_runs (Int32.toNatClampNeg v1)).toInt) (t_27 : 0 ≤ x_24.toInt ∧ x_24.toInt ≤ 1) (t_29 : ¬ x_24.toInt = (0 : Int)) (t_42 : (g_11 (Int32.toNatClampNeg v1)).toInt = (f_height (Int32.toNatClampNeg v1)).toInt) (t_45 : x_43.toInt = (g_11 (Int32.toNatClampNeg v1)).toInt) (t_47 : v3.toInt ≤ x_43.toInt) (t_53 : x_51.toInt = (f_vacuum (Int32.toNatClampNeg v1)).toInt) (t_54 : 0 ≤ x_51.toInt ∧ x_51.toInt ≤ 100) : 0 ≤ x_51.toInt ∧ x_51.toInt ≤ 100 := by
  have := rg_rng n_tb; have := rg_rng v1; have := rg_rng v2; have := rg_rng v3; have := rg_rng x_6; have := rg_rng x_15; have := rg_rng x_19; have := rg_rng x_24; have := rg_rng x_43; have := rg_rng x_51; omega
theorem lg_X10_add_36 (n_tb : Int32) (f_height : Nat → Int32) (f_lengthHome : Nat → Int32) (f_runs : Nat → Int32) (f_vacuum : Nat → Int32) (v1 : Int32) (v2 : Int32) (v3 : Int32) (x_6 : Int32) (g_11 : Nat → Int32) (x_15 : Int32) (x_19 : Int32) (x_24 : Int32) (x_43 : Int32) (x_51 : Int32) (yb : 1 ≤ n_tb.toInt ∧ n_tb.toInt ≤ 40) (yv : 0 ≤ v1.toInt ∧ v1.toInt < n_tb.toInt) (yv2 : 1 ≤ v2.toInt ∧ v2.toInt ≤ 100) (t_2 : n_tb.toInt < (40 : Int)) (h_4 : 0 ≤ v1.toInt ∧ v1.toInt < n_tb.toInt) (t_8 : x_6.toInt = n_tb.toInt + (1 : Int)) (t_17 : 0 ≤ x_15.toInt ∧ x_15.toInt ≤ 100 * v1.toInt) (t_18 : x_15.toInt = (f_lengthHome (Int32.toNatClampNeg v1)).toInt) (t_21 : x_19.toInt = x_15.toInt + v2.toInt) (t_26 : x_24.toInt = (f_runs (Int32.toNatClampNeg v1)).toInt) (t_27 : 0 ≤ x_24.toInt ∧ x_24.toInt ≤ 1) (t_29 : ¬ x_24.toInt = (0 : Int)) (t_42 : (g_11 (Int32.toNatClampNeg v1)).toInt = (f_height (Int32.toNatClampNeg v1)).toInt) (t_45 : x_43.toInt = (g_11 (Int32.toNatClampNeg v1)).toInt) (t_47 : v3.toInt ≤ x_43.toInt) (t_53 : x_51.toInt = (f_vacuum (Int32.toNatClampNeg v1)).toInt) (t_54 : 0 ≤ x_51.toInt ∧ x_51.toInt ≤ 100) : (n_tb.toInt < 40 ∧ x_6.toInt = n_tb.toInt + 1) ∨ (n_tb.toInt = 40 ∧ x_6.toInt = n_tb.toInt) := by
  have := rg_rng n_tb; have := rg_rng v1; have := rg_rng v2; have := rg_rng v3; have := rg_rng x_6; have := rg_rng x_15; have := rg_rng x_19; have := rg_rng x_24; have := rg_rng x_43; have := rg_rng x_51; omega
theorem lg_X10_add_37 (n_tb : Int32) (f_height : Nat → Int32) (f_lengthHome : Nat → Int32) (f_runs : Nat → Int32) (f_vacuum : Nat → Int32) (v1 : Int32) (v2 : Int32) (v3 : Int32) (x_6 : Int32) (g_11 : Nat → Int32) (x_15 : Int32) (x_19 : Int32) (x_24 : Int32) (x_43 : Int32) (x_51 : Int32) (yb : 1 ≤ n_tb.toInt ∧ n_tb.toInt ≤ 40) (yv : 0 ≤ v1.toInt ∧ v1.toInt < n_tb.toInt) (yv2 : 1 ≤ v2.toInt ∧ v2.toInt ≤ 100) (t_2 : n_tb.toInt < (40 : Int)) (h_4 : 0 ≤ v1.toInt ∧ v1.toInt < n_tb.toInt) (t_8 : x_6.toInt = n_tb.toInt + (1 : Int)) (t_17 : 0 ≤ x_15.toInt ∧ x_15.toInt ≤ 100 * v1.toInt) (t_18 : x_15.toInt = (f_lengthHome (Int32.toNatClampNeg v1)).toInt) (t_21 : x_19.toInt = x_15.toInt + v2.toInt) (t_26 : x_24.toInt = (f_runs (Int32.toNatClampNeg v1)).toInt) (t_27 : 0 ≤ x_24.toInt ∧ x_24.toInt ≤ 1) (t_29 : ¬ x_24.toInt = (0 : Int)) (t_42 : (g_11 (Int32.toNatClampNeg v1)).toInt = (f_height (Int32.toNatClampNeg v1)).toInt) (t_45 : x_43.toInt = (g_11 (Int32.toNatClampNeg v1)).toInt) (t_47 : v3.toInt ≤ x_43.toInt) (t_53 : x_51.toInt = (f_vacuum (Int32.toNatClampNeg v1)).toInt) (t_54 : 0 ≤ x_51.toInt ∧ x_51.toInt ≤ 100) : x_6.toInt = n_tb.toInt + 1 := by
  have := rg_rng n_tb; have := rg_rng v1; have := rg_rng v2; have := rg_rng v3; have := rg_rng x_6; have := rg_rng x_15; have := rg_rng x_19; have := rg_rng x_24; have := rg_rng x_43; have := rg_rng x_51; omega
theorem lg_X10_add_38 (n_tb : Int32) (f_height : Nat → Int32) (f_lengthHome : Nat → Int32) (f_runs : Nat → Int32) (f_vacuum : Nat → Int32) (v1 : Int32) (v2 : Int32) (v3 : Int32) (x_6 : Int32) (g_11 : Nat → Int32) (x_15 : Int32) (x_19 : Int32) (x_24 : Int32) (x_43 : Int32) (x_51 : Int32) (yb : 1 ≤ n_tb.toInt ∧ n_tb.toInt ≤ 40) (yv : 0 ≤ v1.toInt ∧ v1.toInt < n_tb.toInt) (yv2 : 1 ≤ v2.toInt ∧ v2.toInt ≤ 100) (t_2 : n_tb.toInt < (40 : Int)) (h_4 : 0 ≤ v1.toInt ∧ v1.toInt < n_tb.toInt) (t_8 : x_6.toInt = n_tb.toInt + (1 : Int)) (t_17 : 0 ≤ x_15.toInt ∧ x_15.toInt ≤ 100 * v1.toInt) (t_18 : x_15.toInt = (f_lengthHome (Int32.toNatClampNeg v1)).toInt) (t_21 : x_19.toInt = x_15.toInt + v2.toInt) (t_26 : x_24.toInt = (f_runs (Int32.toNatClampNeg v1)).toInt) (t_27 : 0 ≤ x_24.toInt ∧ x_24.toInt ≤ 1) (t_29 : ¬ x_24.toInt = (0 : Int)) (t_42 : (g_11 (Int32.toNatClampNeg v1)).toInt = (f_height (Int32.toNatClampNeg v1)).toInt) (t_45 : x_43.toInt = (g_11 (Int32.toNatClampNeg v1)).toInt) (t_47 : v3.toInt ≤ x_43.toInt) (t_53 : x_51.toInt = (f_vacuum (Int32.toNatClampNeg v1)).toInt) (t_54 : 0 ≤ x_51.toInt ∧ x_51.toInt ≤ 100) : x_6.toInt = n_tb.toInt ∨ x_19.toInt = (f_lengthHome (Int32.toNatClampNeg v1)).toInt + v2.toInt := by
  have := rg_rng n_tb; have := rg_rng v1; have := rg_rng v2; have := rg_rng v3; have := rg_rng x_6; have := rg_rng x_15; have := rg_rng x_19; have := rg_rng x_24; have := rg_rng x_43; have := rg_rng x_51; omega
theorem lg_X10_add_39 (n_tb : Int32) (f_height : Nat → Int32) (f_lengthHome : Nat → Int32) (f_runs : Nat → Int32) (f_vacuum : Nat → Int32) (v1 : Int32) (v2 : Int32) (v3 : Int32) (x_6 : Int32) (g_11 : Nat → Int32) (x_15 : Int32) (x_19 : Int32) (x_24 : Int32) (x_43 : Int32) (x_51 : Int32) (yb : 1 ≤ n_tb.toInt ∧ n_tb.toInt ≤ 40) (yv : 0 ≤ v1.toInt ∧ v1.toInt < n_tb.toInt) (yv2 : 1 ≤ v2.toInt ∧ v2.toInt ≤ 100) (t_2 : n_tb.toInt < (40 : Int)) (h_4 : 0 ≤ v1.toInt ∧ v1.toInt < n_tb.toInt) (t_8 : x_6.toInt = n_tb.toInt + (1 : Int)) (t_17 : 0 ≤ x_15.toInt ∧ x_15.toInt ≤ 100 * v1.toInt) (t_18 : x_15.toInt = (f_lengthHome (Int32.toNatClampNeg v1)).toInt) (t_21 : x_19.toInt = x_15.toInt + v2.toInt) (t_26 : x_24.toInt = (f_runs (Int32.toNatClampNeg v1)).toInt) (t_27 : 0 ≤ x_24.toInt ∧ x_24.toInt ≤ 1) (t_29 : ¬ x_24.toInt = (0 : Int)) (t_42 : (g_11 (Int32.toNatClampNeg v1)).toInt = (f_height (Int32.toNatClampNeg v1)).toInt) (t_45 : x_43.toInt = (g_11 (Int32.toNatClampNeg v1)).toInt) (t_47 : v3.toInt ≤ x_43.toInt) (t_53 : x_51.toInt = (f_vacuum (Int32.toNatClampNeg v1)).toInt) (t_54 : 0 ≤ x_51.toInt ∧ x_51.toInt ≤ 100) : x_6.toInt = n_tb.toInt ∨ x_51.toInt = (f_vacuum (Int32.toNatClampNeg v1)).toInt := by
  have := rg_rng n_tb; have := rg_rng v1; have := rg_rng v2; have := rg_rng v3; have := rg_rng x_6; have := rg_rng x_15; have := rg_rng x_19; have := rg_rng x_24; have := rg_rng x_43; have := rg_rng x_51; omega
theorem lg_X10_add_40 (n_tb : Int32) (f_height : Nat → Int32) (f_lengthHome : Nat → Int32) (f_runs : Nat → Int32) (f_vacuum : Nat → Int32) (v1 : Int32) (v2 : Int32) (v3 : Int32) (x_6 : Int32) (g_11 : Nat → Int32) (x_15 : Int32) (x_19 : Int32) (x_24 : Int32) (x_43 : Int32) (x_51 : Int32) (yb : 1 ≤ n_tb.toInt ∧ n_tb.toInt ≤ 40) (yv : 0 ≤ v1.toInt ∧ v1.toInt < n_tb.toInt) (yv2 : 1 ≤ v2.toInt ∧ v2.toInt ≤ 100) (t_2 : n_tb.toInt < (40 : Int)) (h_4 : 0 ≤ v1.toInt ∧ v1.toInt < n_tb.toInt) (t_8 : x_6.toInt = n_tb.toInt + (1 : Int)) (t_17 : 0 ≤ x_15.toInt ∧ x_15.toInt ≤ 100 * v1.toInt) (t_18 : x_15.toInt = (f_lengthHome (Int32.toNatClampNeg v1)).toInt) (t_21 : x_19.toInt = x_15.toInt + v2.toInt) (t_26 : x_24.toInt = (f_runs (Int32.toNatClampNeg v1)).toInt) (t_27 : 0 ≤ x_24.toInt ∧ x_24.toInt ≤ 1) (t_29 : ¬ x_24.toInt = (0 : Int)) (t_42 : (g_11 (Int32.toNatClampNeg v1)).toInt = (f_height (Int32.toNatClampNeg v1)).toInt) (t_45 : x_43.toInt = (g_11 (Int32.toNatClampNeg v1)).toInt) (t_47 : v3.toInt ≤ x_43.toInt) (t_53 : x_51.toInt = (f_vacuum (Int32.toNatClampNeg v1)).toInt) (t_54 : 0 ≤ x_51.toInt ∧ x_51.toInt ≤ 100) : x_6.toInt = n_tb.toInt ∨ ((0 : Int) = 1 ∧ ((f_runs (Int32.toNatClampNeg v1)).toInt = 1 ∧ (f_height (Int32.toNatClampNeg v1)).toInt < v3.toInt)) ∨ ((0 : Int) = 0 ∧ ¬ ((f_runs (Int32.toNatClampNeg v1)).toInt = 1 ∧ (f_height (Int32.toNatClampNeg v1)).toInt < v3.toInt)) := by
  have := rg_rng n_tb; have := rg_rng v1; have := rg_rng v2; have := rg_rng v3; have := rg_rng x_6; have := rg_rng x_15; have := rg_rng x_19; have := rg_rng x_24; have := rg_rng x_43; have := rg_rng x_51; omega
theorem lg_X10_add_41 (n_tb : Int32) (f_height : Nat → Int32) (f_lengthHome : Nat → Int32) (f_runs : Nat → Int32) (f_vacuum : Nat → Int32) (v1 : Int32) (v2 : Int32) (v3 : Int32) (x_6 : Int32) (g_11 : Nat → Int32) (x_15 : Int32) (x_19 : Int32) (x_24 : Int32) (x_43 : Int32) (x_51 : Int32) (yb : 1 ≤ n_tb.toInt ∧ n_tb.toInt ≤ 40) (yv : 0 ≤ v1.toInt ∧ v1.toInt < n_tb.toInt) (yv2 : 1 ≤ v2.toInt ∧ v2.toInt ≤ 100) (t_2 : n_tb.toInt < (40 : Int)) (h_4 : 0 ≤ v1.toInt ∧ v1.toInt < n_tb.toInt) (t_8 : x_6.toInt = n_tb.toInt + (1 : Int)) (t_17 : 0 ≤ x_15.toInt ∧ x_15.toInt ≤ 100 * v1.toInt) (t_18 : x_15.toInt = (f_lengthHome (Int32.toNatClampNeg v1)).toInt) (t_21 : x_19.toInt = x_15.toInt + v2.toInt) (t_26 : x_24.toInt = (f_runs (Int32.toNatClampNeg v1)).toInt) (t_27 : 0 ≤ x_24.toInt ∧ x_24.toInt ≤ 1) (t_29 : ¬ x_24.toInt = (0 : Int)) (t_42 : (g_11 (Int32.toNatClampNeg v1)).toInt = (f_height (Int32.toNatClampNeg v1)).toInt) (t_45 : x_43.toInt = (g_11 (Int32.toNatClampNeg v1)).toInt) (t_47 : v3.toInt ≤ x_43.toInt) (t_53 : x_51.toInt = (f_vacuum (Int32.toNatClampNeg v1)).toInt) (t_54 : 0 ≤ x_51.toInt ∧ x_51.toInt ≤ 100) : x_6.toInt = n_tb.toInt ∨ (0 ≤ x_19.toInt ∧ x_19.toInt ≤ 100 * n_tb.toInt) := by
  have := rg_rng n_tb; have := rg_rng v1; have := rg_rng v2; have := rg_rng v3; have := rg_rng x_6; have := rg_rng x_15; have := rg_rng x_19; have := rg_rng x_24; have := rg_rng x_43; have := rg_rng x_51; omega
theorem lg_X10_add_42 (n_tb : Int32) (f_height : Nat → Int32) (f_lengthHome : Nat → Int32) (f_runs : Nat → Int32) (f_vacuum : Nat → Int32) (v1 : Int32) (v2 : Int32) (v3 : Int32) (x_6 : Int32) (g_11 : Nat → Int32) (x_15 : Int32) (x_19 : Int32) (x_24 : Int32) (x_43 : Int32) (x_51 : Int32) (yb : 1 ≤ n_tb.toInt ∧ n_tb.toInt ≤ 40) (yv : 0 ≤ v1.toInt ∧ v1.toInt < n_tb.toInt) (yv2 : 1 ≤ v2.toInt ∧ v2.toInt ≤ 100) (t_2 : n_tb.toInt < (40 : Int)) (h_4 : 0 ≤ v1.toInt ∧ v1.toInt < n_tb.toInt) (t_8 : x_6.toInt = n_tb.toInt + (1 : Int)) (t_17 : 0 ≤ x_15.toInt ∧ x_15.toInt ≤ 100 * v1.toInt) (t_18 : x_15.toInt = (f_lengthHome (Int32.toNatClampNeg v1)).toInt) (t_21 : x_19.toInt = x_15.toInt + v2.toInt) (t_26 : x_24.toInt = (f_runs (Int32.toNatClampNeg v1)).toInt) (t_27 : 0 ≤ x_24.toInt ∧ x_24.toInt ≤ 1) (t_29 : ¬ x_24.toInt = (0 : Int)) (t_42 : (g_11 (Int32.toNatClampNeg v1)).toInt = (f_height (Int32.toNatClampNeg v1)).toInt) (t_45 : x_43.toInt = (g_11 (Int32.toNatClampNeg v1)).toInt) (t_47 : v3.toInt ≤ x_43.toInt) (t_53 : x_51.toInt = (f_vacuum (Int32.toNatClampNeg v1)).toInt) (t_54 : 0 ≤ x_51.toInt ∧ x_51.toInt ≤ 100) : (n_tb.toInt < 40 ∧ n_tb.toInt = n_tb.toInt) ∨ (n_tb.toInt = 40 ∧ n_tb.toInt = (-1)) := by
  have := rg_rng n_tb; have := rg_rng v1; have := rg_rng v2; have := rg_rng v3; have := rg_rng x_6; have := rg_rng x_15; have := rg_rng x_19; have := rg_rng x_24; have := rg_rng x_43; have := rg_rng x_51; omega
theorem lg_X10_add_43 (n_tb : Int32) (f_height : Nat → Int32) (f_lengthHome : Nat → Int32) (f_runs : Nat → Int32) (v1 : Int32) (v2 : Int32) (v3 : Int32) (x_6 : Int32) (g_11 : Nat → Int32) (x_15 : Int32) (x_19 : Int32) (x_24 : Int32) (x_43 : Int32) (yb : 1 ≤ n_tb.toInt ∧ n_tb.toInt ≤ 40) (yv : 0 ≤ v1.toInt ∧ v1.toInt < n_tb.toInt) (yv2 : 1 ≤ v2.toInt ∧ v2.toInt ≤ 100) (t_2 : n_tb.toInt < (40 : Int)) (h_4 : 0 ≤ v1.toInt ∧ v1.toInt < n_tb.toInt) (t_8 : x_6.toInt = n_tb.toInt + (1 : Int)) (t_17 : 0 ≤ x_15.toInt ∧ x_15.toInt ≤ 100 * v1.toInt) (t_18 : x_15.toInt = (f_lengthHome (Int32.toNatClampNeg v1)).toInt) (t_21 : x_19.toInt = x_15.toInt + v2.toInt) (t_26 : x_24.toInt = (f_runs (Int32.toNatClampNeg v1)).toInt) (t_27 : 0 ≤ x_24.toInt ∧ x_24.toInt ≤ 1) (t_29 : ¬ x_24.toInt = (0 : Int)) (t_42 : (g_11 (Int32.toNatClampNeg v1)).toInt = (f_height (Int32.toNatClampNeg v1)).toInt) (t_45 : x_43.toInt = (g_11 (Int32.toNatClampNeg v1)).toInt) (t_47 : x_43.toInt < v3.toInt) : 0 ≤ n_tb.toInt ∧ n_tb.toInt < ((40 : Nat) : Int) := by
  have := rg_rng n_tb; have := rg_rng v1; have := rg_rng v2; have := rg_rng v3; have := rg_rng x_6; have := rg_rng x_15; have := rg_rng x_19; have := rg_rng x_24; have := rg_rng x_43; omega
theorem lg_X10_add_44 (n_tb : Int32) (f_height : Nat → Int32) (f_lengthHome : Nat → Int32) (f_runs : Nat → Int32) (v1 : Int32) (v2 : Int32) (v3 : Int32) (x_6 : Int32) (g_11 : Nat → Int32) (x_15 : Int32) (x_19 : Int32) (x_24 : Int32) (x_43 : Int32) (yb : 1 ≤ n_tb.toInt ∧ n_tb.toInt ≤ 40) (yv : 0 ≤ v1.toInt ∧ v1.toInt < n_tb.toInt) (yv2 : 1 ≤ v2.toInt ∧ v2.toInt ≤ 100) (t_2 : n_tb.toInt < (40 : Int)) (h_4 : 0 ≤ v1.toInt ∧ v1.toInt < n_tb.toInt) (t_8 : x_6.toInt = n_tb.toInt + (1 : Int)) (t_17 : 0 ≤ x_15.toInt ∧ x_15.toInt ≤ 100 * v1.toInt) (t_18 : x_15.toInt = (f_lengthHome (Int32.toNatClampNeg v1)).toInt) (t_21 : x_19.toInt = x_15.toInt + v2.toInt) (t_26 : x_24.toInt = (f_runs (Int32.toNatClampNeg v1)).toInt) (t_27 : 0 ≤ x_24.toInt ∧ x_24.toInt ≤ 1) (t_29 : ¬ x_24.toInt = (0 : Int)) (t_42 : (g_11 (Int32.toNatClampNeg v1)).toInt = (f_height (Int32.toNatClampNeg v1)).toInt) (t_45 : x_43.toInt = (g_11 (Int32.toNatClampNeg v1)).toInt) (t_47 : x_43.toInt < v3.toInt) : 0 ≤ (1 : Int) ∧ (1 : Int) ≤ 1 := by
  have := rg_rng n_tb; have := rg_rng v1; have := rg_rng v2; have := rg_rng v3; have := rg_rng x_6; have := rg_rng x_15; have := rg_rng x_19; have := rg_rng x_24; have := rg_rng x_43; omega
theorem lg_X10_add_45 (n_tb : Int32) (f_height : Nat → Int32) (f_lengthHome : Nat → Int32) (f_runs : Nat → Int32) (v1 : Int32) (v2 : Int32) (v3 : Int32) (x_6 : Int32) (g_11 : Nat → Int32) (x_15 : Int32) (x_19 : Int32) (x_24 : Int32) (x_43 : Int32) (yb : 1 ≤ n_tb.toInt ∧ n_tb.toInt ≤ 40) (yv : 0 ≤ v1.toInt ∧ v1.toInt < n_tb.toInt) (yv2 : 1 ≤ v2.toInt ∧ v2.toInt ≤ 100) (t_2 : n_tb.toInt < (40 : Int)) (h_4 : 0 ≤ v1.toInt ∧ v1.toInt < n_tb.toInt) (t_8 : x_6.toInt = n_tb.toInt + (1 : Int)) (t_17 : 0 ≤ x_15.toInt ∧ x_15.toInt ≤ 100 * v1.toInt) (t_18 : x_15.toInt = (f_lengthHome (Int32.toNatClampNeg v1)).toInt) (t_21 : x_19.toInt = x_15.toInt + v2.toInt) (t_26 : x_24.toInt = (f_runs (Int32.toNatClampNeg v1)).toInt) (t_27 : 0 ≤ x_24.toInt ∧ x_24.toInt ≤ 1) (t_29 : ¬ x_24.toInt = (0 : Int)) (t_42 : (g_11 (Int32.toNatClampNeg v1)).toInt = (f_height (Int32.toNatClampNeg v1)).toInt) (t_45 : x_43.toInt = (g_11 (Int32.toNatClampNeg v1)).toInt) (t_47 : x_43.toInt < v3.toInt) : 0 ≤ v1.toInt ∧ v1.toInt < ((40 : Nat) : Int) := by
  have := rg_rng n_tb; have := rg_rng v1; have := rg_rng v2; have := rg_rng v3; have := rg_rng x_6; have := rg_rng x_15; have := rg_rng x_19; have := rg_rng x_24; have := rg_rng x_43; omega
theorem lg_X10_add_46 (n_tb : Int32) (f_height : Nat → Int32) (f_lengthHome : Nat → Int32) (f_runs : Nat → Int32) (f_vacuum : Nat → Int32) (v1 : Int32) (v2 : Int32) (v3 : Int32) (x_6 : Int32) (g_11 : Nat → Int32) (x_15 : Int32) (x_19 : Int32) (x_24 : Int32) (x_43 : Int32) (x_63 : Int32) (yb : 1 ≤ n_tb.toInt ∧ n_tb.toInt ≤ 40) (yv : 0 ≤ v1.toInt ∧ v1.toInt < n_tb.toInt) (yv2 : 1 ≤ v2.toInt ∧ v2.toInt ≤ 100) (t_2 : n_tb.toInt < (40 : Int)) (h_4 : 0 ≤ v1.toInt ∧ v1.toInt < n_tb.toInt) (t_8 : x_6.toInt = n_tb.toInt + (1 : Int)) (t_17 : 0 ≤ x_15.toInt ∧ x_15.toInt ≤ 100 * v1.toInt) (t_18 : x_15.toInt = (f_lengthHome (Int32.toNatClampNeg v1)).toInt) (t_21 : x_19.toInt = x_15.toInt + v2.toInt) (t_26 : x_24.toInt = (f_runs (Int32.toNatClampNeg v1)).toInt) (t_27 : 0 ≤ x_24.toInt ∧ x_24.toInt ≤ 1) (t_29 : ¬ x_24.toInt = (0 : Int)) (t_42 : (g_11 (Int32.toNatClampNeg v1)).toInt = (f_height (Int32.toNatClampNeg v1)).toInt) (t_45 : x_43.toInt = (g_11 (Int32.toNatClampNeg v1)).toInt) (t_47 : x_43.toInt < v3.toInt) (t_65 : x_63.toInt = (f_vacuum (Int32.toNatClampNeg v1)).toInt) : 0 ≤ v1.toInt ∧ v1.toInt < ((40 : Nat) : Int) := by
  have := rg_rng n_tb; have := rg_rng v1; have := rg_rng v2; have := rg_rng v3; have := rg_rng x_6; have := rg_rng x_15; have := rg_rng x_19; have := rg_rng x_24; have := rg_rng x_43; have := rg_rng x_63; omega
theorem lg_X10_add_47 (n_tb : Int32) (f_height : Nat → Int32) (f_lengthHome : Nat → Int32) (f_runs : Nat → Int32) (f_vacuum : Nat → Int32) (v1 : Int32) (v2 : Int32) (v3 : Int32) (x_6 : Int32) (g_11 : Nat → Int32) (x_15 : Int32) (x_19 : Int32) (x_24 : Int32) (x_43 : Int32) (x_63 : Int32) (yb : 1 ≤ n_tb.toInt ∧ n_tb.toInt ≤ 40) (yv : 0 ≤ v1.toInt ∧ v1.toInt < n_tb.toInt) (yv2 : 1 ≤ v2.toInt ∧ v2.toInt ≤ 100) (t_2 : n_tb.toInt < (40 : Int)) (h_4 : 0 ≤ v1.toInt ∧ v1.toInt < n_tb.toInt) (t_8 : x_6.toInt = n_tb.toInt + (1 : Int)) (t_17 : 0 ≤ x_15.toInt ∧ x_15.toInt ≤ 100 * v1.toInt) (t_18 : x_15.toInt = (f_lengthHome (Int32.toNatClampNeg v1)).toInt) (t_21 : x_19.toInt = x_15.toInt + v2.toInt) (t_26 : x_24.toInt = (f_runs (Int32.toNatClampNeg v1)).toInt) (t_27 : 0 ≤ x_24.toInt ∧ x_24.toInt ≤ 1) (t_29 : ¬ x_24.toInt = (0 : Int)) (t_42 : (g_11 (Int32.toNatClampNeg v1)).toInt = (f_height (Int32.toNatClampNeg v1)).toInt) (t_45 : x_43.toInt = (g_11 (Int32.toNatClampNeg v1)).toInt) (t_47 : x_43.toInt < v3.toInt) (t_65 : x_63.toInt = (f_vacuum (Int32.toNatClampNeg v1)).toInt) (t_66 : 0 ≤ x_63.toInt ∧ x_63.toInt ≤ 100) : 0 ≤ n_tb.toInt ∧ n_tb.toInt < ((40 : Nat) : Int) := by
  have := rg_rng n_tb; have := rg_rng v1; have := rg_rng v2; have := rg_rng v3; have := rg_rng x_6; have := rg_rng x_15; have := rg_rng x_19; have := rg_rng x_24; have := rg_rng x_43; have := rg_rng x_63; omega
theorem lg_X10_add_48 (n_tb : Int32) (f_height : Nat → Int32) (f_lengthHome : Nat → Int32) (f_runs : Nat → Int32) (f_vacuum : Nat → Int32) (v1 : Int32) (v2 : Int32) (v3 : Int32) (x_6 : Int32) (g_11 : Nat → Int32) (x_15 : Int32) (x_19 : Int32) (x_24 : Int32) (x_43 : Int32) (x_63 : Int32) (yb : 1 ≤ n_tb.toInt ∧ n_tb.toInt ≤ 40) (yv : 0 ≤ v1.toInt ∧ v1.toInt < n_tb.toInt) (yv2 : 1 ≤ v2.toInt ∧ v2.toInt ≤ 100) (t_2 : n_tb.toInt < (40 : Int)) (h_4 : 0 ≤ v1.toInt ∧ v1.toInt < n_tb.toInt) (t_8 : x_6.toInt = n_tb.toInt + (1 : Int)) (t_17 : 0 ≤ x_15.toInt ∧ x_15.toInt ≤ 100 * v1.toInt) (t_18 : x_15.toInt = (f_lengthHome (Int32.toNatClampNeg v1)).toInt) (t_21 : x_19.toInt = x_15.toInt + v2.toInt) (t_26 : x_24.toInt = (f_runs (Int32.toNatClampNeg v1)).toInt) (t_27 : 0 ≤ x_24.toInt ∧ x_24.toInt ≤ 1) (t_29 : ¬ x_24.toInt = (0 : Int)) (t_42 : (g_11 (Int32.toNatClampNeg v1)).toInt = (f_height (Int32.toNatClampNeg v1)).toInt) (t_45 : x_43.toInt = (g_11 (Int32.toNatClampNeg v1)).toInt) (t_47 : x_43.toInt < v3.toInt) (t_65 : x_63.toInt = (f_vacuum (Int32.toNatClampNeg v1)).toInt) (t_66 : 0 ≤ x_63.toInt ∧ x_63.toInt ≤ 100) : 0 ≤ x_63.toInt ∧ x_63.toInt ≤ 100 := by
  have := rg_rng n_tb; have := rg_rng v1; have := rg_rng v2; have := rg_rng v3; have := rg_rng x_6; have := rg_rng x_15; have := rg_rng x_19; have := rg_rng x_24; have := rg_rng x_43; have := rg_rng x_63; omega
theorem lg_X10_add_49 (n_tb : Int32) (f_height : Nat → Int32) (f_lengthHome : Nat → Int32) (f_runs : Nat → Int32) (f_vacuum : Nat → Int32) (v1 : Int32) (v2 : Int32) (v3 : Int32) (x_6 : Int32) (g_11 : Nat → Int32) (x_15 : Int32) (x_19 : Int32) (x_24 : Int32) (x_43 : Int32) (x_63 : Int32) (yb : 1 ≤ n_tb.toInt ∧ n_tb.toInt ≤ 40) (yv : 0 ≤ v1.toInt ∧ v1.toInt < n_tb.toInt) (yv2 : 1 ≤ v2.toInt ∧ v2.toInt ≤ 100) (t_2 : n_tb.toInt < (40 : Int)) (h_4 : 0 ≤ v1.toInt ∧ v1.toInt < n_tb.toInt) (t_8 : x_6.toInt = n_tb.toInt + (1 : Int)) (t_17 : 0 ≤ x_15.toInt ∧ x_15.toInt ≤ 100 * v1.toInt) (t_18 : x_15.toInt = (f_lengthHome (Int32.toNatClampNeg v1)).toInt) (t_21 : x_19.toInt = x_15.toInt + v2.toInt) (t_26 : x_24.toInt = (f_runs (Int32.toNatClampNeg v1)).toInt) (t_27 : 0 ≤ x_24.toInt ∧ x_24.toInt ≤ 1) (t_29 : ¬ x_24.toInt = (0 : Int)) (t_42 : (g_11 (Int32.toNatClampNeg v1)).toInt = (f_height (Int32.toNatClampNeg v1)).toInt) (t_45 : x_43.toInt = (g_11 (Int32.toNatClampNeg v1)).toInt) (t_47 : x_43.toInt < v3.toInt) (t_65 : x_63.toInt = (f_vacuum (Int32.toNatClampNeg v1)).toInt) (t_66 : 0 ≤ x_63.toInt ∧ x_63.toInt ≤ 100) : (n_tb.toInt < 40 ∧ x_6.toInt = n_tb.toInt + 1) ∨ (n_tb.toInt = 40 ∧ x_6.toInt = n_tb.toInt) := by
  have := rg_rng n_tb; have := rg_rng v1; have := rg_rng v2; have := rg_rng v3; have := rg_rng x_6; have := rg_rng x_15; have := rg_rng x_19; have := rg_rng x_24; have := rg_rng x_43; have := rg_rng x_63; omega
theorem lg_X10_add_50 (n_tb : Int32) (f_height : Nat → Int32) (f_lengthHome : Nat → Int32) (f_runs : Nat → Int32) (f_vacuum : Nat → Int32) (v1 : Int32) (v2 : Int32) (v3 : Int32) (x_6 : Int32) (g_11 : Nat → Int32) (x_15 : Int32) (x_19 : Int32) (x_24 : Int32) (x_43 : Int32) (x_63 : Int32) (yb : 1 ≤ n_tb.toInt ∧ n_tb.toInt ≤ 40) (yv : 0 ≤ v1.toInt ∧ v1.toInt < n_tb.toInt) (yv2 : 1 ≤ v2.toInt ∧ v2.toInt ≤ 100) (t_2 : n_tb.toInt < (40 : Int)) (h_4 : 0 ≤ v1.toInt ∧ v1.toInt < n_tb.toInt) (t_8 : x_6.toInt = n_tb.toInt + (1 : Int)) (t_17 : 0 ≤ x_15.toInt ∧ x_15.toInt ≤ 100 * v1.toInt) (t_18 : x_15.toInt = (f_lengthHome (Int32.toNatClampNeg v1)).toInt) (t_21 : x_19.toInt = x_15.toInt + v2.toInt) (t_26 : x_24.toInt = (f_runs (Int32.toNatClampNeg v1)).toInt) (t_27 : 0 ≤ x_24.toInt ∧ x_24.toInt ≤ 1) (t_29 : ¬ x_24.toInt = (0 : Int)) (t_42 : (g_11 (Int32.toNatClampNeg v1)).toInt = (f_height (Int32.toNatClampNeg v1)).toInt) (t_45 : x_43.toInt = (g_11 (Int32.toNatClampNeg v1)).toInt) (t_47 : x_43.toInt < v3.toInt) (t_65 : x_63.toInt = (f_vacuum (Int32.toNatClampNeg v1)).toInt) (t_66 : 0 ≤ x_63.toInt ∧ x_63.toInt ≤ 100) : x_6.toInt = n_tb.toInt + 1 := by
  have := rg_rng n_tb; have := rg_rng v1; have := rg_rng v2; have := rg_rng v3; have := rg_rng x_6; have := rg_rng x_15; have := rg_rng x_19; have := rg_rng x_24; have := rg_rng x_43; have := rg_rng x_63; omega
theorem lg_X10_add_51 (n_tb : Int32) (f_height : Nat → Int32) (f_lengthHome : Nat → Int32) (f_runs : Nat → Int32) (f_vacuum : Nat → Int32) (v1 : Int32) (v2 : Int32) (v3 : Int32) (x_6 : Int32) (g_11 : Nat → Int32) (x_15 : Int32) (x_19 : Int32) (x_24 : Int32) (x_43 : Int32) (x_63 : Int32) (yb : 1 ≤ n_tb.toInt ∧ n_tb.toInt ≤ 40) (yv : 0 ≤ v1.toInt ∧ v1.toInt < n_tb.toInt) (yv2 : 1 ≤ v2.toInt ∧ v2.toInt ≤ 100) (t_2 : n_tb.toInt < (40 : Int)) (h_4 : 0 ≤ v1.toInt ∧ v1.toInt < n_tb.toInt) (t_8 : x_6.toInt = n_tb.toInt + (1 : Int)) (t_17 : 0 ≤ x_15.toInt ∧ x_15.toInt ≤ 100 * v1.toInt) (t_18 : x_15.toInt = (f_lengthHome (Int32.toNatClampNeg v1)).toInt) (t_21 : x_19.toInt = x_15.toInt + v2.toInt) (t_26 : x_24.toInt = (f_runs (Int32.toNatClampNeg v1)).toInt) (t_27 : 0 ≤ x_24.toInt ∧ x_24.toInt ≤ 1) (t_29 : ¬ x_24.toInt = (0 : Int)) (t_42 : (g_11 (Int32.toNatClampNeg v1)).toInt = (f_height (Int32.toNatClampNeg v1)).toInt) (t_45 : x_43.toInt = (g_11 (Int32.toNatClampNeg v1)).toInt) (t_47 : x_43.toInt < v3.toInt) (t_65 : x_63.toInt = (f_vacuum (Int32.toNatClampNeg v1)).toInt) (t_66 : 0 ≤ x_63.toInt ∧ x_63.toInt ≤ 100) : x_6.toInt = n_tb.toInt ∨ x_19.toInt = (f_lengthHome (Int32.toNatClampNeg v1)).toInt + v2.toInt := by
  have := rg_rng n_tb; have := rg_rng v1; have := rg_rng v2; have := rg_rng v3; have := rg_rng x_6; have := rg_rng x_15; have := rg_rng x_19; have := rg_rng x_24; have := rg_rng x_43; have := rg_rng x_63; omega
theorem lg_X10_add_52 (n_tb : Int32) (f_height : Nat → Int32) (f_lengthHome : Nat → Int32) (f_runs : Nat → Int32) (f_vacuum : Nat → Int32) (v1 : Int32) (v2 : Int32) (v3 : Int32) (x_6 : Int32) (g_11 : Nat → Int32) (x_15 : Int32) (x_19 : Int32) (x_24 : Int32) (x_43 : Int32) (x_63 : Int32) (yb : 1 ≤ n_tb.toInt ∧ n_tb.toInt ≤ 40) (yv : 0 ≤ v1.toInt ∧ v1.toInt < n_tb.toInt) (yv2 : 1 ≤ v2.toInt ∧ v2.toInt ≤ 100) (t_2 : n_tb.toInt < (40 : Int)) (h_4 : 0 ≤ v1.toInt ∧ v1.toInt < n_tb.toInt) (t_8 : x_6.toInt = n_tb.toInt + (1 : Int)) (t_17 : 0 ≤ x_15.toInt ∧ x_15.toInt ≤ 100 * v1.toInt) (t_18 : x_15.toInt = (f_lengthHome (Int32.toNatClampNeg v1)).toInt) (t_21 : x_19.toInt = x_15.toInt + v2.toInt) (t_26 : x_24.toInt = (f_runs (Int32.toNatClampNeg v1)).toInt) (t_27 : 0 ≤ x_24.toInt ∧ x_24.toInt ≤ 1) (t_29 : ¬ x_24.toInt = (0 : Int)) (t_42 : (g_11 (Int32.toNatClampNeg v1)).toInt = (f_height (Int32.toNatClampNeg v1)).toInt) (t_45 : x_43.toInt = (g_11 (Int32.toNatClampNeg v1)).toInt) (t_47 : x_43.toInt < v3.toInt) (t_65 : x_63.toInt = (f_vacuum (Int32.toNatClampNeg v1)).toInt) (t_66 : 0 ≤ x_63.toInt ∧ x_63.toInt ≤ 100) : x_6.toInt = n_tb.toInt ∨ x_63.toInt = (f_vacuum (Int32.toNatClampNeg v1)).toInt := by
  have := rg_rng n_tb; have := rg_rng v1; have := rg_rng v2; have := rg_rng v3; have := rg_rng x_6; have := rg_rng x_15; have := rg_rng x_19; have := rg_rng x_24; have := rg_rng x_43; have := rg_rng x_63; omega
theorem lg_X10_add_53 (n_tb : Int32) (f_height : Nat → Int32) (f_lengthHome : Nat → Int32) (f_runs : Nat → Int32) (f_vacuum : Nat → Int32) (v1 : Int32) (v2 : Int32) (v3 : Int32) (x_6 : Int32) (g_11 : Nat → Int32) (x_15 : Int32) (x_19 : Int32) (x_24 : Int32) (x_43 : Int32) (x_63 : Int32) (yb : 1 ≤ n_tb.toInt ∧ n_tb.toInt ≤ 40) (yv : 0 ≤ v1.toInt ∧ v1.toInt < n_tb.toInt) (yv2 : 1 ≤ v2.toInt ∧ v2.toInt ≤ 100) (t_2 : n_tb.toInt < (40 : Int)) (h_4 : 0 ≤ v1.toInt ∧ v1.toInt < n_tb.toInt) (t_8 : x_6.toInt = n_tb.toInt + (1 : Int)) (t_17 : 0 ≤ x_15.toInt ∧ x_15.toInt ≤ 100 * v1.toInt) (t_18 : x_15.toInt = (f_lengthHome (Int32.toNatClampNeg v1)).toInt) (t_21 : x_19.toInt = x_15.toInt + v2.toInt) (t_26 : x_24.toInt = (f_runs (Int32.toNatClampNeg v1)).toInt) (t_27 : 0 ≤ x_24.toInt ∧ x_24.toInt ≤ 1) (t_29 : ¬ x_24.toInt = (0 : Int)) (t_42 : (g_11 (Int32.toNatClampNeg v1)).toInt = (f_height (Int32.toNatClampNeg v1)).toInt) (t_45 : x_43.toInt = (g_11 (Int32.toNatClampNeg v1)).toInt) (t_47 : x_43.toInt < v3.toInt) (t_65 : x_63.toInt = (f_vacuum (Int32.toNatClampNeg v1)).toInt) (t_66 : 0 ≤ x_63.toInt ∧ x_63.toInt ≤ 100) : x_6.toInt = n_tb.toInt ∨ ((1 : Int) = 1 ∧ ((f_runs (Int32.toNatClampNeg v1)).toInt = 1 ∧ (f_height (Int32.toNatClampNeg v1)).toInt < v3.toInt)) ∨ ((1 : Int) = 0 ∧ ¬ ((f_runs (Int32.toNatClampNeg v1)).toInt = 1 ∧ (f_height (Int32.toNatClampNeg v1)).toInt < v3.toInt)) := by
  have := rg_rng n_tb; have := rg_rng v1; have := rg_rng v2; have := rg_rng v3; have := rg_rng x_6; have := rg_rng x_15; have := rg_rng x_19; have := rg_rng x_24; have := rg_rng x_43; have := rg_rng x_63; omega
theorem lg_X10_add_54 (n_tb : Int32) (f_height : Nat → Int32) (f_lengthHome : Nat → Int32) (f_runs : Nat → Int32) (f_vacuum : Nat → Int32) (v1 : Int32) (v2 : Int32) (v3 : Int32) (x_6 : Int32) (g_11 : Nat → Int32) (x_15 : Int32) (x_19 : Int32) (x_24 : Int32) (x_43 : Int32) (x_63 : Int32) (yb : 1 ≤ n_tb.toInt ∧ n_tb.toInt ≤ 40) (yv : 0 ≤ v1.toInt ∧ v1.toInt < n_tb.toInt) (yv2 : 1 ≤ v2.toInt ∧ v2.toInt ≤ 100) (t_2 : n_tb.toInt < (40 : Int)) (h_4 : 0 ≤ v1.toInt ∧ v1.toInt < n_tb.toInt) (t_8 : x_6.toInt = n_tb.toInt + (1 : Int)) (t_17 : 0 ≤ x_15.toInt ∧ x_15.toInt ≤ 100 * v1.toInt) (t_18 : x_15.toInt = (f_lengthHome (Int32.toNatClampNeg v1)).toInt) (t_21 : x_19.toInt = x_15.toInt + v2.toInt) (t_26 : x_24.toInt = (f_runs (Int32.toNatClampNeg v1)).toInt) (t_27 : 0 ≤ x_24.toInt ∧ x_24.toInt ≤ 1) (t_29 : ¬ x_24.toInt = (0 : Int)) (t_42 : (g_11 (Int32.toNatClampNeg v1)).toInt = (f_height (Int32.toNatClampNeg v1)).toInt) (t_45 : x_43.toInt = (g_11 (Int32.toNatClampNeg v1)).toInt) (t_47 : x_43.toInt < v3.toInt) (t_65 : x_63.toInt = (f_vacuum (Int32.toNatClampNeg v1)).toInt) (t_66 : 0 ≤ x_63.toInt ∧ x_63.toInt ≤ 100) : x_6.toInt = n_tb.toInt ∨ (0 ≤ x_19.toInt ∧ x_19.toInt ≤ 100 * n_tb.toInt) := by
  have := rg_rng n_tb; have := rg_rng v1; have := rg_rng v2; have := rg_rng v3; have := rg_rng x_6; have := rg_rng x_15; have := rg_rng x_19; have := rg_rng x_24; have := rg_rng x_43; have := rg_rng x_63; omega
theorem lg_X10_add_55 (n_tb : Int32) (f_height : Nat → Int32) (f_lengthHome : Nat → Int32) (f_runs : Nat → Int32) (f_vacuum : Nat → Int32) (v1 : Int32) (v2 : Int32) (v3 : Int32) (x_6 : Int32) (g_11 : Nat → Int32) (x_15 : Int32) (x_19 : Int32) (x_24 : Int32) (x_43 : Int32) (x_63 : Int32) (yb : 1 ≤ n_tb.toInt ∧ n_tb.toInt ≤ 40) (yv : 0 ≤ v1.toInt ∧ v1.toInt < n_tb.toInt) (yv2 : 1 ≤ v2.toInt ∧ v2.toInt ≤ 100) (t_2 : n_tb.toInt < (40 : Int)) (h_4 : 0 ≤ v1.toInt ∧ v1.toInt < n_tb.toInt) (t_8 : x_6.toInt = n_tb.toInt + (1 : Int)) (t_17 : 0 ≤ x_15.toInt ∧ x_15.toInt ≤ 100 * v1.toInt) (t_18 : x_15.toInt = (f_lengthHome (Int32.toNatClampNeg v1)).toInt) (t_21 : x_19.toInt = x_15.toInt + v2.toInt) (t_26 : x_24.toInt = (f_runs (Int32.toNatClampNeg v1)).toInt) (t_27 : 0 ≤ x_24.toInt ∧ x_24.toInt ≤ 1) (t_29 : ¬ x_24.toInt = (0 : Int)) (t_42 : (g_11 (Int32.toNatClampNeg v1)).toInt = (f_height (Int32.toNatClampNeg v1)).toInt) (t_45 : x_43.toInt = (g_11 (Int32.toNatClampNeg v1)).toInt) (t_47 : x_43.toInt < v3.toInt) (t_65 : x_63.toInt = (f_vacuum (Int32.toNatClampNeg v1)).toInt) (t_66 : 0 ≤ x_63.toInt ∧ x_63.toInt ≤ 100) : (n_tb.toInt < 40 ∧ n_tb.toInt = n_tb.toInt) ∨ (n_tb.toInt = 40 ∧ n_tb.toInt = (-1)) := by
  have := rg_rng n_tb; have := rg_rng v1; have := rg_rng v2; have := rg_rng v3; have := rg_rng x_6; have := rg_rng x_15; have := rg_rng x_19; have := rg_rng x_24; have := rg_rng x_43; have := rg_rng x_63; omega
theorem lg_X10_add_56 (n_tb : Int32) (v1 : Int32) (v2 : Int32) (yb : 1 ≤ n_tb.toInt ∧ n_tb.toInt ≤ 40) (yv : 0 ≤ v1.toInt ∧ v1.toInt < n_tb.toInt) (yv2 : 1 ≤ v2.toInt ∧ v2.toInt ≤ 100) (t_2 : n_tb.toInt < (40 : Int)) (h_4 : ¬ (0 ≤ v1.toInt ∧ v1.toInt < n_tb.toInt)) : (n_tb.toInt < 40 ∧ n_tb.toInt = n_tb.toInt + 1) ∨ (n_tb.toInt = 40 ∧ n_tb.toInt = n_tb.toInt) := by
  have := rg_rng n_tb; have := rg_rng v1; have := rg_rng v2; omega
theorem lg_X10_add_57 (n_tb : Int32) (v1 : Int32) (v2 : Int32) (yb : 1 ≤ n_tb.toInt ∧ n_tb.toInt ≤ 40) (yv : 0 ≤ v1.toInt ∧ v1.toInt < n_tb.toInt) (yv2 : 1 ≤ v2.toInt ∧ v2.toInt ≤ 100) (t_2 : n_tb.toInt < (40 : Int)) (h_4 : ¬ (0 ≤ v1.toInt ∧ v1.toInt < n_tb.toInt)) : n_tb.toInt = n_tb.toInt := by
  have := rg_rng n_tb; have := rg_rng v1; have := rg_rng v2; omega
theorem lg_X10_add_58 (n_tb : Int32) (f_lengthHome : Nat → Int32) (v1 : Int32) (v2 : Int32) (yb : 1 ≤ n_tb.toInt ∧ n_tb.toInt ≤ 40) (yv : 0 ≤ v1.toInt ∧ v1.toInt < n_tb.toInt) (yv2 : 1 ≤ v2.toInt ∧ v2.toInt ≤ 100) (t_2 : n_tb.toInt < (40 : Int)) (h_4 : ¬ (0 ≤ v1.toInt ∧ v1.toInt < n_tb.toInt)) : n_tb.toInt = n_tb.toInt ∨ (0 : Int) = (f_lengthHome (Int32.toNatClampNeg v1)).toInt + v2.toInt := by
  have := rg_rng n_tb; have := rg_rng v1; have := rg_rng v2; omega
theorem lg_X10_add_59 (n_tb : Int32) (f_vacuum : Nat → Int32) (v1 : Int32) (v2 : Int32) (yb : 1 ≤ n_tb.toInt ∧ n_tb.toInt ≤ 40) (yv : 0 ≤ v1.toInt ∧ v1.toInt < n_tb.toInt) (yv2 : 1 ≤ v2.toInt ∧ v2.toInt ≤ 100) (t_2 : n_tb.toInt < (40 : Int)) (h_4 : ¬ (0 ≤ v1.toInt ∧ v1.toInt < n_tb.toInt)) : n_tb.toInt = n_tb.toInt ∨ (0 : Int) = (f_vacuum (Int32.toNatClampNeg v1)).toInt := by
  have := rg_rng n_tb; have := rg_rng v1; have := rg_rng v2; omega
theorem lg_X10_add_60 (n_tb : Int32) (f_height : Nat → Int32) (f_runs : Nat → Int32) (v1 : Int32) (v2 : Int32) (v3 : Int32) (yb : 1 ≤ n_tb.toInt ∧ n_tb.toInt ≤ 40) (yv : 0 ≤ v1.toInt ∧ v1.toInt < n_tb.toInt) (yv2 : 1 ≤ v2.toInt ∧ v2.toInt ≤ 100) (t_2 : n_tb.toInt < (40 : Int)) (h_4 : ¬ (0 ≤ v1.toInt ∧ v1.toInt < n_tb.toInt)) : n_tb.toInt = n_tb.toInt ∨ ((0 : Int) = 1 ∧ ((f_runs (Int32.toNatClampNeg v1)).toInt = 1 ∧ (f_height (Int32.toNatClampNeg v1)).toInt < v3.toInt)) ∨ ((0 : Int) = 0 ∧ ¬ ((f_runs (Int32.toNatClampNeg v1)).toInt = 1 ∧ (f_height (Int32.toNatClampNeg v1)).toInt < v3.toInt)) := by
  have := rg_rng n_tb; have := rg_rng v1; have := rg_rng v2; have := rg_rng v3; omega
theorem lg_X10_add_61 (n_tb : Int32) (v1 : Int32) (v2 : Int32) (yb : 1 ≤ n_tb.toInt ∧ n_tb.toInt ≤ 40) (yv : 0 ≤ v1.toInt ∧ v1.toInt < n_tb.toInt) (yv2 : 1 ≤ v2.toInt ∧ v2.toInt ≤ 100) (t_2 : n_tb.toInt < (40 : Int)) (h_4 : ¬ (0 ≤ v1.toInt ∧ v1.toInt < n_tb.toInt)) : n_tb.toInt = n_tb.toInt ∨ (0 ≤ (0 : Int) ∧ (0 : Int) ≤ 100 * n_tb.toInt) := by
  have := rg_rng n_tb; have := rg_rng v1; have := rg_rng v2; omega
theorem lg_X10_add_62 (n_tb : Int32) (v1 : Int32) (v2 : Int32) (yb : 1 ≤ n_tb.toInt ∧ n_tb.toInt ≤ 40) (yv : 0 ≤ v1.toInt ∧ v1.toInt < n_tb.toInt) (yv2 : 1 ≤ v2.toInt ∧ v2.toInt ≤ 100) (t_2 : n_tb.toInt < (40 : Int)) (h_4 : ¬ (0 ≤ v1.toInt ∧ v1.toInt < n_tb.toInt)) : (n_tb.toInt < 40 ∧ (-1 : Int) = n_tb.toInt) ∨ (n_tb.toInt = 40 ∧ (-1 : Int) = (-1)) := by
  have := rg_rng n_tb; have := rg_rng v1; have := rg_rng v2; omega
set_option maxHeartbeats 4000000 in
set_option maxRecDepth 100000 in
theorem kX10_add (l : Launch) (dC : Nat → ClassId) (dI : Nat → Nat → Nat) (sz : Nat) (h0 : Nat) (t_to : Nat) (t_height : Nat) (t_member : Nat) (t_lengthHome : Nat) (t_runs : Nat) (t_leak : Nat) (t_vacuum : Nat) (t_reading : Nat) (n_tb : Int32) (k_to : ClassId) (k_height : ClassId) (k_member : ClassId) (k_lengthHome : ClassId) (k_runs : ClassId) (k_vacuum : ClassId) (k_reading : ClassId) (f_to : Nat → Int32) (f_height : Nat → Int32) (f_member : Nat → Int32) (f_lengthHome : Nat → Int32) (f_runs : Nat → Int32) (f_vacuum : Nat → Int32) (f_reading : Nat → Int32) (v1 : Int32) (v2 : Int32) (v3 : Int32) (v4 : Int32) (yb : 1 ≤ n_tb.toInt ∧ n_tb.toInt ≤ 40) (yvac : Rg f_vacuum 40 0 100) (yv : 0 ≤ v1.toInt ∧ v1.toInt < n_tb.toInt) (ylb : Lb f_lengthHome n_tb.toInt) (yrr : Rg f_runs 40 0 1) (yv2 : 1 ≤ v2.toInt ∧ v2.toInt ≤ 100) : Met l yX10_add (Cond.code yX10_add cX10_add 6 (some .int) :: bg) ({ frames := 1, cells := 0, slots := 0, locals := 21 }) (pcW dC dI [.ref h0, .int v1, .int v2, .int v3, .int v4] sz [(h0, .inr (10, [.ref t_to, .ref t_height, .ref t_member, .ref t_lengthHome, .ref t_runs, .ref t_leak, .ref t_vacuum, .ref t_reading, .int n_tb])), (t_to, .inl (k_to, 40, .inl f_to)), (t_height, .inl (k_height, 40, .inl f_height)), (t_member, .inl (k_member, 40, .inl f_member)), (t_lengthHome, .inl (k_lengthHome, 40, .inl f_lengthHome)), (t_runs, .inl (k_runs, 40, .inl f_runs)), (t_vacuum, .inl (k_vacuum, 40, .inl f_vacuum)), (t_reading, .inl (k_reading, 40, .inl f_reading))] [(k_to, .int), (k_height, .int), (k_member, .int), (k_lengthHome, .int), (k_runs, .boolean), (k_vacuum, .int), (k_reading, .int)]) (va_Qi (fun (r : Int32) (u : Unit) => (n_tb.toInt < 40 ∧ r.toInt = n_tb.toInt) ∨ (n_tb.toInt = 40 ∧ r.toInt = (-1))) (fun (u : Unit) (t : State) => ∃ (w_tb : Int32) (w_to : Nat → Int32) (w_height : Nat → Int32) (w_member : Nat → Int32) (w_lengthHome : Nat → Int32) (w_runs : Nat → Int32) (w_vacuum : Nat → Int32) (w_reading : Nat → Int32) (xl : Int32) (xr : Int32) (xv : Int32), ((n_tb.toInt < 40 ∧ w_tb.toInt = n_tb.toInt + 1) ∨ (n_tb.toInt = 40 ∧ w_tb.toInt = n_tb.toInt)) ∧ Rg w_vacuum 40 0 100 ∧ Ua w_to f_to n_tb v1 w_tb ∧ Ua w_height f_height n_tb v3 w_tb ∧ Ua w_member f_member n_tb v4 w_tb ∧ Ua w_lengthHome f_lengthHome n_tb xl w_tb ∧ Ua w_runs f_runs n_tb xr w_tb ∧ Ua w_vacuum f_vacuum n_tb xv w_tb ∧ Ua w_reading f_reading n_tb (-1) w_tb ∧ (w_tb.toInt = n_tb.toInt ∨ xl.toInt = (f_lengthHome (Int32.toNatClampNeg v1)).toInt + v2.toInt) ∧ (w_tb.toInt = n_tb.toInt ∨ xv.toInt = (f_vacuum (Int32.toNatClampNeg v1)).toInt) ∧ (w_tb.toInt = n_tb.toInt ∨ (xr.toInt = 1 ∧ ((f_runs (Int32.toNatClampNeg v1)).toInt = 1 ∧ (f_height (Int32.toNatClampNeg v1)).toInt < v3.toInt)) ∨ (xr.toInt = 0 ∧ ¬ ((f_runs (Int32.toNatClampNeg v1)).toInt = 1 ∧ (f_height (Int32.toNatClampNeg v1)).toInt < v3.toInt))) ∧ Rg w_runs 40 0 1 ∧ (w_tb.toInt = n_tb.toInt ∨ (0 ≤ xl.toInt ∧ xl.toInt ≤ 100 * n_tb.toInt)) ∧ va_P (dC, dI) vwCl [(h0, .inr (10, [.ref t_to, .ref t_height, .ref t_member, .ref t_lengthHome, .ref t_runs, .ref t_leak, .ref t_vacuum, .ref t_reading, .int w_tb])), (t_to, .inl (k_to, 40, .inl w_to)), (t_height, .inl (k_height, 40, .inl w_height)), (t_member, .inl (k_member, 40, .inl w_member)), (t_lengthHome, .inl (k_lengthHome, 40, .inl w_lengthHome)), (t_runs, .inl (k_runs, 40, .inl w_runs)), (t_vacuum, .inl (k_vacuum, 40, .inl w_vacuum)), (t_reading, .inl (k_reading, 40, .inl w_reading))] t.heap ∧ va_K (dC, dI) vwCl [] t ∧ va_D (va_A [(h0, .inr (10, [.ref t_to, .ref t_height, .ref t_member, .ref t_lengthHome, .ref t_runs, .ref t_leak, .ref t_vacuum, .ref t_reading, .int n_tb])), (t_to, .inl (k_to, 40, .inl f_to)), (t_height, .inl (k_height, 40, .inl f_height)), (t_member, .inl (k_member, 40, .inl f_member)), (t_lengthHome, .inl (k_lengthHome, 40, .inl f_lengthHome)), (t_runs, .inl (k_runs, 40, .inl f_runs)), (t_vacuum, .inl (k_vacuum, 40, .inl f_vacuum)), (t_reading, .inl (k_reading, 40, .inl f_reading))] sz) [(h0, .inr (10, [.ref t_to, .ref t_height, .ref t_member, .ref t_lengthHome, .ref t_runs, .ref t_leak, .ref t_vacuum, .ref t_reading, .int w_tb])), (t_to, .inl (k_to, 40, .inl w_to)), (t_height, .inl (k_height, 40, .inl w_height)), (t_member, .inl (k_member, 40, .inl w_member)), (t_lengthHome, .inl (k_lengthHome, 40, .inl w_lengthHome)), (t_runs, .inl (k_runs, 40, .inl w_runs)), (t_vacuum, .inl (k_vacuum, 40, .inl w_vacuum)), (t_reading, .inl (k_reading, 40, .inl w_reading))]) (va_A [(h0, .inr (10, [.ref t_to, .ref t_height, .ref t_member, .ref t_lengthHome, .ref t_runs, .ref t_leak, .ref t_vacuum, .ref t_reading, .int n_tb])), (t_to, .inl (k_to, 40, .inl f_to)), (t_height, .inl (k_height, 40, .inl f_height)), (t_member, .inl (k_member, 40, .inl f_member)), (t_lengthHome, .inl (k_lengthHome, 40, .inl f_lengthHome)), (t_runs, .inl (k_runs, 40, .inl f_runs)), (t_vacuum, .inl (k_vacuum, 40, .inl f_vacuum)), (t_reading, .inl (k_reading, 40, .inl f_reading))] sz)) 0 0 (va_A [(h0, .inr (10, [.ref t_to, .ref t_height, .ref t_member, .ref t_lengthHome, .ref t_runs, .ref t_leak, .ref t_vacuum, .ref t_reading, .int n_tb])), (t_to, .inl (k_to, 40, .inl f_to)), (t_height, .inl (k_height, 40, .inl f_height)), (t_member, .inl (k_member, 40, .inl f_member)), (t_lengthHome, .inl (k_lengthHome, 40, .inl f_lengthHome)), (t_runs, .inl (k_runs, 40, .inl f_runs)), (t_vacuum, .inl (k_vacuum, 40, .inl f_vacuum)), (t_reading, .inl (k_reading, 40, .inl f_reading))] sz) := by
  refine Met.ofW (cc := cX10_add) (maxL := 6) (ret := (some .int)) pnX10 rfl ?_
  intro p e s m args below meth c s₁ B hml hv
  obtain ⟨rfl, hsz, hP, hK, hD0, hN⟩ := hv
  have hx := B.exec
  have hb := B.bytes
  have hr := B.returns
  have htb : ∀ w ∈ bg, w.before [.ref h0, .int v1, .int v2, .int v3, .int v4].toArray s = true := fun w h => atoms_spec (ws := Cond.code yX10_add cX10_add 6 (some .int) :: bg) B.pre w (List.mem_cons_of_mem _ h)
  have hown : s.vm.findClass RX10 = some m.cls := findClass_of_methodNamed B.named
  have hlocks := B.notSynchronized
  subst hsz
  have hD := hD0.self (sz := s.heap.size)
  generalize hAe : va_A [(h0, .inr (10, [.ref t_to, .ref t_height, .ref t_member, .ref t_lengthHome, .ref t_runs, .ref t_leak, .ref t_vacuum, .ref t_reading, .int n_tb])), (t_to, .inl (k_to, 40, .inl f_to)), (t_height, .inl (k_height, 40, .inl f_height)), (t_member, .inl (k_member, 40, .inl f_member)), (t_lengthHome, .inl (k_lengthHome, 40, .inl f_lengthHome)), (t_runs, .inl (k_runs, 40, .inl f_runs)), (t_vacuum, .inl (k_vacuum, 40, .inl f_vacuum)), (t_reading, .inl (k_reading, 40, .inl f_reading))] s.heap.size = A at hD ⊢
  have hA : ∀ q : Nat, s.heap.size ≤ q → A q := fun q h => by rw [← hAe]; exact Or.inr h
  have hS : va_S A s.heap s.heap [] := va_S.rf
  have hl := lv_entry ([.ref h0, .int v1, .int v2, .int v3, .int v4]) (n := 6) (Nat.le_of_ble_eq_true rfl)
  rw [lg_entry_eq]
  generalize (lg_sl ([.ref h0, .int v1, .int v2, .int v3, .int v4]) ++ List.replicate (6 - (lg_sl ([.ref h0, .int v1, .int v2, .int v3, .int v4])).length) Slot.unset).toArray = ls at hl ⊢
  change lv_has ls 6 [(0, .ref h0), (1, .int v1), (2, .int v2), (3, .int v3), (4, .int v4)] at hl
  clear hD0 hAe
  refine go0 (wsP := fun H => va_P (dC, dI) vwCl [(h0, .inr (10, [.ref t_to, .ref t_height, .ref t_member, .ref t_lengthHome, .ref t_runs, .ref t_leak, .ref t_vacuum, .ref t_reading, .int n_tb])), (t_to, .inl (k_to, 40, .inl f_to)), (t_height, .inl (k_height, 40, .inl f_height)), (t_member, .inl (k_member, 40, .inl f_member)), (t_lengthHome, .inl (k_lengthHome, 40, .inl f_lengthHome)), (t_runs, .inl (k_runs, 40, .inl f_runs)), (t_vacuum, .inl (k_vacuum, 40, .inl f_vacuum)), (t_reading, .inl (k_reading, 40, .inl f_reading))] H) hP hS ?_
  clear hP hS; intro H locs hP hS
  change va_P (dC, dI) vwCl [(h0, .inr (10, [.ref t_to, .ref t_height, .ref t_member, .ref t_lengthHome, .ref t_runs, .ref t_leak, .ref t_vacuum, .ref t_reading, .int n_tb])), (t_to, .inl (k_to, 40, .inl f_to)), (t_height, .inl (k_height, 40, .inl f_height)), (t_member, .inl (k_member, 40, .inl f_member)), (t_lengthHome, .inl (k_lengthHome, 40, .inl f_lengthHome)), (t_runs, .inl (k_runs, 40, .inl f_runs)), (t_vacuum, .inl (k_vacuum, 40, .inl f_vacuum)), (t_reading, .inl (k_reading, 40, .inl f_reading))] H at hP
  refine lv_aload_n hx hb dX10_add_0 rfl (lv_at hl 0 rfl) ?_
  refine va_get (D := (dC, dI)) (ci := 10) (v := .int n_tb) (C := RX10) (T := TX10) (N := 9) hx hb htb iX10 hown hK hP 0 rfl rfl 8 (Nat.le_of_ble_eq_true rfl) (htb _ m_42) (fun _ h9 => h9) rfl dX10_add_1 ?_
  refine lv_bipush (v := 40) hx hb dX10_add_4 (by decide) ?_
  refine lv_icmp_ge (tgt := 17) hx hb dX10_add_6 (by decide) (fun c_1 => ?_) (fun c_1 => ?_)
  · have t_2 : (40 : Int) ≤ n_tb.toInt := i_le (by decide) rfl c_1
    refine lv_iconst (v := (-1)) hx hb dX10_add_17 (by decide) ?_
    refine W.widen (k := 0) (n := 0) (Nat.le_of_ble_eq_true rfl) (Nat.le_of_ble_eq_true rfl) ?_
    have hP9 := hP.sub (ws' := [(h0, .inr (10, [.ref t_to, .ref t_height, .ref t_member, .ref t_lengthHome, .ref t_runs, .ref t_leak, .ref t_vacuum, .ref t_reading, .int n_tb])), (t_to, .inl (k_to, 40, .inl f_to)), (t_height, .inl (k_height, 40, .inl f_height)), (t_member, .inl (k_member, 40, .inl f_member)), (t_lengthHome, .inl (k_lengthHome, 40, .inl f_lengthHome)), (t_runs, .inl (k_runs, 40, .inl f_runs)), (t_vacuum, .inl (k_vacuum, 40, .inl f_vacuum)), (t_reading, .inl (k_reading, 40, .inl f_reading))]) [0, 1, 2, 3, 4, 5, 6, 7] rfl
    have hD9 := hD.sub (ws' := [(h0, .inr (10, [.ref t_to, .ref t_height, .ref t_member, .ref t_lengthHome, .ref t_runs, .ref t_leak, .ref t_vacuum, .ref t_reading, .int n_tb])), (t_to, .inl (k_to, 40, .inl f_to)), (t_height, .inl (k_height, 40, .inl f_height)), (t_member, .inl (k_member, 40, .inl f_member)), (t_lengthHome, .inl (k_lengthHome, 40, .inl f_lengthHome)), (t_runs, .inl (k_runs, 40, .inl f_runs)), (t_vacuum, .inl (k_vacuum, 40, .inl f_vacuum)), (t_reading, .inl (k_reading, 40, .inl f_reading))]) [0, 1, 2, 3, 4, 5, 6, 7] (by decide) rfl
    have hK9 := hK.sub (tys' := []) [] rfl
    exact W.iret (v := (-1)) hx hb hr (fun t ht hW => ⟨⟨(-1), (), rfl, (lg_X10_add_6 n_tb v1 v2 yb yv yv2 t_2), ⟨n_tb, f_to, f_height, f_member, f_lengthHome, f_runs, f_vacuum, f_reading, 0, 0, 0, (lg_X10_add_0 n_tb v1 v2 yb yv yv2 t_2), yvac, (Ua_s (lg_X10_add_1 n_tb v1 v2 yb yv yv2 t_2)), (Ua_s (lg_X10_add_1 n_tb v1 v2 yb yv yv2 t_2)), (Ua_s (lg_X10_add_1 n_tb v1 v2 yb yv yv2 t_2)), (Ua_s (lg_X10_add_1 n_tb v1 v2 yb yv yv2 t_2)), (Ua_s (lg_X10_add_1 n_tb v1 v2 yb yv yv2 t_2)), (Ua_s (lg_X10_add_1 n_tb v1 v2 yb yv yv2 t_2)), (Ua_s (lg_X10_add_1 n_tb v1 v2 yb yv yv2 t_2)), (lg_X10_add_2 n_tb f_lengthHome v1 v2 yb yv yv2 t_2), (lg_X10_add_3 n_tb f_vacuum v1 v2 yb yv yv2 t_2), (lg_X10_add_4 n_tb f_height f_runs v1 v2 v3 yb yv yv2 t_2), yrr, (lg_X10_add_5 n_tb v1 v2 yb yv yv2 t_2), by rw [ht]; exact hP9, va_K.moved hW.alike hK9, hD9⟩⟩, hS.F ht⟩) hS.2.2 dX10_add_18
  · have t_2 : n_tb.toInt < (40 : Int) := i_nle (by decide) rfl c_1
    refine lv_aload_n hx hb dX10_add_9 rfl (lv_at hl 0 rfl) ?_
    refine lv_iload_n hx hb dX10_add_10 rfl (lv_at hl 1 rfl) ?_
    have hPc := hP.sub (ws' := [(h0, .inr (10, [.ref t_to, .ref t_height, .ref t_member, .ref t_lengthHome, .ref t_runs, .ref t_leak, .ref t_vacuum, .ref t_reading, .int n_tb]))]) [0] rfl
    have hDc := hD.sub (ws' := [(h0, .inr (10, [.ref t_to, .ref t_height, .ref t_member, .ref t_lengthHome, .ref t_runs, .ref t_leak, .ref t_vacuum, .ref t_reading, .int n_tb]))]) [0] (by decide) rfl
    have hKc := hK.sub (tys' := []) [] rfl
    have hFc := va_free (wc := [(h0, .inr (10, [.ref t_to, .ref t_height, .ref t_member, .ref t_lengthHome, .ref t_runs, .ref t_leak, .ref t_vacuum, .ref t_reading, .int n_tb]))]) hD hS hA [0] rfl
    refine va_calli (va_runV (C := RX10) (As := [.int v1]) (rest := []) ⟨hx, hb, hml, hown, htb⟩ (kX10_has l dC dI H.size h0 t_to t_height t_member t_lengthHome t_runs t_leak t_vacuum t_reading n_tb v1 ) ⟨callB_of 1 htb (gd_c m_352) rfl rfl rfl (htb _ m_2) (htb _ m_363) hdX10_has ⟨(Nat.le_of_ble_eq_true rfl), (Nat.le_of_ble_eq_true rfl)⟩, htb _ m_350, htb _ m_351⟩ ⟨pcW_blind, va_recv hKc hPc (ci := 10) (q0 := 0) rfl rfl, pcW_at hPc hKc hDc hN⟩ rfl rfl hl.1 rfl (lv_room (Nat.le_of_ble_eq_true rfl)) dX10_add_11 ⟨(Nat.le_of_ble_eq_true rfl), (Nat.le_of_ble_eq_true rfl)⟩) hS (fun q _ h => hFc q h) hFc (fun r_3 u t H1 locs1 ht hvm h_4 hB hz1 hk1 hS1 => ?_)
    obtain ⟨hP1, hK1, hD1⟩ := hB
    rw [ht] at hP1
    obtain ⟨hPn, hDn⟩ := va_join (wr := [(t_to, .inl (k_to, 40, .inl f_to)), (t_height, .inl (k_height, 40, .inl f_height)), (t_member, .inl (k_member, 40, .inl f_member)), (t_lengthHome, .inl (k_lengthHome, 40, .inl f_lengthHome)), (t_runs, .inl (k_runs, 40, .inl f_runs)), (t_vacuum, .inl (k_vacuum, 40, .inl f_vacuum)), (t_reading, .inl (k_reading, 40, .inl f_reading))]) (w1 := [(h0, .inr (10, [.ref t_to, .ref t_height, .ref t_member, .ref t_lengthHome, .ref t_runs, .ref t_leak, .ref t_vacuum, .ref t_reading, .int n_tb]))]) hP hD [0] [1, 2, 3, 4, 5, 6, 7] rfl rfl (by decide) (by decide) hk1 hFc hP1 hD1
    clear hP1 hD1 hK1
    clear hP hD hS hPc hDc hKc hFc hk1 hz1 ht hvm
    clear t
    revert hS1 hPn hDn; generalize H1 = H; generalize locs1 = locs; intro hS hP hD
    change va_P (dC, dI) vwCl [(t_to, .inl (k_to, 40, .inl f_to)), (t_height, .inl (k_height, 40, .inl f_height)), (t_member, .inl (k_member, 40, .inl f_member)), (t_lengthHome, .inl (k_lengthHome, 40, .inl f_lengthHome)), (t_runs, .inl (k_runs, 40, .inl f_runs)), (t_vacuum, .inl (k_vacuum, 40, .inl f_vacuum)), (t_reading, .inl (k_reading, 40, .inl f_reading)), (h0, .inr (10, [.ref t_to, .ref t_height, .ref t_member, .ref t_lengthHome, .ref t_runs, .ref t_leak, .ref t_vacuum, .ref t_reading, .int n_tb]))] H at hP
    change va_D A [(t_to, .inl (k_to, 40, .inl f_to)), (t_height, .inl (k_height, 40, .inl f_height)), (t_member, .inl (k_member, 40, .inl f_member)), (t_lengthHome, .inl (k_lengthHome, 40, .inl f_lengthHome)), (t_runs, .inl (k_runs, 40, .inl f_runs)), (t_vacuum, .inl (k_vacuum, 40, .inl f_vacuum)), (t_reading, .inl (k_reading, 40, .inl f_reading)), (h0, .inr (10, [.ref t_to, .ref t_height, .ref t_member, .ref t_lengthHome, .ref t_runs, .ref t_leak, .ref t_vacuum, .ref t_reading, .int n_tb]))] at hD
    rcases h_4 with ⟨rfl, h_4⟩ | ⟨rfl, h_4⟩
    · refine lv_if_ne (tgt := 19) hx hb dX10_add_14 (by decide) ?_ (fun c_5 => absurd c_5 (by decide))
      intro _
      refine lv_aload_n hx hb dX10_add_19 rfl (lv_at hl 0 rfl) ?_
      refine va_get (D := (dC, dI)) (ci := 10) (v := .int n_tb) (C := RX10) (T := TX10) (N := 9) hx hb htb iX10 hown hK hP 7 rfl rfl 8 (Nat.le_of_ble_eq_true rfl) (htb _ m_42) (fun _ h9 => h9) rfl dX10_add_20 ?_
      refine lv_istore (lv' := [(5, .int n_tb), (0, .ref h0), (1, .int v1), (2, .int v2), (3, .int v3), (4, .int v4)]) hx hb dX10_add_23 hl (by decide) rfl ?_
      clear hl; intro ls hl
      refine lv_aload_n hx hb dX10_add_25 rfl (lv_at hl 1 rfl) ?_
      refine lv_dup hx hb dX10_add_26 rfl ?_
      refine va_get (D := (dC, dI)) (ci := 10) (v := .int n_tb) (C := RX10) (T := TX10) (N := 9) hx hb htb iX10 hown hK hP 7 rfl rfl 8 (Nat.le_of_ble_eq_true rfl) (htb _ m_42) (fun _ h9 => h9) rfl dX10_add_27 ?_
      refine lv_iconst (v := 1) hx hb dX10_add_30 (by decide) ?_
      refine lv_iadd hx hb dX10_add_31 ?_
      refine lv_topi (fun x_6 ex_7 => ?_)
      have t_8 : x_6.toInt = n_tb.toInt + (1 : Int) := i_add rfl (by decide) (lg_X10_add_7 n_tb v1 v2 yb yv yv2 t_2 h_4) ex_7
      refine va_put (D := (dC, dI)) (ci := 10) (v := .int x_6) (C := RX10) (T := TX10) (N := 9) hx hb htb iX10 tyX10 tyX10_ok nmX10 hown hK hP hD hS 7 rfl rfl 8 (Nat.le_of_ble_eq_true rfl) (htb _ m_42) (fun _ h9 => h9) rfl (tyX10_ok 8 (Nat.le_of_ble_eq_true rfl)) rfl rfl (Nat.le_of_ble_eq_true rfl) dX10_add_32 ?_
      clear hP hD hS; intro H locs hP hD hS
      change va_P (dC, dI) vwCl [(t_to, .inl (k_to, 40, .inl f_to)), (t_height, .inl (k_height, 40, .inl f_height)), (t_member, .inl (k_member, 40, .inl f_member)), (t_lengthHome, .inl (k_lengthHome, 40, .inl f_lengthHome)), (t_runs, .inl (k_runs, 40, .inl f_runs)), (t_vacuum, .inl (k_vacuum, 40, .inl f_vacuum)), (t_reading, .inl (k_reading, 40, .inl f_reading)), (h0, .inr (10, [.ref t_to, .ref t_height, .ref t_member, .ref t_lengthHome, .ref t_runs, .ref t_leak, .ref t_vacuum, .ref t_reading, .int x_6]))] H at hP
      change va_D A [(t_to, .inl (k_to, 40, .inl f_to)), (t_height, .inl (k_height, 40, .inl f_height)), (t_member, .inl (k_member, 40, .inl f_member)), (t_lengthHome, .inl (k_lengthHome, 40, .inl f_lengthHome)), (t_runs, .inl (k_runs, 40, .inl f_runs)), (t_vacuum, .inl (k_vacuum, 40, .inl f_vacuum)), (t_reading, .inl (k_reading, 40, .inl f_reading)), (h0, .inr (10, [.ref t_to, .ref t_height, .ref t_member, .ref t_lengthHome, .ref t_runs, .ref t_leak, .ref t_vacuum, .ref t_reading, .int x_6]))] at hD
      refine lv_aload_n hx hb dX10_add_35 rfl (lv_at hl 1 rfl) ?_
      refine va_get (D := (dC, dI)) (ci := 10) (v := .ref t_to) (C := RX10) (T := TX10) (N := 9) hx hb htb iX10 hown hK hP 7 rfl rfl 0 (Nat.le_of_ble_eq_true rfl) (htb _ m_34) (fun _ h9 => h9) rfl dX10_add_36 ?_
      refine lv_iload hx hb dX10_add_39 (lv_at hl 0 rfl) ?_
      refine lv_iload_n hx hb dX10_add_41 rfl (lv_at hl 2 rfl) ?_
      refine va_iast hx hb hK hP hD hS 0 0 rfl rfl (i_in rfl (lg_X10_add_8 n_tb v1 v2 x_6 yb yv yv2 t_2 h_4 t_8)) dX10_add_42 ?_
      clear hP hD hS; intro H locs hP hD hS
      change va_P (dC, dI) vwCl [(t_to, .inl (k_to, 40, .inl (upd f_to (Int32.toNatClampNeg n_tb) v1))), (t_height, .inl (k_height, 40, .inl f_height)), (t_member, .inl (k_member, 40, .inl f_member)), (t_lengthHome, .inl (k_lengthHome, 40, .inl f_lengthHome)), (t_runs, .inl (k_runs, 40, .inl f_runs)), (t_vacuum, .inl (k_vacuum, 40, .inl f_vacuum)), (t_reading, .inl (k_reading, 40, .inl f_reading)), (h0, .inr (10, [.ref t_to, .ref t_height, .ref t_member, .ref t_lengthHome, .ref t_runs, .ref t_leak, .ref t_vacuum, .ref t_reading, .int x_6]))] H at hP
      change va_D A [(t_to, .inl (k_to, 40, .inl (upd f_to (Int32.toNatClampNeg n_tb) v1))), (t_height, .inl (k_height, 40, .inl f_height)), (t_member, .inl (k_member, 40, .inl f_member)), (t_lengthHome, .inl (k_lengthHome, 40, .inl f_lengthHome)), (t_runs, .inl (k_runs, 40, .inl f_runs)), (t_vacuum, .inl (k_vacuum, 40, .inl f_vacuum)), (t_reading, .inl (k_reading, 40, .inl f_reading)), (h0, .inr (10, [.ref t_to, .ref t_height, .ref t_member, .ref t_lengthHome, .ref t_runs, .ref t_leak, .ref t_vacuum, .ref t_reading, .int x_6]))] at hD
      generalize hG_10 : upd f_to (Int32.toNatClampNeg n_tb) v1 = g_9 at hP hD
      refine lv_aload_n hx hb dX10_add_43 rfl (lv_at hl 1 rfl) ?_
      refine va_get (D := (dC, dI)) (ci := 10) (v := .ref t_height) (C := RX10) (T := TX10) (N := 9) hx hb htb iX10 hown hK hP 7 rfl rfl 1 (Nat.le_of_ble_eq_true rfl) (htb _ m_35) (fun _ h9 => h9) rfl dX10_add_44 ?_
      refine lv_iload hx hb dX10_add_47 (lv_at hl 0 rfl) ?_
      refine lv_iload_n hx hb dX10_add_49 rfl (lv_at hl 4 rfl) ?_
      refine va_iast hx hb hK hP hD hS 1 1 rfl rfl (i_in rfl (lg_X10_add_8 n_tb v1 v2 x_6 yb yv yv2 t_2 h_4 t_8)) dX10_add_50 ?_
      clear hP hD hS; intro H locs hP hD hS
      change va_P (dC, dI) vwCl [(t_to, .inl (k_to, 40, .inl g_9)), (t_height, .inl (k_height, 40, .inl (upd f_height (Int32.toNatClampNeg n_tb) v3))), (t_member, .inl (k_member, 40, .inl f_member)), (t_lengthHome, .inl (k_lengthHome, 40, .inl f_lengthHome)), (t_runs, .inl (k_runs, 40, .inl f_runs)), (t_vacuum, .inl (k_vacuum, 40, .inl f_vacuum)), (t_reading, .inl (k_reading, 40, .inl f_reading)), (h0, .inr (10, [.ref t_to, .ref t_height, .ref t_member, .ref t_lengthHome, .ref t_runs, .ref t_leak, .ref t_vacuum, .ref t_reading, .int x_6]))] H at hP
      change va_D A [(t_to, .inl (k_to, 40, .inl g_9)), (t_height, .inl (k_height, 40, .inl (upd f_height (Int32.toNatClampNeg n_tb) v3))), (t_member, .inl (k_member, 40, .inl f_member)), (t_lengthHome, .inl (k_lengthHome, 40, .inl f_lengthHome)), (t_runs, .inl (k_runs, 40, .inl f_runs)), (t_vacuum, .inl (k_vacuum, 40, .inl f_vacuum)), (t_reading, .inl (k_reading, 40, .inl f_reading)), (h0, .inr (10, [.ref t_to, .ref t_height, .ref t_member, .ref t_lengthHome, .ref t_runs, .ref t_leak, .ref t_vacuum, .ref t_reading, .int x_6]))] at hD
      generalize hG_12 : upd f_height (Int32.toNatClampNeg n_tb) v3 = g_11 at hP hD
      refine lv_aload_n hx hb dX10_add_51 rfl (lv_at hl 1 rfl) ?_
      refine va_get (D := (dC, dI)) (ci := 10) (v := .ref t_member) (C := RX10) (T := TX10) (N := 9) hx hb htb iX10 hown hK hP 7 rfl rfl 2 (Nat.le_of_ble_eq_true rfl) (htb _ m_36) (fun _ h9 => h9) rfl dX10_add_52 ?_
      refine lv_iload hx hb dX10_add_55 (lv_at hl 0 rfl) ?_
      refine lv_iload hx hb dX10_add_57 (lv_at hl 5 rfl) ?_
      refine va_iast hx hb hK hP hD hS 2 2 rfl rfl (i_in rfl (lg_X10_add_8 n_tb v1 v2 x_6 yb yv yv2 t_2 h_4 t_8)) dX10_add_59 ?_
      clear hP hD hS; intro H locs hP hD hS
      change va_P (dC, dI) vwCl [(t_to, .inl (k_to, 40, .inl g_9)), (t_height, .inl (k_height, 40, .inl g_11)), (t_member, .inl (k_member, 40, .inl (upd f_member (Int32.toNatClampNeg n_tb) v4))), (t_lengthHome, .inl (k_lengthHome, 40, .inl f_lengthHome)), (t_runs, .inl (k_runs, 40, .inl f_runs)), (t_vacuum, .inl (k_vacuum, 40, .inl f_vacuum)), (t_reading, .inl (k_reading, 40, .inl f_reading)), (h0, .inr (10, [.ref t_to, .ref t_height, .ref t_member, .ref t_lengthHome, .ref t_runs, .ref t_leak, .ref t_vacuum, .ref t_reading, .int x_6]))] H at hP
      change va_D A [(t_to, .inl (k_to, 40, .inl g_9)), (t_height, .inl (k_height, 40, .inl g_11)), (t_member, .inl (k_member, 40, .inl (upd f_member (Int32.toNatClampNeg n_tb) v4))), (t_lengthHome, .inl (k_lengthHome, 40, .inl f_lengthHome)), (t_runs, .inl (k_runs, 40, .inl f_runs)), (t_vacuum, .inl (k_vacuum, 40, .inl f_vacuum)), (t_reading, .inl (k_reading, 40, .inl f_reading)), (h0, .inr (10, [.ref t_to, .ref t_height, .ref t_member, .ref t_lengthHome, .ref t_runs, .ref t_leak, .ref t_vacuum, .ref t_reading, .int x_6]))] at hD
      generalize hG_14 : upd f_member (Int32.toNatClampNeg n_tb) v4 = g_13 at hP hD
      refine lv_aload_n hx hb dX10_add_60 rfl (lv_at hl 1 rfl) ?_
      refine va_get (D := (dC, dI)) (ci := 10) (v := .ref t_lengthHome) (C := RX10) (T := TX10) (N := 9) hx hb htb iX10 hown hK hP 7 rfl rfl 3 (Nat.le_of_ble_eq_true rfl) (htb _ m_37) (fun _ h9 => h9) rfl dX10_add_61 ?_
      refine lv_iload hx hb dX10_add_64 (lv_at hl 0 rfl) ?_
      refine lv_aload_n hx hb dX10_add_66 rfl (lv_at hl 1 rfl) ?_
      refine va_get (D := (dC, dI)) (ci := 10) (v := .ref t_lengthHome) (C := RX10) (T := TX10) (N := 9) hx hb htb iX10 hown hK hP 7 rfl rfl 3 (Nat.le_of_ble_eq_true rfl) (htb _ m_37) (fun _ h9 => h9) rfl dX10_add_67 ?_
      refine lv_iload_n hx hb dX10_add_70 rfl (lv_at hl 2 rfl) ?_
      refine va_iald hx hb hK hP 3 3 rfl rfl (i_in rfl (lg_X10_add_9 n_tb v1 v2 x_6 yb yv yv2 t_2 h_4 t_8)) dX10_add_71 ?_
      refine lv_topi (fun x_15 ex_16 => ?_)
      have t_17 : 0 ≤ x_15.toInt ∧ x_15.toInt ≤ 100 * v1.toInt := Lb_ld ylb (lg_X10_add_10 n_tb v1 v2 x_6 yb yv yv2 t_2 h_4 t_8) ex_16
      have t_18 : x_15.toInt = (f_lengthHome (Int32.toNatClampNeg v1)).toInt := by rw [ex_16]
      refine lv_iload_n hx hb dX10_add_72 rfl (lv_at hl 3 rfl) ?_
      refine lv_iadd hx hb dX10_add_73 ?_
      refine lv_topi (fun x_19 ex_20 => ?_)
      have t_21 : x_19.toInt = x_15.toInt + v2.toInt := i_add rfl rfl (lg_X10_add_11 n_tb f_lengthHome v1 v2 x_6 x_15 yb yv yv2 t_2 h_4 t_8 t_17 t_18) ex_20
      refine va_iast hx hb hK hP hD hS 3 3 rfl rfl (i_in rfl (lg_X10_add_12 n_tb f_lengthHome v1 v2 x_6 x_15 x_19 yb yv yv2 t_2 h_4 t_8 t_17 t_18 t_21)) dX10_add_74 ?_
      clear hP hD hS; intro H locs hP hD hS
      change va_P (dC, dI) vwCl [(t_to, .inl (k_to, 40, .inl g_9)), (t_height, .inl (k_height, 40, .inl g_11)), (t_member, .inl (k_member, 40, .inl g_13)), (t_lengthHome, .inl (k_lengthHome, 40, .inl (upd f_lengthHome (Int32.toNatClampNeg n_tb) x_19))), (t_runs, .inl (k_runs, 40, .inl f_runs)), (t_vacuum, .inl (k_vacuum, 40, .inl f_vacuum)), (t_reading, .inl (k_reading, 40, .inl f_reading)), (h0, .inr (10, [.ref t_to, .ref t_height, .ref t_member, .ref t_lengthHome, .ref t_runs, .ref t_leak, .ref t_vacuum, .ref t_reading, .int x_6]))] H at hP
      change va_D A [(t_to, .inl (k_to, 40, .inl g_9)), (t_height, .inl (k_height, 40, .inl g_11)), (t_member, .inl (k_member, 40, .inl g_13)), (t_lengthHome, .inl (k_lengthHome, 40, .inl (upd f_lengthHome (Int32.toNatClampNeg n_tb) x_19))), (t_runs, .inl (k_runs, 40, .inl f_runs)), (t_vacuum, .inl (k_vacuum, 40, .inl f_vacuum)), (t_reading, .inl (k_reading, 40, .inl f_reading)), (h0, .inr (10, [.ref t_to, .ref t_height, .ref t_member, .ref t_lengthHome, .ref t_runs, .ref t_leak, .ref t_vacuum, .ref t_reading, .int x_6]))] at hD
      generalize hG_23 : upd f_lengthHome (Int32.toNatClampNeg n_tb) x_19 = g_22 at hP hD
      refine lv_aload_n hx hb dX10_add_75 rfl (lv_at hl 1 rfl) ?_
      refine va_get (D := (dC, dI)) (ci := 10) (v := .ref t_runs) (C := RX10) (T := TX10) (N := 9) hx hb htb iX10 hown hK hP 7 rfl rfl 4 (Nat.le_of_ble_eq_true rfl) (htb _ m_38) (fun _ h9 => h9) rfl dX10_add_76 ?_
      refine lv_iload hx hb dX10_add_79 (lv_at hl 0 rfl) ?_
      refine lv_aload_n hx hb dX10_add_81 rfl (lv_at hl 1 rfl) ?_
      refine va_get (D := (dC, dI)) (ci := 10) (v := .ref t_runs) (C := RX10) (T := TX10) (N := 9) hx hb htb iX10 hown hK hP 7 rfl rfl 4 (Nat.le_of_ble_eq_true rfl) (htb _ m_38) (fun _ h9 => h9) rfl dX10_add_82 ?_
      refine lv_iload_n hx hb dX10_add_85 rfl (lv_at hl 2 rfl) ?_
      refine va_zald hx hb hK hP 4 4 rfl rfl (i_in rfl (lg_X10_add_13 n_tb f_lengthHome v1 v2 x_6 x_15 x_19 yb yv yv2 t_2 h_4 t_8 t_17 t_18 t_21)) dX10_add_86 ?_
      refine lv_topi (fun x_24 ex_25 => ?_)
      have t_26 : x_24.toInt = (f_runs (Int32.toNatClampNeg v1)).toInt := by rw [ex_25]
      have t_27 : 0 ≤ x_24.toInt ∧ x_24.toInt ≤ 1 := Rg_ld yrr (i_in rfl (lg_X10_add_14 n_tb f_lengthHome f_runs v1 v2 x_6 x_15 x_19 x_24 yb yv yv2 t_2 h_4 t_8 t_17 t_18 t_21 t_26)) ex_25
      refine lv_if_eq (tgt := 104) hx hb dX10_add_87 (by decide) (fun c_28 => ?_) (fun c_28 => ?_)
      · have t_29 : x_24.toInt = (0 : Int) := i_eq rfl (by decide) c_28
        refine lv_iconst (v := 0) hx hb dX10_add_104 (by decide) ?_
        refine va_zast hx hb hK hP hD hS 4 4 rfl rfl (i_in rfl (lg_X10_add_15 n_tb f_lengthHome f_runs v1 v2 x_6 x_15 x_19 x_24 yb yv yv2 t_2 h_4 t_8 t_17 t_18 t_21 t_26 t_27 t_29)) dX10_add_105 ?_
        clear hP hD hS; intro H locs hP hD hS
        change va_P (dC, dI) vwCl [(t_to, .inl (k_to, 40, .inl g_9)), (t_height, .inl (k_height, 40, .inl g_11)), (t_member, .inl (k_member, 40, .inl g_13)), (t_lengthHome, .inl (k_lengthHome, 40, .inl g_22)), (t_runs, .inl (k_runs, 40, .inl (upd f_runs (Int32.toNatClampNeg n_tb) (vp_nar .boolean 0)))), (t_vacuum, .inl (k_vacuum, 40, .inl f_vacuum)), (t_reading, .inl (k_reading, 40, .inl f_reading)), (h0, .inr (10, [.ref t_to, .ref t_height, .ref t_member, .ref t_lengthHome, .ref t_runs, .ref t_leak, .ref t_vacuum, .ref t_reading, .int x_6]))] H at hP
        change va_D A [(t_to, .inl (k_to, 40, .inl g_9)), (t_height, .inl (k_height, 40, .inl g_11)), (t_member, .inl (k_member, 40, .inl g_13)), (t_lengthHome, .inl (k_lengthHome, 40, .inl g_22)), (t_runs, .inl (k_runs, 40, .inl (upd f_runs (Int32.toNatClampNeg n_tb) (vp_nar .boolean 0)))), (t_vacuum, .inl (k_vacuum, 40, .inl f_vacuum)), (t_reading, .inl (k_reading, 40, .inl f_reading)), (h0, .inr (10, [.ref t_to, .ref t_height, .ref t_member, .ref t_lengthHome, .ref t_runs, .ref t_leak, .ref t_vacuum, .ref t_reading, .int x_6]))] at hD
        have hR_31 : Rg (upd f_runs (Int32.toNatClampNeg n_tb) (vp_nar .boolean 0)) 40 0 1 := Rg_st yrr (by decide) (lg_X10_add_16 n_tb f_lengthHome f_runs v1 v2 x_6 x_15 x_19 x_24 yb yv yv2 t_2 h_4 t_8 t_17 t_18 t_21 t_26 t_27 t_29)
        generalize hG_32 : upd f_runs (Int32.toNatClampNeg n_tb) (vp_nar .boolean 0) = g_30 at hP hD hR_31
        refine lv_aload_n hx hb dX10_add_106 rfl (lv_at hl 1 rfl) ?_
        refine va_get (D := (dC, dI)) (ci := 10) (v := .ref t_vacuum) (C := RX10) (T := TX10) (N := 9) hx hb htb iX10 hown hK hP 7 rfl rfl 6 (Nat.le_of_ble_eq_true rfl) (htb _ m_40) (fun _ h9 => h9) rfl dX10_add_107 ?_
        refine lv_iload hx hb dX10_add_110 (lv_at hl 0 rfl) ?_
        refine lv_aload_n hx hb dX10_add_112 rfl (lv_at hl 1 rfl) ?_
        refine va_get (D := (dC, dI)) (ci := 10) (v := .ref t_vacuum) (C := RX10) (T := TX10) (N := 9) hx hb htb iX10 hown hK hP 7 rfl rfl 6 (Nat.le_of_ble_eq_true rfl) (htb _ m_40) (fun _ h9 => h9) rfl dX10_add_113 ?_
        refine lv_iload_n hx hb dX10_add_116 rfl (lv_at hl 2 rfl) ?_
        refine va_iald hx hb hK hP 5 5 rfl rfl (i_in rfl (lg_X10_add_17 n_tb f_lengthHome f_runs v1 v2 x_6 x_15 x_19 x_24 yb yv yv2 t_2 h_4 t_8 t_17 t_18 t_21 t_26 t_27 t_29)) dX10_add_117 ?_
        refine lv_topi (fun x_33 ex_34 => ?_)
        have t_35 : x_33.toInt = (f_vacuum (Int32.toNatClampNeg v1)).toInt := by rw [ex_34]
        have t_36 : 0 ≤ x_33.toInt ∧ x_33.toInt ≤ 100 := Rg_ld yvac (i_in rfl (lg_X10_add_18 n_tb f_lengthHome f_runs f_vacuum v1 v2 x_6 x_15 x_19 x_24 x_33 yb yv yv2 t_2 h_4 t_8 t_17 t_18 t_21 t_26 t_27 t_29 t_35)) ex_34
        refine va_iast hx hb hK hP hD hS 5 5 rfl rfl (i_in rfl (lg_X10_add_19 n_tb f_lengthHome f_runs f_vacuum v1 v2 x_6 x_15 x_19 x_24 x_33 yb yv yv2 t_2 h_4 t_8 t_17 t_18 t_21 t_26 t_27 t_29 t_35 t_36)) dX10_add_118 ?_
        clear hP hD hS; intro H locs hP hD hS
        change va_P (dC, dI) vwCl [(t_to, .inl (k_to, 40, .inl g_9)), (t_height, .inl (k_height, 40, .inl g_11)), (t_member, .inl (k_member, 40, .inl g_13)), (t_lengthHome, .inl (k_lengthHome, 40, .inl g_22)), (t_runs, .inl (k_runs, 40, .inl g_30)), (t_vacuum, .inl (k_vacuum, 40, .inl (upd f_vacuum (Int32.toNatClampNeg n_tb) x_33))), (t_reading, .inl (k_reading, 40, .inl f_reading)), (h0, .inr (10, [.ref t_to, .ref t_height, .ref t_member, .ref t_lengthHome, .ref t_runs, .ref t_leak, .ref t_vacuum, .ref t_reading, .int x_6]))] H at hP
        change va_D A [(t_to, .inl (k_to, 40, .inl g_9)), (t_height, .inl (k_height, 40, .inl g_11)), (t_member, .inl (k_member, 40, .inl g_13)), (t_lengthHome, .inl (k_lengthHome, 40, .inl g_22)), (t_runs, .inl (k_runs, 40, .inl g_30)), (t_vacuum, .inl (k_vacuum, 40, .inl (upd f_vacuum (Int32.toNatClampNeg n_tb) x_33))), (t_reading, .inl (k_reading, 40, .inl f_reading)), (h0, .inr (10, [.ref t_to, .ref t_height, .ref t_member, .ref t_lengthHome, .ref t_runs, .ref t_leak, .ref t_vacuum, .ref t_reading, .int x_6]))] at hD
        have hR_38 : Rg (upd f_vacuum (Int32.toNatClampNeg n_tb) x_33) 40 0 100 := Rg_st yvac rfl (lg_X10_add_20 n_tb f_lengthHome f_runs f_vacuum v1 v2 x_6 x_15 x_19 x_24 x_33 yb yv yv2 t_2 h_4 t_8 t_17 t_18 t_21 t_26 t_27 t_29 t_35 t_36)
        generalize hG_39 : upd f_vacuum (Int32.toNatClampNeg n_tb) x_33 = g_37 at hP hD hR_38
        refine lv_aload_n hx hb dX10_add_119 rfl (lv_at hl 1 rfl) ?_
        refine va_get (D := (dC, dI)) (ci := 10) (v := .ref t_reading) (C := RX10) (T := TX10) (N := 9) hx hb htb iX10 hown hK hP 7 rfl rfl 7 (Nat.le_of_ble_eq_true rfl) (htb _ m_41) (fun _ h9 => h9) rfl dX10_add_120 ?_
        refine lv_iload hx hb dX10_add_123 (lv_at hl 0 rfl) ?_
        refine lv_iconst (v := (-1)) hx hb dX10_add_125 (by decide) ?_
        refine va_iast hx hb hK hP hD hS 6 6 rfl rfl (i_in rfl (lg_X10_add_19 n_tb f_lengthHome f_runs f_vacuum v1 v2 x_6 x_15 x_19 x_24 x_33 yb yv yv2 t_2 h_4 t_8 t_17 t_18 t_21 t_26 t_27 t_29 t_35 t_36)) dX10_add_126 ?_
        clear hP hD hS; intro H locs hP hD hS
        change va_P (dC, dI) vwCl [(t_to, .inl (k_to, 40, .inl g_9)), (t_height, .inl (k_height, 40, .inl g_11)), (t_member, .inl (k_member, 40, .inl g_13)), (t_lengthHome, .inl (k_lengthHome, 40, .inl g_22)), (t_runs, .inl (k_runs, 40, .inl g_30)), (t_vacuum, .inl (k_vacuum, 40, .inl g_37)), (t_reading, .inl (k_reading, 40, .inl (upd f_reading (Int32.toNatClampNeg n_tb) (-1)))), (h0, .inr (10, [.ref t_to, .ref t_height, .ref t_member, .ref t_lengthHome, .ref t_runs, .ref t_leak, .ref t_vacuum, .ref t_reading, .int x_6]))] H at hP
        change va_D A [(t_to, .inl (k_to, 40, .inl g_9)), (t_height, .inl (k_height, 40, .inl g_11)), (t_member, .inl (k_member, 40, .inl g_13)), (t_lengthHome, .inl (k_lengthHome, 40, .inl g_22)), (t_runs, .inl (k_runs, 40, .inl g_30)), (t_vacuum, .inl (k_vacuum, 40, .inl g_37)), (t_reading, .inl (k_reading, 40, .inl (upd f_reading (Int32.toNatClampNeg n_tb) (-1)))), (h0, .inr (10, [.ref t_to, .ref t_height, .ref t_member, .ref t_lengthHome, .ref t_runs, .ref t_leak, .ref t_vacuum, .ref t_reading, .int x_6]))] at hD
        generalize hG_41 : upd f_reading (Int32.toNatClampNeg n_tb) (-1) = g_40 at hP hD
        refine lv_iload hx hb dX10_add_127 (lv_at hl 0 rfl) ?_
        refine W.widen (k := 0) (n := 0) (Nat.le_of_ble_eq_true rfl) (Nat.le_of_ble_eq_true rfl) ?_
        have hP9 := hP.sub (ws' := [(h0, .inr (10, [.ref t_to, .ref t_height, .ref t_member, .ref t_lengthHome, .ref t_runs, .ref t_leak, .ref t_vacuum, .ref t_reading, .int x_6])), (t_to, .inl (k_to, 40, .inl g_9)), (t_height, .inl (k_height, 40, .inl g_11)), (t_member, .inl (k_member, 40, .inl g_13)), (t_lengthHome, .inl (k_lengthHome, 40, .inl g_22)), (t_runs, .inl (k_runs, 40, .inl g_30)), (t_vacuum, .inl (k_vacuum, 40, .inl g_37)), (t_reading, .inl (k_reading, 40, .inl g_40))]) [7, 0, 1, 2, 3, 4, 5, 6] rfl
        have hD9 := hD.sub (ws' := [(h0, .inr (10, [.ref t_to, .ref t_height, .ref t_member, .ref t_lengthHome, .ref t_runs, .ref t_leak, .ref t_vacuum, .ref t_reading, .int x_6])), (t_to, .inl (k_to, 40, .inl g_9)), (t_height, .inl (k_height, 40, .inl g_11)), (t_member, .inl (k_member, 40, .inl g_13)), (t_lengthHome, .inl (k_lengthHome, 40, .inl g_22)), (t_runs, .inl (k_runs, 40, .inl g_30)), (t_vacuum, .inl (k_vacuum, 40, .inl g_37)), (t_reading, .inl (k_reading, 40, .inl g_40))]) [7, 0, 1, 2, 3, 4, 5, 6] (by decide) rfl
        have hK9 := hK.sub (tys' := []) [] rfl
        exact W.iret (v := n_tb) hx hb hr (fun t ht hW => ⟨⟨n_tb, (), rfl, (lg_X10_add_27 n_tb f_lengthHome f_runs f_vacuum v1 v2 x_6 x_15 x_19 x_24 x_33 yb yv yv2 t_2 h_4 t_8 t_17 t_18 t_21 t_26 t_27 t_29 t_35 t_36), ⟨x_6, g_9, g_11, g_13, g_22, g_30, g_37, g_40, x_19, 0, x_33, (lg_X10_add_21 n_tb f_lengthHome f_runs f_vacuum v1 v2 x_6 x_15 x_19 x_24 x_33 yb yv yv2 t_2 h_4 t_8 t_17 t_18 t_21 t_26 t_27 t_29 t_35 t_36), hR_38, (Ua_u (lg_X10_add_22 n_tb f_lengthHome f_runs f_vacuum v1 v2 x_6 x_15 x_19 x_24 x_33 yb yv yv2 t_2 h_4 t_8 t_17 t_18 t_21 t_26 t_27 t_29 t_35 t_36) hG_10), (Ua_u (lg_X10_add_22 n_tb f_lengthHome f_runs f_vacuum v1 v2 x_6 x_15 x_19 x_24 x_33 yb yv yv2 t_2 h_4 t_8 t_17 t_18 t_21 t_26 t_27 t_29 t_35 t_36) hG_12), (Ua_u (lg_X10_add_22 n_tb f_lengthHome f_runs f_vacuum v1 v2 x_6 x_15 x_19 x_24 x_33 yb yv yv2 t_2 h_4 t_8 t_17 t_18 t_21 t_26 t_27 t_29 t_35 t_36) hG_14), (Ua_u (lg_X10_add_22 n_tb f_lengthHome f_runs f_vacuum v1 v2 x_6 x_15 x_19 x_24 x_33 yb yv yv2 t_2 h_4 t_8 t_17 t_18 t_21 t_26 t_27 t_29 t_35 t_36) hG_23), (Ua_u (lg_X10_add_22 n_tb f_lengthHome f_runs f_vacuum v1 v2 x_6 x_15 x_19 x_24 x_33 yb yv yv2 t_2 h_4 t_8 t_17 t_18 t_21 t_26 t_27 t_29 t_35 t_36) (by rw [show (0 : Int32) = vp_nar .boolean 0 from by decide]; exact hG_32)), (Ua_u (lg_X10_add_22 n_tb f_lengthHome f_runs f_vacuum v1 v2 x_6 x_15 x_19 x_24 x_33 yb yv yv2 t_2 h_4 t_8 t_17 t_18 t_21 t_26 t_27 t_29 t_35 t_36) hG_39), (Ua_u (lg_X10_add_22 n_tb f_lengthHome f_runs f_vacuum v1 v2 x_6 x_15 x_19 x_24 x_33 yb yv yv2 t_2 h_4 t_8 t_17 t_18 t_21 t_26 t_27 t_29 t_35 t_36) hG_41), (lg_X10_add_23 n_tb f_lengthHome f_runs f_vacuum v1 v2 x_6 x_15 x_19 x_24 x_33 yb yv yv2 t_2 h_4 t_8 t_17 t_18 t_21 t_26 t_27 t_29 t_35 t_36), (lg_X10_add_24 n_tb f_lengthHome f_runs f_vacuum v1 v2 x_6 x_15 x_19 x_24 x_33 yb yv yv2 t_2 h_4 t_8 t_17 t_18 t_21 t_26 t_27 t_29 t_35 t_36), (lg_X10_add_25 n_tb f_height f_lengthHome f_runs f_vacuum v1 v2 v3 x_6 x_15 x_19 x_24 x_33 yb yv yv2 t_2 h_4 t_8 t_17 t_18 t_21 t_26 t_27 t_29 t_35 t_36), hR_31, (lg_X10_add_26 n_tb f_lengthHome f_runs f_vacuum v1 v2 x_6 x_15 x_19 x_24 x_33 yb yv yv2 t_2 h_4 t_8 t_17 t_18 t_21 t_26 t_27 t_29 t_35 t_36), by rw [ht]; exact hP9, va_K.moved hW.alike hK9, hD9⟩⟩, hS.F ht⟩) hS.2.2 dX10_add_129
      · have t_29 : ¬ x_24.toInt = (0 : Int) := i_ne rfl (by decide) c_28
        have t_42 : (g_11 (Int32.toNatClampNeg v1)).toInt = (f_height (Int32.toNatClampNeg v1)).toInt := by rw [← hG_12, pk_un (cl_ne (lg_X10_add_28 n_tb f_lengthHome f_runs v1 v2 x_6 x_15 x_19 x_24 yb yv yv2 t_2 h_4 t_8 t_17 t_18 t_21 t_26 t_27 t_29))]
        refine lv_iload_n hx hb dX10_add_90 rfl (lv_at hl 4 rfl) ?_
        refine lv_aload_n hx hb dX10_add_91 rfl (lv_at hl 1 rfl) ?_
        refine va_get (D := (dC, dI)) (ci := 10) (v := .ref t_height) (C := RX10) (T := TX10) (N := 9) hx hb htb iX10 hown hK hP 7 rfl rfl 1 (Nat.le_of_ble_eq_true rfl) (htb _ m_35) (fun _ h9 => h9) rfl dX10_add_92 ?_
        refine lv_iload_n hx hb dX10_add_95 rfl (lv_at hl 2 rfl) ?_
        refine va_iald hx hb hK hP 1 1 rfl rfl (i_in rfl (lg_X10_add_29 n_tb f_height f_lengthHome f_runs v1 v2 x_6 g_11 x_15 x_19 x_24 yb yv yv2 t_2 h_4 t_8 t_17 t_18 t_21 t_26 t_27 t_29 t_42)) dX10_add_96 ?_
        refine lv_topi (fun x_43 ex_44 => ?_)
        have t_45 : x_43.toInt = (g_11 (Int32.toNatClampNeg v1)).toInt := by rw [ex_44]
        refine lv_icmp_le (tgt := 104) hx hb dX10_add_97 (by decide) (fun c_46 => ?_) (fun c_46 => ?_)
        · have t_47 : v3.toInt ≤ x_43.toInt := i_le rfl rfl c_46
          refine lv_iconst (v := 0) hx hb dX10_add_104 (by decide) ?_
          refine va_zast hx hb hK hP hD hS 4 4 rfl rfl (i_in rfl (lg_X10_add_30 n_tb f_height f_lengthHome f_runs v1 v2 v3 x_6 g_11 x_15 x_19 x_24 x_43 yb yv yv2 t_2 h_4 t_8 t_17 t_18 t_21 t_26 t_27 t_29 t_42 t_45 t_47)) dX10_add_105 ?_
          clear hP hD hS; intro H locs hP hD hS
          change va_P (dC, dI) vwCl [(t_to, .inl (k_to, 40, .inl g_9)), (t_height, .inl (k_height, 40, .inl g_11)), (t_member, .inl (k_member, 40, .inl g_13)), (t_lengthHome, .inl (k_lengthHome, 40, .inl g_22)), (t_runs, .inl (k_runs, 40, .inl (upd f_runs (Int32.toNatClampNeg n_tb) (vp_nar .boolean 0)))), (t_vacuum, .inl (k_vacuum, 40, .inl f_vacuum)), (t_reading, .inl (k_reading, 40, .inl f_reading)), (h0, .inr (10, [.ref t_to, .ref t_height, .ref t_member, .ref t_lengthHome, .ref t_runs, .ref t_leak, .ref t_vacuum, .ref t_reading, .int x_6]))] H at hP
          change va_D A [(t_to, .inl (k_to, 40, .inl g_9)), (t_height, .inl (k_height, 40, .inl g_11)), (t_member, .inl (k_member, 40, .inl g_13)), (t_lengthHome, .inl (k_lengthHome, 40, .inl g_22)), (t_runs, .inl (k_runs, 40, .inl (upd f_runs (Int32.toNatClampNeg n_tb) (vp_nar .boolean 0)))), (t_vacuum, .inl (k_vacuum, 40, .inl f_vacuum)), (t_reading, .inl (k_reading, 40, .inl f_reading)), (h0, .inr (10, [.ref t_to, .ref t_height, .ref t_member, .ref t_lengthHome, .ref t_runs, .ref t_leak, .ref t_vacuum, .ref t_reading, .int x_6]))] at hD
          have hR_49 : Rg (upd f_runs (Int32.toNatClampNeg n_tb) (vp_nar .boolean 0)) 40 0 1 := Rg_st yrr (by decide) (lg_X10_add_31 n_tb f_height f_lengthHome f_runs v1 v2 v3 x_6 g_11 x_15 x_19 x_24 x_43 yb yv yv2 t_2 h_4 t_8 t_17 t_18 t_21 t_26 t_27 t_29 t_42 t_45 t_47)
          generalize hG_50 : upd f_runs (Int32.toNatClampNeg n_tb) (vp_nar .boolean 0) = g_48 at hP hD hR_49
          refine lv_aload_n hx hb dX10_add_106 rfl (lv_at hl 1 rfl) ?_
          refine va_get (D := (dC, dI)) (ci := 10) (v := .ref t_vacuum) (C := RX10) (T := TX10) (N := 9) hx hb htb iX10 hown hK hP 7 rfl rfl 6 (Nat.le_of_ble_eq_true rfl) (htb _ m_40) (fun _ h9 => h9) rfl dX10_add_107 ?_
          refine lv_iload hx hb dX10_add_110 (lv_at hl 0 rfl) ?_
          refine lv_aload_n hx hb dX10_add_112 rfl (lv_at hl 1 rfl) ?_
          refine va_get (D := (dC, dI)) (ci := 10) (v := .ref t_vacuum) (C := RX10) (T := TX10) (N := 9) hx hb htb iX10 hown hK hP 7 rfl rfl 6 (Nat.le_of_ble_eq_true rfl) (htb _ m_40) (fun _ h9 => h9) rfl dX10_add_113 ?_
          refine lv_iload_n hx hb dX10_add_116 rfl (lv_at hl 2 rfl) ?_
          refine va_iald hx hb hK hP 5 5 rfl rfl (i_in rfl (lg_X10_add_32 n_tb f_height f_lengthHome f_runs v1 v2 v3 x_6 g_11 x_15 x_19 x_24 x_43 yb yv yv2 t_2 h_4 t_8 t_17 t_18 t_21 t_26 t_27 t_29 t_42 t_45 t_47)) dX10_add_117 ?_
          refine lv_topi (fun x_51 ex_52 => ?_)
          have t_53 : x_51.toInt = (f_vacuum (Int32.toNatClampNeg v1)).toInt := by rw [ex_52]
          have t_54 : 0 ≤ x_51.toInt ∧ x_51.toInt ≤ 100 := Rg_ld yvac (i_in rfl (lg_X10_add_33 n_tb f_height f_lengthHome f_runs f_vacuum v1 v2 v3 x_6 g_11 x_15 x_19 x_24 x_43 x_51 yb yv yv2 t_2 h_4 t_8 t_17 t_18 t_21 t_26 t_27 t_29 t_42 t_45 t_47 t_53)) ex_52
          refine va_iast hx hb hK hP hD hS 5 5 rfl rfl (i_in rfl (lg_X10_add_34 n_tb f_height f_lengthHome f_runs f_vacuum v1 v2 v3 x_6 g_11 x_15 x_19 x_24 x_43 x_51 yb yv yv2 t_2 h_4 t_8 t_17 t_18 t_21 t_26 t_27 t_29 t_42 t_45 t_47 t_53 t_54)) dX10_add_118 ?_
          clear hP hD hS; intro H locs hP hD hS
          change va_P (dC, dI) vwCl [(t_to, .inl (k_to, 40, .inl g_9)), (t_height, .inl (k_height, 40, .inl g_11)), (t_member, .inl (k_member, 40, .inl g_13)), (t_lengthHome, .inl (k_lengthHome, 40, .inl g_22)), (t_runs, .inl (k_runs, 40, .inl g_48)), (t_vacuum, .inl (k_vacuum, 40, .inl (upd f_vacuum (Int32.toNatClampNeg n_tb) x_51))), (t_reading, .inl (k_reading, 40, .inl f_reading)), (h0, .inr (10, [.ref t_to, .ref t_height, .ref t_member, .ref t_lengthHome, .ref t_runs, .ref t_leak, .ref t_vacuum, .ref t_reading, .int x_6]))] H at hP
          change va_D A [(t_to, .inl (k_to, 40, .inl g_9)), (t_height, .inl (k_height, 40, .inl g_11)), (t_member, .inl (k_member, 40, .inl g_13)), (t_lengthHome, .inl (k_lengthHome, 40, .inl g_22)), (t_runs, .inl (k_runs, 40, .inl g_48)), (t_vacuum, .inl (k_vacuum, 40, .inl (upd f_vacuum (Int32.toNatClampNeg n_tb) x_51))), (t_reading, .inl (k_reading, 40, .inl f_reading)), (h0, .inr (10, [.ref t_to, .ref t_height, .ref t_member, .ref t_lengthHome, .ref t_runs, .ref t_leak, .ref t_vacuum, .ref t_reading, .int x_6]))] at hD
          have hR_56 : Rg (upd f_vacuum (Int32.toNatClampNeg n_tb) x_51) 40 0 100 := Rg_st yvac rfl (lg_X10_add_35 n_tb f_height f_lengthHome f_runs f_vacuum v1 v2 v3 x_6 g_11 x_15 x_19 x_24 x_43 x_51 yb yv yv2 t_2 h_4 t_8 t_17 t_18 t_21 t_26 t_27 t_29 t_42 t_45 t_47 t_53 t_54)
          generalize hG_57 : upd f_vacuum (Int32.toNatClampNeg n_tb) x_51 = g_55 at hP hD hR_56
          refine lv_aload_n hx hb dX10_add_119 rfl (lv_at hl 1 rfl) ?_
          refine va_get (D := (dC, dI)) (ci := 10) (v := .ref t_reading) (C := RX10) (T := TX10) (N := 9) hx hb htb iX10 hown hK hP 7 rfl rfl 7 (Nat.le_of_ble_eq_true rfl) (htb _ m_41) (fun _ h9 => h9) rfl dX10_add_120 ?_
          refine lv_iload hx hb dX10_add_123 (lv_at hl 0 rfl) ?_
          refine lv_iconst (v := (-1)) hx hb dX10_add_125 (by decide) ?_
          refine va_iast hx hb hK hP hD hS 6 6 rfl rfl (i_in rfl (lg_X10_add_34 n_tb f_height f_lengthHome f_runs f_vacuum v1 v2 v3 x_6 g_11 x_15 x_19 x_24 x_43 x_51 yb yv yv2 t_2 h_4 t_8 t_17 t_18 t_21 t_26 t_27 t_29 t_42 t_45 t_47 t_53 t_54)) dX10_add_126 ?_
          clear hP hD hS; intro H locs hP hD hS
          change va_P (dC, dI) vwCl [(t_to, .inl (k_to, 40, .inl g_9)), (t_height, .inl (k_height, 40, .inl g_11)), (t_member, .inl (k_member, 40, .inl g_13)), (t_lengthHome, .inl (k_lengthHome, 40, .inl g_22)), (t_runs, .inl (k_runs, 40, .inl g_48)), (t_vacuum, .inl (k_vacuum, 40, .inl g_55)), (t_reading, .inl (k_reading, 40, .inl (upd f_reading (Int32.toNatClampNeg n_tb) (-1)))), (h0, .inr (10, [.ref t_to, .ref t_height, .ref t_member, .ref t_lengthHome, .ref t_runs, .ref t_leak, .ref t_vacuum, .ref t_reading, .int x_6]))] H at hP
          change va_D A [(t_to, .inl (k_to, 40, .inl g_9)), (t_height, .inl (k_height, 40, .inl g_11)), (t_member, .inl (k_member, 40, .inl g_13)), (t_lengthHome, .inl (k_lengthHome, 40, .inl g_22)), (t_runs, .inl (k_runs, 40, .inl g_48)), (t_vacuum, .inl (k_vacuum, 40, .inl g_55)), (t_reading, .inl (k_reading, 40, .inl (upd f_reading (Int32.toNatClampNeg n_tb) (-1)))), (h0, .inr (10, [.ref t_to, .ref t_height, .ref t_member, .ref t_lengthHome, .ref t_runs, .ref t_leak, .ref t_vacuum, .ref t_reading, .int x_6]))] at hD
          generalize hG_59 : upd f_reading (Int32.toNatClampNeg n_tb) (-1) = g_58 at hP hD
          refine lv_iload hx hb dX10_add_127 (lv_at hl 0 rfl) ?_
          refine W.widen (k := 0) (n := 0) (Nat.le_of_ble_eq_true rfl) (Nat.le_of_ble_eq_true rfl) ?_
          have hP9 := hP.sub (ws' := [(h0, .inr (10, [.ref t_to, .ref t_height, .ref t_member, .ref t_lengthHome, .ref t_runs, .ref t_leak, .ref t_vacuum, .ref t_reading, .int x_6])), (t_to, .inl (k_to, 40, .inl g_9)), (t_height, .inl (k_height, 40, .inl g_11)), (t_member, .inl (k_member, 40, .inl g_13)), (t_lengthHome, .inl (k_lengthHome, 40, .inl g_22)), (t_runs, .inl (k_runs, 40, .inl g_48)), (t_vacuum, .inl (k_vacuum, 40, .inl g_55)), (t_reading, .inl (k_reading, 40, .inl g_58))]) [7, 0, 1, 2, 3, 4, 5, 6] rfl
          have hD9 := hD.sub (ws' := [(h0, .inr (10, [.ref t_to, .ref t_height, .ref t_member, .ref t_lengthHome, .ref t_runs, .ref t_leak, .ref t_vacuum, .ref t_reading, .int x_6])), (t_to, .inl (k_to, 40, .inl g_9)), (t_height, .inl (k_height, 40, .inl g_11)), (t_member, .inl (k_member, 40, .inl g_13)), (t_lengthHome, .inl (k_lengthHome, 40, .inl g_22)), (t_runs, .inl (k_runs, 40, .inl g_48)), (t_vacuum, .inl (k_vacuum, 40, .inl g_55)), (t_reading, .inl (k_reading, 40, .inl g_58))]) [7, 0, 1, 2, 3, 4, 5, 6] (by decide) rfl
          have hK9 := hK.sub (tys' := []) [] rfl
          exact W.iret (v := n_tb) hx hb hr (fun t ht hW => ⟨⟨n_tb, (), rfl, (lg_X10_add_42 n_tb f_height f_lengthHome f_runs f_vacuum v1 v2 v3 x_6 g_11 x_15 x_19 x_24 x_43 x_51 yb yv yv2 t_2 h_4 t_8 t_17 t_18 t_21 t_26 t_27 t_29 t_42 t_45 t_47 t_53 t_54), ⟨x_6, g_9, g_11, g_13, g_22, g_48, g_55, g_58, x_19, 0, x_51, (lg_X10_add_36 n_tb f_height f_lengthHome f_runs f_vacuum v1 v2 v3 x_6 g_11 x_15 x_19 x_24 x_43 x_51 yb yv yv2 t_2 h_4 t_8 t_17 t_18 t_21 t_26 t_27 t_29 t_42 t_45 t_47 t_53 t_54), hR_56, (Ua_u (lg_X10_add_37 n_tb f_height f_lengthHome f_runs f_vacuum v1 v2 v3 x_6 g_11 x_15 x_19 x_24 x_43 x_51 yb yv yv2 t_2 h_4 t_8 t_17 t_18 t_21 t_26 t_27 t_29 t_42 t_45 t_47 t_53 t_54) hG_10), (Ua_u (lg_X10_add_37 n_tb f_height f_lengthHome f_runs f_vacuum v1 v2 v3 x_6 g_11 x_15 x_19 x_24 x_43 x_51 yb yv yv2 t_2 h_4 t_8 t_17 t_18 t_21 t_26 t_27 t_29 t_42 t_45 t_47 t_53 t_54) hG_12), (Ua_u (lg_X10_add_37 n_tb f_height f_lengthHome f_runs f_vacuum v1 v2 v3 x_6 g_11 x_15 x_19 x_24 x_43 x_51 yb yv yv2 t_2 h_4 t_8 t_17 t_18 t_21 t_26 t_27 t_29 t_42 t_45 t_47 t_53 t_54) hG_14), (Ua_u (lg_X10_add_37 n_tb f_height f_lengthHome f_runs f_vacuum v1 v2 v3 x_6 g_11 x_15 x_19 x_24 x_43 x_51 yb yv yv2 t_2 h_4 t_8 t_17 t_18 t_21 t_26 t_27 t_29 t_42 t_45 t_47 t_53 t_54) hG_23), (Ua_u (lg_X10_add_37 n_tb f_height f_lengthHome f_runs f_vacuum v1 v2 v3 x_6 g_11 x_15 x_19 x_24 x_43 x_51 yb yv yv2 t_2 h_4 t_8 t_17 t_18 t_21 t_26 t_27 t_29 t_42 t_45 t_47 t_53 t_54) (by rw [show (0 : Int32) = vp_nar .boolean 0 from by decide]; exact hG_50)), (Ua_u (lg_X10_add_37 n_tb f_height f_lengthHome f_runs f_vacuum v1 v2 v3 x_6 g_11 x_15 x_19 x_24 x_43 x_51 yb yv yv2 t_2 h_4 t_8 t_17 t_18 t_21 t_26 t_27 t_29 t_42 t_45 t_47 t_53 t_54) hG_57), (Ua_u (lg_X10_add_37 n_tb f_height f_lengthHome f_runs f_vacuum v1 v2 v3 x_6 g_11 x_15 x_19 x_24 x_43 x_51 yb yv yv2 t_2 h_4 t_8 t_17 t_18 t_21 t_26 t_27 t_29 t_42 t_45 t_47 t_53 t_54) hG_59), (lg_X10_add_38 n_tb f_height f_lengthHome f_runs f_vacuum v1 v2 v3 x_6 g_11 x_15 x_19 x_24 x_43 x_51 yb yv yv2 t_2 h_4 t_8 t_17 t_18 t_21 t_26 t_27 t_29 t_42 t_45 t_47 t_53 t_54), (lg_X10_add_39 n_tb f_height f_lengthHome f_runs f_vacuum v1 v2 v3 x_6 g_11 x_15 x_19 x_24 x_43 x_51 yb yv yv2 t_2 h_4 t_8 t_17 t_18 t_21 t_26 t_27 t_29 t_42 t_45 t_47 t_53 t_54), (lg_X10_add_40 n_tb f_height f_lengthHome f_runs f_vacuum v1 v2 v3 x_6 g_11 x_15 x_19 x_24 x_43 x_51 yb yv yv2 t_2 h_4 t_8 t_17 t_18 t_21 t_26 t_27 t_29 t_42 t_45 t_47 t_53 t_54), hR_49, (lg_X10_add_41 n_tb f_height f_lengthHome f_runs f_vacuum v1 v2 v3 x_6 g_11 x_15 x_19 x_24 x_43 x_51 yb yv yv2 t_2 h_4 t_8 t_17 t_18 t_21 t_26 t_27 t_29 t_42 t_45 t_47 t_53 t_54), by rw [ht]; exact hP9, va_K.moved hW.alike hK9, hD9⟩⟩, hS.F ht⟩) hS.2.2 dX10_add_129
        · have t_47 : x_43.toInt < v3.toInt := i_nle rfl rfl c_46
          refine lv_iconst (v := 1) hx hb dX10_add_100 (by decide) ?_
          refine lv_goto (tgt := 105) hx hb dX10_add_101 (by decide) ?_
          refine va_zast hx hb hK hP hD hS 4 4 rfl rfl (i_in rfl (lg_X10_add_43 n_tb f_height f_lengthHome f_runs v1 v2 v3 x_6 g_11 x_15 x_19 x_24 x_43 yb yv yv2 t_2 h_4 t_8 t_17 t_18 t_21 t_26 t_27 t_29 t_42 t_45 t_47)) dX10_add_105 ?_
          clear hP hD hS; intro H locs hP hD hS
          change va_P (dC, dI) vwCl [(t_to, .inl (k_to, 40, .inl g_9)), (t_height, .inl (k_height, 40, .inl g_11)), (t_member, .inl (k_member, 40, .inl g_13)), (t_lengthHome, .inl (k_lengthHome, 40, .inl g_22)), (t_runs, .inl (k_runs, 40, .inl (upd f_runs (Int32.toNatClampNeg n_tb) (vp_nar .boolean 1)))), (t_vacuum, .inl (k_vacuum, 40, .inl f_vacuum)), (t_reading, .inl (k_reading, 40, .inl f_reading)), (h0, .inr (10, [.ref t_to, .ref t_height, .ref t_member, .ref t_lengthHome, .ref t_runs, .ref t_leak, .ref t_vacuum, .ref t_reading, .int x_6]))] H at hP
          change va_D A [(t_to, .inl (k_to, 40, .inl g_9)), (t_height, .inl (k_height, 40, .inl g_11)), (t_member, .inl (k_member, 40, .inl g_13)), (t_lengthHome, .inl (k_lengthHome, 40, .inl g_22)), (t_runs, .inl (k_runs, 40, .inl (upd f_runs (Int32.toNatClampNeg n_tb) (vp_nar .boolean 1)))), (t_vacuum, .inl (k_vacuum, 40, .inl f_vacuum)), (t_reading, .inl (k_reading, 40, .inl f_reading)), (h0, .inr (10, [.ref t_to, .ref t_height, .ref t_member, .ref t_lengthHome, .ref t_runs, .ref t_leak, .ref t_vacuum, .ref t_reading, .int x_6]))] at hD
          have hR_61 : Rg (upd f_runs (Int32.toNatClampNeg n_tb) (vp_nar .boolean 1)) 40 0 1 := Rg_st yrr (by decide) (lg_X10_add_44 n_tb f_height f_lengthHome f_runs v1 v2 v3 x_6 g_11 x_15 x_19 x_24 x_43 yb yv yv2 t_2 h_4 t_8 t_17 t_18 t_21 t_26 t_27 t_29 t_42 t_45 t_47)
          generalize hG_62 : upd f_runs (Int32.toNatClampNeg n_tb) (vp_nar .boolean 1) = g_60 at hP hD hR_61
          refine lv_aload_n hx hb dX10_add_106 rfl (lv_at hl 1 rfl) ?_
          refine va_get (D := (dC, dI)) (ci := 10) (v := .ref t_vacuum) (C := RX10) (T := TX10) (N := 9) hx hb htb iX10 hown hK hP 7 rfl rfl 6 (Nat.le_of_ble_eq_true rfl) (htb _ m_40) (fun _ h9 => h9) rfl dX10_add_107 ?_
          refine lv_iload hx hb dX10_add_110 (lv_at hl 0 rfl) ?_
          refine lv_aload_n hx hb dX10_add_112 rfl (lv_at hl 1 rfl) ?_
          refine va_get (D := (dC, dI)) (ci := 10) (v := .ref t_vacuum) (C := RX10) (T := TX10) (N := 9) hx hb htb iX10 hown hK hP 7 rfl rfl 6 (Nat.le_of_ble_eq_true rfl) (htb _ m_40) (fun _ h9 => h9) rfl dX10_add_113 ?_
          refine lv_iload_n hx hb dX10_add_116 rfl (lv_at hl 2 rfl) ?_
          refine va_iald hx hb hK hP 5 5 rfl rfl (i_in rfl (lg_X10_add_45 n_tb f_height f_lengthHome f_runs v1 v2 v3 x_6 g_11 x_15 x_19 x_24 x_43 yb yv yv2 t_2 h_4 t_8 t_17 t_18 t_21 t_26 t_27 t_29 t_42 t_45 t_47)) dX10_add_117 ?_
          refine lv_topi (fun x_63 ex_64 => ?_)
          have t_65 : x_63.toInt = (f_vacuum (Int32.toNatClampNeg v1)).toInt := by rw [ex_64]
          have t_66 : 0 ≤ x_63.toInt ∧ x_63.toInt ≤ 100 := Rg_ld yvac (i_in rfl (lg_X10_add_46 n_tb f_height f_lengthHome f_runs f_vacuum v1 v2 v3 x_6 g_11 x_15 x_19 x_24 x_43 x_63 yb yv yv2 t_2 h_4 t_8 t_17 t_18 t_21 t_26 t_27 t_29 t_42 t_45 t_47 t_65)) ex_64
          refine va_iast hx hb hK hP hD hS 5 5 rfl rfl (i_in rfl (lg_X10_add_47 n_tb f_height f_lengthHome f_runs f_vacuum v1 v2 v3 x_6 g_11 x_15 x_19 x_24 x_43 x_63 yb yv yv2 t_2 h_4 t_8 t_17 t_18 t_21 t_26 t_27 t_29 t_42 t_45 t_47 t_65 t_66)) dX10_add_118 ?_
          clear hP hD hS; intro H locs hP hD hS
          change va_P (dC, dI) vwCl [(t_to, .inl (k_to, 40, .inl g_9)), (t_height, .inl (k_height, 40, .inl g_11)), (t_member, .inl (k_member, 40, .inl g_13)), (t_lengthHome, .inl (k_lengthHome, 40, .inl g_22)), (t_runs, .inl (k_runs, 40, .inl g_60)), (t_vacuum, .inl (k_vacuum, 40, .inl (upd f_vacuum (Int32.toNatClampNeg n_tb) x_63))), (t_reading, .inl (k_reading, 40, .inl f_reading)), (h0, .inr (10, [.ref t_to, .ref t_height, .ref t_member, .ref t_lengthHome, .ref t_runs, .ref t_leak, .ref t_vacuum, .ref t_reading, .int x_6]))] H at hP
          change va_D A [(t_to, .inl (k_to, 40, .inl g_9)), (t_height, .inl (k_height, 40, .inl g_11)), (t_member, .inl (k_member, 40, .inl g_13)), (t_lengthHome, .inl (k_lengthHome, 40, .inl g_22)), (t_runs, .inl (k_runs, 40, .inl g_60)), (t_vacuum, .inl (k_vacuum, 40, .inl (upd f_vacuum (Int32.toNatClampNeg n_tb) x_63))), (t_reading, .inl (k_reading, 40, .inl f_reading)), (h0, .inr (10, [.ref t_to, .ref t_height, .ref t_member, .ref t_lengthHome, .ref t_runs, .ref t_leak, .ref t_vacuum, .ref t_reading, .int x_6]))] at hD
          have hR_68 : Rg (upd f_vacuum (Int32.toNatClampNeg n_tb) x_63) 40 0 100 := Rg_st yvac rfl (lg_X10_add_48 n_tb f_height f_lengthHome f_runs f_vacuum v1 v2 v3 x_6 g_11 x_15 x_19 x_24 x_43 x_63 yb yv yv2 t_2 h_4 t_8 t_17 t_18 t_21 t_26 t_27 t_29 t_42 t_45 t_47 t_65 t_66)
          generalize hG_69 : upd f_vacuum (Int32.toNatClampNeg n_tb) x_63 = g_67 at hP hD hR_68
          refine lv_aload_n hx hb dX10_add_119 rfl (lv_at hl 1 rfl) ?_
          refine va_get (D := (dC, dI)) (ci := 10) (v := .ref t_reading) (C := RX10) (T := TX10) (N := 9) hx hb htb iX10 hown hK hP 7 rfl rfl 7 (Nat.le_of_ble_eq_true rfl) (htb _ m_41) (fun _ h9 => h9) rfl dX10_add_120 ?_
          refine lv_iload hx hb dX10_add_123 (lv_at hl 0 rfl) ?_
          refine lv_iconst (v := (-1)) hx hb dX10_add_125 (by decide) ?_
          refine va_iast hx hb hK hP hD hS 6 6 rfl rfl (i_in rfl (lg_X10_add_47 n_tb f_height f_lengthHome f_runs f_vacuum v1 v2 v3 x_6 g_11 x_15 x_19 x_24 x_43 x_63 yb yv yv2 t_2 h_4 t_8 t_17 t_18 t_21 t_26 t_27 t_29 t_42 t_45 t_47 t_65 t_66)) dX10_add_126 ?_
          clear hP hD hS; intro H locs hP hD hS
          change va_P (dC, dI) vwCl [(t_to, .inl (k_to, 40, .inl g_9)), (t_height, .inl (k_height, 40, .inl g_11)), (t_member, .inl (k_member, 40, .inl g_13)), (t_lengthHome, .inl (k_lengthHome, 40, .inl g_22)), (t_runs, .inl (k_runs, 40, .inl g_60)), (t_vacuum, .inl (k_vacuum, 40, .inl g_67)), (t_reading, .inl (k_reading, 40, .inl (upd f_reading (Int32.toNatClampNeg n_tb) (-1)))), (h0, .inr (10, [.ref t_to, .ref t_height, .ref t_member, .ref t_lengthHome, .ref t_runs, .ref t_leak, .ref t_vacuum, .ref t_reading, .int x_6]))] H at hP
          change va_D A [(t_to, .inl (k_to, 40, .inl g_9)), (t_height, .inl (k_height, 40, .inl g_11)), (t_member, .inl (k_member, 40, .inl g_13)), (t_lengthHome, .inl (k_lengthHome, 40, .inl g_22)), (t_runs, .inl (k_runs, 40, .inl g_60)), (t_vacuum, .inl (k_vacuum, 40, .inl g_67)), (t_reading, .inl (k_reading, 40, .inl (upd f_reading (Int32.toNatClampNeg n_tb) (-1)))), (h0, .inr (10, [.ref t_to, .ref t_height, .ref t_member, .ref t_lengthHome, .ref t_runs, .ref t_leak, .ref t_vacuum, .ref t_reading, .int x_6]))] at hD
          generalize hG_71 : upd f_reading (Int32.toNatClampNeg n_tb) (-1) = g_70 at hP hD
          refine lv_iload hx hb dX10_add_127 (lv_at hl 0 rfl) ?_
          refine W.widen (k := 0) (n := 0) (Nat.le_of_ble_eq_true rfl) (Nat.le_of_ble_eq_true rfl) ?_
          have hP9 := hP.sub (ws' := [(h0, .inr (10, [.ref t_to, .ref t_height, .ref t_member, .ref t_lengthHome, .ref t_runs, .ref t_leak, .ref t_vacuum, .ref t_reading, .int x_6])), (t_to, .inl (k_to, 40, .inl g_9)), (t_height, .inl (k_height, 40, .inl g_11)), (t_member, .inl (k_member, 40, .inl g_13)), (t_lengthHome, .inl (k_lengthHome, 40, .inl g_22)), (t_runs, .inl (k_runs, 40, .inl g_60)), (t_vacuum, .inl (k_vacuum, 40, .inl g_67)), (t_reading, .inl (k_reading, 40, .inl g_70))]) [7, 0, 1, 2, 3, 4, 5, 6] rfl
          have hD9 := hD.sub (ws' := [(h0, .inr (10, [.ref t_to, .ref t_height, .ref t_member, .ref t_lengthHome, .ref t_runs, .ref t_leak, .ref t_vacuum, .ref t_reading, .int x_6])), (t_to, .inl (k_to, 40, .inl g_9)), (t_height, .inl (k_height, 40, .inl g_11)), (t_member, .inl (k_member, 40, .inl g_13)), (t_lengthHome, .inl (k_lengthHome, 40, .inl g_22)), (t_runs, .inl (k_runs, 40, .inl g_60)), (t_vacuum, .inl (k_vacuum, 40, .inl g_67)), (t_reading, .inl (k_reading, 40, .inl g_70))]) [7, 0, 1, 2, 3, 4, 5, 6] (by decide) rfl
          have hK9 := hK.sub (tys' := []) [] rfl
          exact W.iret (v := n_tb) hx hb hr (fun t ht hW => ⟨⟨n_tb, (), rfl, (lg_X10_add_55 n_tb f_height f_lengthHome f_runs f_vacuum v1 v2 v3 x_6 g_11 x_15 x_19 x_24 x_43 x_63 yb yv yv2 t_2 h_4 t_8 t_17 t_18 t_21 t_26 t_27 t_29 t_42 t_45 t_47 t_65 t_66), ⟨x_6, g_9, g_11, g_13, g_22, g_60, g_67, g_70, x_19, 1, x_63, (lg_X10_add_49 n_tb f_height f_lengthHome f_runs f_vacuum v1 v2 v3 x_6 g_11 x_15 x_19 x_24 x_43 x_63 yb yv yv2 t_2 h_4 t_8 t_17 t_18 t_21 t_26 t_27 t_29 t_42 t_45 t_47 t_65 t_66), hR_68, (Ua_u (lg_X10_add_50 n_tb f_height f_lengthHome f_runs f_vacuum v1 v2 v3 x_6 g_11 x_15 x_19 x_24 x_43 x_63 yb yv yv2 t_2 h_4 t_8 t_17 t_18 t_21 t_26 t_27 t_29 t_42 t_45 t_47 t_65 t_66) hG_10), (Ua_u (lg_X10_add_50 n_tb f_height f_lengthHome f_runs f_vacuum v1 v2 v3 x_6 g_11 x_15 x_19 x_24 x_43 x_63 yb yv yv2 t_2 h_4 t_8 t_17 t_18 t_21 t_26 t_27 t_29 t_42 t_45 t_47 t_65 t_66) hG_12), (Ua_u (lg_X10_add_50 n_tb f_height f_lengthHome f_runs f_vacuum v1 v2 v3 x_6 g_11 x_15 x_19 x_24 x_43 x_63 yb yv yv2 t_2 h_4 t_8 t_17 t_18 t_21 t_26 t_27 t_29 t_42 t_45 t_47 t_65 t_66) hG_14), (Ua_u (lg_X10_add_50 n_tb f_height f_lengthHome f_runs f_vacuum v1 v2 v3 x_6 g_11 x_15 x_19 x_24 x_43 x_63 yb yv yv2 t_2 h_4 t_8 t_17 t_18 t_21 t_26 t_27 t_29 t_42 t_45 t_47 t_65 t_66) hG_23), (Ua_u (lg_X10_add_50 n_tb f_height f_lengthHome f_runs f_vacuum v1 v2 v3 x_6 g_11 x_15 x_19 x_24 x_43 x_63 yb yv yv2 t_2 h_4 t_8 t_17 t_18 t_21 t_26 t_27 t_29 t_42 t_45 t_47 t_65 t_66) (by rw [show (1 : Int32) = vp_nar .boolean 1 from by decide]; exact hG_62)), (Ua_u (lg_X10_add_50 n_tb f_height f_lengthHome f_runs f_vacuum v1 v2 v3 x_6 g_11 x_15 x_19 x_24 x_43 x_63 yb yv yv2 t_2 h_4 t_8 t_17 t_18 t_21 t_26 t_27 t_29 t_42 t_45 t_47 t_65 t_66) hG_69), (Ua_u (lg_X10_add_50 n_tb f_height f_lengthHome f_runs f_vacuum v1 v2 v3 x_6 g_11 x_15 x_19 x_24 x_43 x_63 yb yv yv2 t_2 h_4 t_8 t_17 t_18 t_21 t_26 t_27 t_29 t_42 t_45 t_47 t_65 t_66) hG_71), (lg_X10_add_51 n_tb f_height f_lengthHome f_runs f_vacuum v1 v2 v3 x_6 g_11 x_15 x_19 x_24 x_43 x_63 yb yv yv2 t_2 h_4 t_8 t_17 t_18 t_21 t_26 t_27 t_29 t_42 t_45 t_47 t_65 t_66), (lg_X10_add_52 n_tb f_height f_lengthHome f_runs f_vacuum v1 v2 v3 x_6 g_11 x_15 x_19 x_24 x_43 x_63 yb yv yv2 t_2 h_4 t_8 t_17 t_18 t_21 t_26 t_27 t_29 t_42 t_45 t_47 t_65 t_66), (lg_X10_add_53 n_tb f_height f_lengthHome f_runs f_vacuum v1 v2 v3 x_6 g_11 x_15 x_19 x_24 x_43 x_63 yb yv yv2 t_2 h_4 t_8 t_17 t_18 t_21 t_26 t_27 t_29 t_42 t_45 t_47 t_65 t_66), hR_61, (lg_X10_add_54 n_tb f_height f_lengthHome f_runs f_vacuum v1 v2 v3 x_6 g_11 x_15 x_19 x_24 x_43 x_63 yb yv yv2 t_2 h_4 t_8 t_17 t_18 t_21 t_26 t_27 t_29 t_42 t_45 t_47 t_65 t_66), by rw [ht]; exact hP9, va_K.moved hW.alike hK9, hD9⟩⟩, hS.F ht⟩) hS.2.2 dX10_add_129
    · refine lv_if_ne (tgt := 19) hx hb dX10_add_14 (by decide) (fun c_72 => absurd (by decide) c_72) ?_
      intro _
      refine lv_iconst (v := (-1)) hx hb dX10_add_17 (by decide) ?_
      refine W.widen (k := 0) (n := 0) (Nat.le_of_ble_eq_true rfl) (Nat.le_of_ble_eq_true rfl) ?_
      have hP9 := hP.sub (ws' := [(h0, .inr (10, [.ref t_to, .ref t_height, .ref t_member, .ref t_lengthHome, .ref t_runs, .ref t_leak, .ref t_vacuum, .ref t_reading, .int n_tb])), (t_to, .inl (k_to, 40, .inl f_to)), (t_height, .inl (k_height, 40, .inl f_height)), (t_member, .inl (k_member, 40, .inl f_member)), (t_lengthHome, .inl (k_lengthHome, 40, .inl f_lengthHome)), (t_runs, .inl (k_runs, 40, .inl f_runs)), (t_vacuum, .inl (k_vacuum, 40, .inl f_vacuum)), (t_reading, .inl (k_reading, 40, .inl f_reading))]) [7, 0, 1, 2, 3, 4, 5, 6] rfl
      have hD9 := hD.sub (ws' := [(h0, .inr (10, [.ref t_to, .ref t_height, .ref t_member, .ref t_lengthHome, .ref t_runs, .ref t_leak, .ref t_vacuum, .ref t_reading, .int n_tb])), (t_to, .inl (k_to, 40, .inl f_to)), (t_height, .inl (k_height, 40, .inl f_height)), (t_member, .inl (k_member, 40, .inl f_member)), (t_lengthHome, .inl (k_lengthHome, 40, .inl f_lengthHome)), (t_runs, .inl (k_runs, 40, .inl f_runs)), (t_vacuum, .inl (k_vacuum, 40, .inl f_vacuum)), (t_reading, .inl (k_reading, 40, .inl f_reading))]) [7, 0, 1, 2, 3, 4, 5, 6] (by decide) rfl
      have hK9 := hK.sub (tys' := []) [] rfl
      exact W.iret (v := (-1)) hx hb hr (fun t ht hW => ⟨⟨(-1), (), rfl, (lg_X10_add_62 n_tb v1 v2 yb yv yv2 t_2 h_4), ⟨n_tb, f_to, f_height, f_member, f_lengthHome, f_runs, f_vacuum, f_reading, 0, 0, 0, (lg_X10_add_56 n_tb v1 v2 yb yv yv2 t_2 h_4), yvac, (Ua_s (lg_X10_add_57 n_tb v1 v2 yb yv yv2 t_2 h_4)), (Ua_s (lg_X10_add_57 n_tb v1 v2 yb yv yv2 t_2 h_4)), (Ua_s (lg_X10_add_57 n_tb v1 v2 yb yv yv2 t_2 h_4)), (Ua_s (lg_X10_add_57 n_tb v1 v2 yb yv yv2 t_2 h_4)), (Ua_s (lg_X10_add_57 n_tb v1 v2 yb yv yv2 t_2 h_4)), (Ua_s (lg_X10_add_57 n_tb v1 v2 yb yv yv2 t_2 h_4)), (Ua_s (lg_X10_add_57 n_tb v1 v2 yb yv yv2 t_2 h_4)), (lg_X10_add_58 n_tb f_lengthHome v1 v2 yb yv yv2 t_2 h_4), (lg_X10_add_59 n_tb f_vacuum v1 v2 yb yv yv2 t_2 h_4), (lg_X10_add_60 n_tb f_height f_runs v1 v2 v3 yb yv yv2 t_2 h_4), yrr, (lg_X10_add_61 n_tb v1 v2 yb yv yv2 t_2 h_4), by rw [ht]; exact hP9, va_K.moved hW.alike hK9, hD9⟩⟩, hS.F ht⟩) hS.2.2 dX10_add_18

theorem lg_X10_tell_0 (n_tb : Int32) (v1 : Int32) (v2 : Int32) (yb : 1 ≤ n_tb.toInt ∧ n_tb.toInt ≤ 40) (yv1 : (0 ≤ v1.toInt ∧ v1.toInt < n_tb.toInt)) (h_2 : 0 ≤ v1.toInt ∧ v1.toInt < n_tb.toInt) (t_5 : v2.toInt = 0) : 0 ≤ v1.toInt ∧ v1.toInt < ((40 : Nat) : Int) := by
  have := rg_rng n_tb; have := rg_rng v1; have := rg_rng v2; omega
theorem lg_X10_tell_1 (n_tb : Int32) (f_to : Nat → Int32) (f_height : Nat → Int32) (f_runs : Nat → Int32) (f_vacuum : Nat → Int32) (f_member : Nat → Int32) (f_lengthHome : Nat → Int32) (v1 : Int32) (v2 : Int32) (e_to : Nat → Int32) (e_reading : Nat → Int32) (nv : Int32) (x_6 : Int32) (yb : 1 ≤ n_tb.toInt ∧ n_tb.toInt ≤ 40) (yv1 : (0 ≤ v1.toInt ∧ v1.toInt < n_tb.toInt)) (h_2 : 0 ≤ v1.toInt ∧ v1.toInt < n_tb.toInt) (t_5 : v2.toInt = 0) (t_9 : x_6.toInt = (f_to (Int32.toNatClampNeg v1)).toInt) : x_6.toInt = (teV v2.toInt (f_to (Int32.toNatClampNeg v1)).toInt (f_height (Int32.toNatClampNeg v1)).toInt (f_runs (Int32.toNatClampNeg v1)).toInt (f_vacuum (Int32.toNatClampNeg v1)).toInt (e_reading (Int32.toNatClampNeg v1)).toInt (suV v1.toInt (e_reading (Int32.toNatClampNeg v1)).toInt (raN e_to e_reading nv v1)) (f_member (Int32.toNatClampNeg v1)).toInt (f_lengthHome (Int32.toNatClampNeg v1)).toInt) := by
  have := rg_rng n_tb; have := rg_rng v1; have := rg_rng v2; have := rg_rng x_6; unfold teV; (repeat' split) <;> omega
theorem lg_X10_tell_2 (n_tb : Int32) (v1 : Int32) (v2 : Int32) (yb : 1 ≤ n_tb.toInt ∧ n_tb.toInt ≤ 40) (yv1 : (0 ≤ v1.toInt ∧ v1.toInt < n_tb.toInt)) (h_2 : 0 ≤ v1.toInt ∧ v1.toInt < n_tb.toInt) (t_10 : ¬ v2.toInt = 0) (t_12 : v2.toInt = 1) : 0 ≤ v1.toInt ∧ v1.toInt < ((40 : Nat) : Int) := by
  have := rg_rng n_tb; have := rg_rng v1; have := rg_rng v2; omega
theorem lg_X10_tell_3 (n_tb : Int32) (f_to : Nat → Int32) (f_height : Nat → Int32) (f_runs : Nat → Int32) (f_vacuum : Nat → Int32) (f_member : Nat → Int32) (f_lengthHome : Nat → Int32) (v1 : Int32) (v2 : Int32) (e_to : Nat → Int32) (e_reading : Nat → Int32) (nv : Int32) (x_13 : Int32) (yb : 1 ≤ n_tb.toInt ∧ n_tb.toInt ≤ 40) (yv1 : (0 ≤ v1.toInt ∧ v1.toInt < n_tb.toInt)) (h_2 : 0 ≤ v1.toInt ∧ v1.toInt < n_tb.toInt) (t_10 : ¬ v2.toInt = 0) (t_12 : v2.toInt = 1) (t_15 : x_13.toInt = (f_height (Int32.toNatClampNeg v1)).toInt) : x_13.toInt = (teV v2.toInt (f_to (Int32.toNatClampNeg v1)).toInt (f_height (Int32.toNatClampNeg v1)).toInt (f_runs (Int32.toNatClampNeg v1)).toInt (f_vacuum (Int32.toNatClampNeg v1)).toInt (e_reading (Int32.toNatClampNeg v1)).toInt (suV v1.toInt (e_reading (Int32.toNatClampNeg v1)).toInt (raN e_to e_reading nv v1)) (f_member (Int32.toNatClampNeg v1)).toInt (f_lengthHome (Int32.toNatClampNeg v1)).toInt) := by
  have := rg_rng n_tb; have := rg_rng v1; have := rg_rng v2; have := rg_rng x_13; unfold teV; (repeat' split) <;> omega
theorem lg_X10_tell_4 (n_tb : Int32) (v1 : Int32) (v2 : Int32) (yb : 1 ≤ n_tb.toInt ∧ n_tb.toInt ≤ 40) (yv1 : (0 ≤ v1.toInt ∧ v1.toInt < n_tb.toInt)) (h_2 : 0 ≤ v1.toInt ∧ v1.toInt < n_tb.toInt) (t_10 : ¬ v2.toInt = 0) (t_16 : ¬ v2.toInt = 1) (t_18 : v2.toInt = 2) : 0 ≤ v1.toInt ∧ v1.toInt < ((40 : Nat) : Int) := by
  have := rg_rng n_tb; have := rg_rng v1; have := rg_rng v2; omega
theorem lg_X10_tell_5 (n_tb : Int32) (f_runs : Nat → Int32) (v1 : Int32) (v2 : Int32) (x_19 : Int32) (yb : 1 ≤ n_tb.toInt ∧ n_tb.toInt ≤ 40) (yv1 : (0 ≤ v1.toInt ∧ v1.toInt < n_tb.toInt)) (h_2 : 0 ≤ v1.toInt ∧ v1.toInt < n_tb.toInt) (t_10 : ¬ v2.toInt = 0) (t_16 : ¬ v2.toInt = 1) (t_18 : v2.toInt = 2) (t_21 : x_19.toInt = (f_runs (Int32.toNatClampNeg v1)).toInt) : 0 ≤ v1.toInt ∧ v1.toInt < ((40 : Nat) : Int) := by
  have := rg_rng n_tb; have := rg_rng v1; have := rg_rng v2; have := rg_rng x_19; omega
theorem lg_X10_tell_6 (n_tb : Int32) (f_to : Nat → Int32) (f_height : Nat → Int32) (f_runs : Nat → Int32) (f_vacuum : Nat → Int32) (f_member : Nat → Int32) (f_lengthHome : Nat → Int32) (v1 : Int32) (v2 : Int32) (e_to : Nat → Int32) (e_reading : Nat → Int32) (nv : Int32) (x_19 : Int32) (yb : 1 ≤ n_tb.toInt ∧ n_tb.toInt ≤ 40) (yv1 : (0 ≤ v1.toInt ∧ v1.toInt < n_tb.toInt)) (h_2 : 0 ≤ v1.toInt ∧ v1.toInt < n_tb.toInt) (t_10 : ¬ v2.toInt = 0) (t_16 : ¬ v2.toInt = 1) (t_18 : v2.toInt = 2) (t_21 : x_19.toInt = (f_runs (Int32.toNatClampNeg v1)).toInt) (t_22 : 0 ≤ x_19.toInt ∧ x_19.toInt ≤ 1) (t_24 : x_19.toInt = (0 : Int)) : (0 : Int) = (teV v2.toInt (f_to (Int32.toNatClampNeg v1)).toInt (f_height (Int32.toNatClampNeg v1)).toInt (f_runs (Int32.toNatClampNeg v1)).toInt (f_vacuum (Int32.toNatClampNeg v1)).toInt (e_reading (Int32.toNatClampNeg v1)).toInt (suV v1.toInt (e_reading (Int32.toNatClampNeg v1)).toInt (raN e_to e_reading nv v1)) (f_member (Int32.toNatClampNeg v1)).toInt (f_lengthHome (Int32.toNatClampNeg v1)).toInt) := by
  have := rg_rng n_tb; have := rg_rng v1; have := rg_rng v2; have := rg_rng x_19; unfold teV; (repeat' split) <;> omega
theorem lg_X10_tell_7 (n_tb : Int32) (f_to : Nat → Int32) (f_height : Nat → Int32) (f_runs : Nat → Int32) (f_vacuum : Nat → Int32) (f_member : Nat → Int32) (f_lengthHome : Nat → Int32) (v1 : Int32) (v2 : Int32) (e_to : Nat → Int32) (e_reading : Nat → Int32) (nv : Int32) (x_19 : Int32) (yb : 1 ≤ n_tb.toInt ∧ n_tb.toInt ≤ 40) (yv1 : (0 ≤ v1.toInt ∧ v1.toInt < n_tb.toInt)) (h_2 : 0 ≤ v1.toInt ∧ v1.toInt < n_tb.toInt) (t_10 : ¬ v2.toInt = 0) (t_16 : ¬ v2.toInt = 1) (t_18 : v2.toInt = 2) (t_21 : x_19.toInt = (f_runs (Int32.toNatClampNeg v1)).toInt) (t_22 : 0 ≤ x_19.toInt ∧ x_19.toInt ≤ 1) (t_24 : ¬ x_19.toInt = (0 : Int)) : (1 : Int) = (teV v2.toInt (f_to (Int32.toNatClampNeg v1)).toInt (f_height (Int32.toNatClampNeg v1)).toInt (f_runs (Int32.toNatClampNeg v1)).toInt (f_vacuum (Int32.toNatClampNeg v1)).toInt (e_reading (Int32.toNatClampNeg v1)).toInt (suV v1.toInt (e_reading (Int32.toNatClampNeg v1)).toInt (raN e_to e_reading nv v1)) (f_member (Int32.toNatClampNeg v1)).toInt (f_lengthHome (Int32.toNatClampNeg v1)).toInt) := by
  have := rg_rng n_tb; have := rg_rng v1; have := rg_rng v2; have := rg_rng x_19; unfold teV; (repeat' split) <;> omega
theorem lg_X10_tell_8 (n_tb : Int32) (v1 : Int32) (v2 : Int32) (yb : 1 ≤ n_tb.toInt ∧ n_tb.toInt ≤ 40) (yv1 : (0 ≤ v1.toInt ∧ v1.toInt < n_tb.toInt)) (h_2 : 0 ≤ v1.toInt ∧ v1.toInt < n_tb.toInt) (t_10 : ¬ v2.toInt = 0) (t_16 : ¬ v2.toInt = 1) (t_25 : ¬ v2.toInt = 2) (t_27 : v2.toInt = 3) : 0 ≤ v1.toInt ∧ v1.toInt < ((40 : Nat) : Int) := by
  have := rg_rng n_tb; have := rg_rng v1; have := rg_rng v2; omega
theorem lg_X10_tell_9 (n_tb : Int32) (f_vacuum : Nat → Int32) (v1 : Int32) (v2 : Int32) (x_28 : Int32) (yb : 1 ≤ n_tb.toInt ∧ n_tb.toInt ≤ 40) (yv1 : (0 ≤ v1.toInt ∧ v1.toInt < n_tb.toInt)) (h_2 : 0 ≤ v1.toInt ∧ v1.toInt < n_tb.toInt) (t_10 : ¬ v2.toInt = 0) (t_16 : ¬ v2.toInt = 1) (t_25 : ¬ v2.toInt = 2) (t_27 : v2.toInt = 3) (t_30 : x_28.toInt = (f_vacuum (Int32.toNatClampNeg v1)).toInt) : 0 ≤ v1.toInt ∧ v1.toInt < ((40 : Nat) : Int) := by
  have := rg_rng n_tb; have := rg_rng v1; have := rg_rng v2; have := rg_rng x_28; omega
theorem lg_X10_tell_10 (n_tb : Int32) (f_to : Nat → Int32) (f_height : Nat → Int32) (f_runs : Nat → Int32) (f_vacuum : Nat → Int32) (f_member : Nat → Int32) (f_lengthHome : Nat → Int32) (v1 : Int32) (v2 : Int32) (e_to : Nat → Int32) (e_reading : Nat → Int32) (nv : Int32) (x_28 : Int32) (yb : 1 ≤ n_tb.toInt ∧ n_tb.toInt ≤ 40) (yv1 : (0 ≤ v1.toInt ∧ v1.toInt < n_tb.toInt)) (h_2 : 0 ≤ v1.toInt ∧ v1.toInt < n_tb.toInt) (t_10 : ¬ v2.toInt = 0) (t_16 : ¬ v2.toInt = 1) (t_25 : ¬ v2.toInt = 2) (t_27 : v2.toInt = 3) (t_30 : x_28.toInt = (f_vacuum (Int32.toNatClampNeg v1)).toInt) (t_31 : 0 ≤ x_28.toInt ∧ x_28.toInt ≤ 100) : x_28.toInt = (teV v2.toInt (f_to (Int32.toNatClampNeg v1)).toInt (f_height (Int32.toNatClampNeg v1)).toInt (f_runs (Int32.toNatClampNeg v1)).toInt (f_vacuum (Int32.toNatClampNeg v1)).toInt (e_reading (Int32.toNatClampNeg v1)).toInt (suV v1.toInt (e_reading (Int32.toNatClampNeg v1)).toInt (raN e_to e_reading nv v1)) (f_member (Int32.toNatClampNeg v1)).toInt (f_lengthHome (Int32.toNatClampNeg v1)).toInt) := by
  have := rg_rng n_tb; have := rg_rng v1; have := rg_rng v2; have := rg_rng x_28; unfold teV; (repeat' split) <;> omega
theorem lg_X10_tell_11 (n_tb : Int32) (v1 : Int32) (v2 : Int32) (yb : 1 ≤ n_tb.toInt ∧ n_tb.toInt ≤ 40) (yv1 : (0 ≤ v1.toInt ∧ v1.toInt < n_tb.toInt)) (h_2 : 0 ≤ v1.toInt ∧ v1.toInt < n_tb.toInt) (t_10 : ¬ v2.toInt = 0) (t_16 : ¬ v2.toInt = 1) (t_25 : ¬ v2.toInt = 2) (t_32 : ¬ v2.toInt = 3) (t_34 : v2.toInt = 4) : 0 ≤ v1.toInt ∧ v1.toInt < ((40 : Nat) : Int) := by
  have := rg_rng n_tb; have := rg_rng v1; have := rg_rng v2; omega
theorem lg_X10_tell_12 (n_tb : Int32) (v1 : Int32) (v2 : Int32) (yb : 1 ≤ n_tb.toInt ∧ n_tb.toInt ≤ 40) (yv1 : (0 ≤ v1.toInt ∧ v1.toInt < n_tb.toInt)) (h_2 : 0 ≤ v1.toInt ∧ v1.toInt < n_tb.toInt) (t_10 : ¬ v2.toInt = 0) (t_16 : ¬ v2.toInt = 1) (t_25 : ¬ v2.toInt = 2) (t_32 : ¬ v2.toInt = 3) (t_34 : v2.toInt = 4) : 0 ≤ v1.toInt ∧ v1.toInt < n_tb.toInt := by
  have := rg_rng n_tb; have := rg_rng v1; have := rg_rng v2; omega
theorem lg_X10_tell_13 (n_tb : Int32) (v1 : Int32) (v2 : Int32) (e_reading : Nat → Int32) (x_35 : Int32) (yb : 1 ≤ n_tb.toInt ∧ n_tb.toInt ≤ 40) (yv1 : (0 ≤ v1.toInt ∧ v1.toInt < n_tb.toInt)) (h_2 : 0 ≤ v1.toInt ∧ v1.toInt < n_tb.toInt) (t_10 : ¬ v2.toInt = 0) (t_16 : ¬ v2.toInt = 1) (t_25 : ¬ v2.toInt = 2) (t_32 : ¬ v2.toInt = 3) (t_34 : v2.toInt = 4) (t_38 : x_35.toInt = (e_reading (Int32.toNatClampNeg v1)).toInt) : 0 ≤ v1.toInt ∧ v1.toInt < ((40 : Nat) : Int) := by
  have := rg_rng n_tb; have := rg_rng v1; have := rg_rng v2; have := rg_rng x_35; omega
theorem lg_X10_tell_14 (n_tb : Int32) (f_to : Nat → Int32) (f_height : Nat → Int32) (f_runs : Nat → Int32) (f_vacuum : Nat → Int32) (f_reading : Nat → Int32) (f_member : Nat → Int32) (f_lengthHome : Nat → Int32) (v1 : Int32) (v2 : Int32) (e_to : Nat → Int32) (e_reading : Nat → Int32) (nv : Int32) (x_35 : Int32) (yb : 1 ≤ n_tb.toInt ∧ n_tb.toInt ≤ 40) (yv1 : (0 ≤ v1.toInt ∧ v1.toInt < n_tb.toInt)) (h_2 : 0 ≤ v1.toInt ∧ v1.toInt < n_tb.toInt) (t_10 : ¬ v2.toInt = 0) (t_16 : ¬ v2.toInt = 1) (t_25 : ¬ v2.toInt = 2) (t_32 : ¬ v2.toInt = 3) (t_34 : v2.toInt = 4) (t_38 : x_35.toInt = (e_reading (Int32.toNatClampNeg v1)).toInt) (t_39 : (-1) ≤ x_35.toInt ∧ x_35.toInt ≤ 100) (t_40 : x_35.toInt = (f_reading (Int32.toNatClampNeg v1)).toInt) : x_35.toInt = (teV v2.toInt (f_to (Int32.toNatClampNeg v1)).toInt (f_height (Int32.toNatClampNeg v1)).toInt (f_runs (Int32.toNatClampNeg v1)).toInt (f_vacuum (Int32.toNatClampNeg v1)).toInt (e_reading (Int32.toNatClampNeg v1)).toInt (suV v1.toInt (e_reading (Int32.toNatClampNeg v1)).toInt (raN e_to e_reading nv v1)) (f_member (Int32.toNatClampNeg v1)).toInt (f_lengthHome (Int32.toNatClampNeg v1)).toInt) := by
  have := rg_rng n_tb; have := rg_rng v1; have := rg_rng v2; have := rg_rng x_35; unfold teV; (repeat' split) <;> omega
theorem lg_X10_tell_15 (n_tb : Int32) (f_to : Nat → Int32) (f_height : Nat → Int32) (f_runs : Nat → Int32) (f_vacuum : Nat → Int32) (f_member : Nat → Int32) (f_lengthHome : Nat → Int32) (v1 : Int32) (v2 : Int32) (e_to : Nat → Int32) (e_reading : Nat → Int32) (nv : Int32) (r_44 : Int32) (yb : 1 ≤ n_tb.toInt ∧ n_tb.toInt ≤ 40) (yv1 : (0 ≤ v1.toInt ∧ v1.toInt < n_tb.toInt)) (h_2 : 0 ≤ v1.toInt ∧ v1.toInt < n_tb.toInt) (t_10 : ¬ v2.toInt = 0) (t_16 : ¬ v2.toInt = 1) (t_25 : ¬ v2.toInt = 2) (t_32 : ¬ v2.toInt = 3) (t_41 : ¬ v2.toInt = 4) (t_43 : v2.toInt = 5) (h_45 : r_44.toInt = suV v1.toInt (e_reading (Int32.toNatClampNeg v1)).toInt (raN e_to e_reading nv v1)) : r_44.toInt = (teV v2.toInt (f_to (Int32.toNatClampNeg v1)).toInt (f_height (Int32.toNatClampNeg v1)).toInt (f_runs (Int32.toNatClampNeg v1)).toInt (f_vacuum (Int32.toNatClampNeg v1)).toInt (e_reading (Int32.toNatClampNeg v1)).toInt (suV v1.toInt (e_reading (Int32.toNatClampNeg v1)).toInt (raN e_to e_reading nv v1)) (f_member (Int32.toNatClampNeg v1)).toInt (f_lengthHome (Int32.toNatClampNeg v1)).toInt) := by
  have := rg_rng n_tb; have := rg_rng v1; have := rg_rng v2; have := rg_rng r_44; unfold teV; (repeat' split) <;> omega
theorem lg_X10_tell_16 (n_tb : Int32) (f_to : Nat → Int32) (f_height : Nat → Int32) (f_runs : Nat → Int32) (f_vacuum : Nat → Int32) (f_member : Nat → Int32) (f_lengthHome : Nat → Int32) (v1 : Int32) (v2 : Int32) (e_to : Nat → Int32) (e_reading : Nat → Int32) (nv : Int32) (yb : 1 ≤ n_tb.toInt ∧ n_tb.toInt ≤ 40) (yv1 : (0 ≤ v1.toInt ∧ v1.toInt < n_tb.toInt)) (h_2 : 0 ≤ v1.toInt ∧ v1.toInt < n_tb.toInt) (t_10 : ¬ v2.toInt = 0) (t_16 : ¬ v2.toInt = 1) (t_25 : ¬ v2.toInt = 2) (t_32 : ¬ v2.toInt = 3) (t_41 : ¬ v2.toInt = 4) (t_46 : ¬ v2.toInt = 5) (t_48 : v2.toInt = 6) : (-1 : Int) = (teV v2.toInt (f_to (Int32.toNatClampNeg v1)).toInt (f_height (Int32.toNatClampNeg v1)).toInt (f_runs (Int32.toNatClampNeg v1)).toInt (f_vacuum (Int32.toNatClampNeg v1)).toInt (e_reading (Int32.toNatClampNeg v1)).toInt (suV v1.toInt (e_reading (Int32.toNatClampNeg v1)).toInt (raN e_to e_reading nv v1)) (f_member (Int32.toNatClampNeg v1)).toInt (f_lengthHome (Int32.toNatClampNeg v1)).toInt) := by
  have := rg_rng n_tb; have := rg_rng v1; have := rg_rng v2; unfold teV; (repeat' split) <;> omega
theorem lg_X10_tell_17 (n_tb : Int32) (v1 : Int32) (v2 : Int32) (yb : 1 ≤ n_tb.toInt ∧ n_tb.toInt ≤ 40) (yv1 : (0 ≤ v1.toInt ∧ v1.toInt < n_tb.toInt)) (h_2 : 0 ≤ v1.toInt ∧ v1.toInt < n_tb.toInt) (t_10 : ¬ v2.toInt = 0) (t_16 : ¬ v2.toInt = 1) (t_25 : ¬ v2.toInt = 2) (t_32 : ¬ v2.toInt = 3) (t_41 : ¬ v2.toInt = 4) (t_46 : ¬ v2.toInt = 5) (t_49 : ¬ v2.toInt = 6) (t_51 : v2.toInt = 7) : 0 ≤ v1.toInt ∧ v1.toInt < ((40 : Nat) : Int) := by
  have := rg_rng n_tb; have := rg_rng v1; have := rg_rng v2; omega
theorem lg_X10_tell_18 (n_tb : Int32) (f_to : Nat → Int32) (f_height : Nat → Int32) (f_runs : Nat → Int32) (f_vacuum : Nat → Int32) (f_member : Nat → Int32) (f_lengthHome : Nat → Int32) (v1 : Int32) (v2 : Int32) (e_to : Nat → Int32) (e_reading : Nat → Int32) (nv : Int32) (x_52 : Int32) (yb : 1 ≤ n_tb.toInt ∧ n_tb.toInt ≤ 40) (yv1 : (0 ≤ v1.toInt ∧ v1.toInt < n_tb.toInt)) (h_2 : 0 ≤ v1.toInt ∧ v1.toInt < n_tb.toInt) (t_10 : ¬ v2.toInt = 0) (t_16 : ¬ v2.toInt = 1) (t_25 : ¬ v2.toInt = 2) (t_32 : ¬ v2.toInt = 3) (t_41 : ¬ v2.toInt = 4) (t_46 : ¬ v2.toInt = 5) (t_49 : ¬ v2.toInt = 6) (t_51 : v2.toInt = 7) (t_54 : x_52.toInt = (f_member (Int32.toNatClampNeg v1)).toInt) : x_52.toInt = (teV v2.toInt (f_to (Int32.toNatClampNeg v1)).toInt (f_height (Int32.toNatClampNeg v1)).toInt (f_runs (Int32.toNatClampNeg v1)).toInt (f_vacuum (Int32.toNatClampNeg v1)).toInt (e_reading (Int32.toNatClampNeg v1)).toInt (suV v1.toInt (e_reading (Int32.toNatClampNeg v1)).toInt (raN e_to e_reading nv v1)) (f_member (Int32.toNatClampNeg v1)).toInt (f_lengthHome (Int32.toNatClampNeg v1)).toInt) := by
  have := rg_rng n_tb; have := rg_rng v1; have := rg_rng v2; have := rg_rng x_52; unfold teV; (repeat' split) <;> omega
theorem lg_X10_tell_19 (n_tb : Int32) (v1 : Int32) (v2 : Int32) (yb : 1 ≤ n_tb.toInt ∧ n_tb.toInt ≤ 40) (yv1 : (0 ≤ v1.toInt ∧ v1.toInt < n_tb.toInt)) (h_2 : 0 ≤ v1.toInt ∧ v1.toInt < n_tb.toInt) (t_10 : ¬ v2.toInt = 0) (t_16 : ¬ v2.toInt = 1) (t_25 : ¬ v2.toInt = 2) (t_32 : ¬ v2.toInt = 3) (t_41 : ¬ v2.toInt = 4) (t_46 : ¬ v2.toInt = 5) (t_49 : ¬ v2.toInt = 6) (t_55 : ¬ v2.toInt = 7) (t_57 : v2.toInt = 8) : 0 ≤ v1.toInt ∧ v1.toInt < ((40 : Nat) : Int) := by
  have := rg_rng n_tb; have := rg_rng v1; have := rg_rng v2; omega
theorem lg_X10_tell_20 (n_tb : Int32) (f_to : Nat → Int32) (f_height : Nat → Int32) (f_runs : Nat → Int32) (f_vacuum : Nat → Int32) (f_member : Nat → Int32) (f_lengthHome : Nat → Int32) (v1 : Int32) (v2 : Int32) (e_to : Nat → Int32) (e_reading : Nat → Int32) (nv : Int32) (x_58 : Int32) (yb : 1 ≤ n_tb.toInt ∧ n_tb.toInt ≤ 40) (yv1 : (0 ≤ v1.toInt ∧ v1.toInt < n_tb.toInt)) (h_2 : 0 ≤ v1.toInt ∧ v1.toInt < n_tb.toInt) (t_10 : ¬ v2.toInt = 0) (t_16 : ¬ v2.toInt = 1) (t_25 : ¬ v2.toInt = 2) (t_32 : ¬ v2.toInt = 3) (t_41 : ¬ v2.toInt = 4) (t_46 : ¬ v2.toInt = 5) (t_49 : ¬ v2.toInt = 6) (t_55 : ¬ v2.toInt = 7) (t_57 : v2.toInt = 8) (t_60 : x_58.toInt = (f_lengthHome (Int32.toNatClampNeg v1)).toInt) : x_58.toInt = (teV v2.toInt (f_to (Int32.toNatClampNeg v1)).toInt (f_height (Int32.toNatClampNeg v1)).toInt (f_runs (Int32.toNatClampNeg v1)).toInt (f_vacuum (Int32.toNatClampNeg v1)).toInt (e_reading (Int32.toNatClampNeg v1)).toInt (suV v1.toInt (e_reading (Int32.toNatClampNeg v1)).toInt (raN e_to e_reading nv v1)) (f_member (Int32.toNatClampNeg v1)).toInt (f_lengthHome (Int32.toNatClampNeg v1)).toInt) := by
  have := rg_rng n_tb; have := rg_rng v1; have := rg_rng v2; have := rg_rng x_58; unfold teV; (repeat' split) <;> omega
theorem lg_X10_tell_21 (n_tb : Int32) (f_to : Nat → Int32) (f_height : Nat → Int32) (f_runs : Nat → Int32) (f_vacuum : Nat → Int32) (f_member : Nat → Int32) (f_lengthHome : Nat → Int32) (v1 : Int32) (v2 : Int32) (e_to : Nat → Int32) (e_reading : Nat → Int32) (nv : Int32) (yb : 1 ≤ n_tb.toInt ∧ n_tb.toInt ≤ 40) (yv1 : (0 ≤ v1.toInt ∧ v1.toInt < n_tb.toInt)) (h_2 : 0 ≤ v1.toInt ∧ v1.toInt < n_tb.toInt) (t_10 : ¬ v2.toInt = 0) (t_16 : ¬ v2.toInt = 1) (t_25 : ¬ v2.toInt = 2) (t_32 : ¬ v2.toInt = 3) (t_41 : ¬ v2.toInt = 4) (t_46 : ¬ v2.toInt = 5) (t_49 : ¬ v2.toInt = 6) (t_55 : ¬ v2.toInt = 7) (t_61 : ¬ v2.toInt = 8) : (-1 : Int) = (teV v2.toInt (f_to (Int32.toNatClampNeg v1)).toInt (f_height (Int32.toNatClampNeg v1)).toInt (f_runs (Int32.toNatClampNeg v1)).toInt (f_vacuum (Int32.toNatClampNeg v1)).toInt (e_reading (Int32.toNatClampNeg v1)).toInt (suV v1.toInt (e_reading (Int32.toNatClampNeg v1)).toInt (raN e_to e_reading nv v1)) (f_member (Int32.toNatClampNeg v1)).toInt (f_lengthHome (Int32.toNatClampNeg v1)).toInt) := by
  have := rg_rng n_tb; have := rg_rng v1; have := rg_rng v2; unfold teV; (repeat' split) <;> omega
set_option maxHeartbeats 4000000 in
set_option maxRecDepth 100000 in
theorem kX10_tell (l : Launch) (dC : Nat → ClassId) (dI : Nat → Nat → Nat) (sz : Nat) (h0 : Nat) (t_to : Nat) (t_height : Nat) (t_member : Nat) (t_lengthHome : Nat) (t_runs : Nat) (t_leak : Nat) (t_vacuum : Nat) (t_reading : Nat) (n_tb : Int32) (k_to : ClassId) (k_height : ClassId) (k_runs : ClassId) (k_vacuum : ClassId) (k_reading : ClassId) (k_member : ClassId) (k_lengthHome : ClassId) (f_to : Nat → Int32) (f_height : Nat → Int32) (f_runs : Nat → Int32) (f_vacuum : Nat → Int32) (f_reading : Nat → Int32) (f_member : Nat → Int32) (f_lengthHome : Nat → Int32) (v1 : Int32) (v2 : Int32) (e_to : Nat → Int32) (e_reading : Nat → Int32) (nv : Int32) (yb : 1 ≤ n_tb.toInt ∧ n_tb.toInt ≤ 40) (yvac : Rg f_vacuum 40 0 100) (yrr : Rg f_runs 40 0 1) (yTT : TbT f_to e_to n_tb.toInt) (yDn : Dn e_to) (yTE : TbE f_reading e_reading n_tb.toInt) (yRe : Rg e_reading 40 (-1) 100) (yV0 : V0 f_vacuum nv) (yv1 : (0 ≤ v1.toInt ∧ v1.toInt < n_tb.toInt)) : Met l yX10_tell (Cond.code yX10_tell cX10_tell 3 (some .int) :: bg) ({ frames := 4, cells := 0, slots := 0, locals := 86 }) (pcW dC dI [.ref h0, .int v1, .int v2] sz [(h0, .inr (10, [.ref t_to, .ref t_height, .ref t_member, .ref t_lengthHome, .ref t_runs, .ref t_leak, .ref t_vacuum, .ref t_reading, .int n_tb])), (t_to, .inl (k_to, 40, .inl f_to)), (t_height, .inl (k_height, 40, .inl f_height)), (t_runs, .inl (k_runs, 40, .inl f_runs)), (t_vacuum, .inl (k_vacuum, 40, .inl f_vacuum)), (t_reading, .inl (k_reading, 40, .inl f_reading)), (t_member, .inl (k_member, 40, .inl f_member)), (t_lengthHome, .inl (k_lengthHome, 40, .inl f_lengthHome))] [(k_to, .int), (k_height, .int), (k_runs, .boolean), (k_vacuum, .int), (k_reading, .int), (k_member, .int), (k_lengthHome, .int)]) (va_Qi (fun (r : Int32) (u : Unit) => r.toInt = (teV v2.toInt (f_to (Int32.toNatClampNeg v1)).toInt (f_height (Int32.toNatClampNeg v1)).toInt (f_runs (Int32.toNatClampNeg v1)).toInt (f_vacuum (Int32.toNatClampNeg v1)).toInt (e_reading (Int32.toNatClampNeg v1)).toInt (suV v1.toInt (e_reading (Int32.toNatClampNeg v1)).toInt (raN e_to e_reading nv v1)) (f_member (Int32.toNatClampNeg v1)).toInt (f_lengthHome (Int32.toNatClampNeg v1)).toInt)) (fun (u : Unit) (t : State) => va_P (dC, dI) vwCl [(h0, .inr (10, [.ref t_to, .ref t_height, .ref t_member, .ref t_lengthHome, .ref t_runs, .ref t_leak, .ref t_vacuum, .ref t_reading, .int n_tb])), (t_to, .inl (k_to, 40, .inl f_to)), (t_height, .inl (k_height, 40, .inl f_height)), (t_runs, .inl (k_runs, 40, .inl f_runs)), (t_vacuum, .inl (k_vacuum, 40, .inl f_vacuum)), (t_reading, .inl (k_reading, 40, .inl f_reading)), (t_member, .inl (k_member, 40, .inl f_member)), (t_lengthHome, .inl (k_lengthHome, 40, .inl f_lengthHome))] t.heap ∧ va_K (dC, dI) vwCl [(k_to, .int), (k_height, .int), (k_runs, .boolean), (k_vacuum, .int), (k_reading, .int), (k_member, .int), (k_lengthHome, .int)] t ∧ va_D (va_A [(h0, .inr (10, [.ref t_to, .ref t_height, .ref t_member, .ref t_lengthHome, .ref t_runs, .ref t_leak, .ref t_vacuum, .ref t_reading, .int n_tb])), (t_to, .inl (k_to, 40, .inl f_to)), (t_height, .inl (k_height, 40, .inl f_height)), (t_runs, .inl (k_runs, 40, .inl f_runs)), (t_vacuum, .inl (k_vacuum, 40, .inl f_vacuum)), (t_reading, .inl (k_reading, 40, .inl f_reading)), (t_member, .inl (k_member, 40, .inl f_member)), (t_lengthHome, .inl (k_lengthHome, 40, .inl f_lengthHome))] sz) [(h0, .inr (10, [.ref t_to, .ref t_height, .ref t_member, .ref t_lengthHome, .ref t_runs, .ref t_leak, .ref t_vacuum, .ref t_reading, .int n_tb])), (t_to, .inl (k_to, 40, .inl f_to)), (t_height, .inl (k_height, 40, .inl f_height)), (t_runs, .inl (k_runs, 40, .inl f_runs)), (t_vacuum, .inl (k_vacuum, 40, .inl f_vacuum)), (t_reading, .inl (k_reading, 40, .inl f_reading)), (t_member, .inl (k_member, 40, .inl f_member)), (t_lengthHome, .inl (k_lengthHome, 40, .inl f_lengthHome))]) (va_A [(h0, .inr (10, [.ref t_to, .ref t_height, .ref t_member, .ref t_lengthHome, .ref t_runs, .ref t_leak, .ref t_vacuum, .ref t_reading, .int n_tb])), (t_to, .inl (k_to, 40, .inl f_to)), (t_height, .inl (k_height, 40, .inl f_height)), (t_runs, .inl (k_runs, 40, .inl f_runs)), (t_vacuum, .inl (k_vacuum, 40, .inl f_vacuum)), (t_reading, .inl (k_reading, 40, .inl f_reading)), (t_member, .inl (k_member, 40, .inl f_member)), (t_lengthHome, .inl (k_lengthHome, 40, .inl f_lengthHome))] sz)) 0 0 (va_A [(h0, .inr (10, [.ref t_to, .ref t_height, .ref t_member, .ref t_lengthHome, .ref t_runs, .ref t_leak, .ref t_vacuum, .ref t_reading, .int n_tb])), (t_to, .inl (k_to, 40, .inl f_to)), (t_height, .inl (k_height, 40, .inl f_height)), (t_runs, .inl (k_runs, 40, .inl f_runs)), (t_vacuum, .inl (k_vacuum, 40, .inl f_vacuum)), (t_reading, .inl (k_reading, 40, .inl f_reading)), (t_member, .inl (k_member, 40, .inl f_member)), (t_lengthHome, .inl (k_lengthHome, 40, .inl f_lengthHome))] sz) := by
  refine Met.ofW (cc := cX10_tell) (maxL := 3) (ret := (some .int)) pnX10 rfl ?_
  intro p e s m args below meth c s₁ B hml hv
  obtain ⟨rfl, hsz, hP, hK, hD0, hN⟩ := hv
  have hx := B.exec
  have hb := B.bytes
  have hr := B.returns
  have htb : ∀ w ∈ bg, w.before [.ref h0, .int v1, .int v2].toArray s = true := fun w h => atoms_spec (ws := Cond.code yX10_tell cX10_tell 3 (some .int) :: bg) B.pre w (List.mem_cons_of_mem _ h)
  have hown : s.vm.findClass RX10 = some m.cls := findClass_of_methodNamed B.named
  have hlocks := B.notSynchronized
  subst hsz
  have hD := hD0.self (sz := s.heap.size)
  generalize hAe : va_A [(h0, .inr (10, [.ref t_to, .ref t_height, .ref t_member, .ref t_lengthHome, .ref t_runs, .ref t_leak, .ref t_vacuum, .ref t_reading, .int n_tb])), (t_to, .inl (k_to, 40, .inl f_to)), (t_height, .inl (k_height, 40, .inl f_height)), (t_runs, .inl (k_runs, 40, .inl f_runs)), (t_vacuum, .inl (k_vacuum, 40, .inl f_vacuum)), (t_reading, .inl (k_reading, 40, .inl f_reading)), (t_member, .inl (k_member, 40, .inl f_member)), (t_lengthHome, .inl (k_lengthHome, 40, .inl f_lengthHome))] s.heap.size = A at hD ⊢
  have hA : ∀ q : Nat, s.heap.size ≤ q → A q := fun q h => by rw [← hAe]; exact Or.inr h
  have hS : va_S A s.heap s.heap [] := va_S.rf
  have hl := lv_entry ([.ref h0, .int v1, .int v2]) (n := 3) (Nat.le_of_ble_eq_true rfl)
  rw [lg_entry_eq]
  generalize (lg_sl ([.ref h0, .int v1, .int v2]) ++ List.replicate (3 - (lg_sl ([.ref h0, .int v1, .int v2])).length) Slot.unset).toArray = ls at hl ⊢
  change lv_has ls 3 [(0, .ref h0), (1, .int v1), (2, .int v2)] at hl
  clear hD0 hAe
  refine go0 (wsP := fun H => va_P (dC, dI) vwCl [(h0, .inr (10, [.ref t_to, .ref t_height, .ref t_member, .ref t_lengthHome, .ref t_runs, .ref t_leak, .ref t_vacuum, .ref t_reading, .int n_tb])), (t_to, .inl (k_to, 40, .inl f_to)), (t_height, .inl (k_height, 40, .inl f_height)), (t_runs, .inl (k_runs, 40, .inl f_runs)), (t_vacuum, .inl (k_vacuum, 40, .inl f_vacuum)), (t_reading, .inl (k_reading, 40, .inl f_reading)), (t_member, .inl (k_member, 40, .inl f_member)), (t_lengthHome, .inl (k_lengthHome, 40, .inl f_lengthHome))] H) hP hS ?_
  clear hP hS; intro H locs hP hS
  change va_P (dC, dI) vwCl [(h0, .inr (10, [.ref t_to, .ref t_height, .ref t_member, .ref t_lengthHome, .ref t_runs, .ref t_leak, .ref t_vacuum, .ref t_reading, .int n_tb])), (t_to, .inl (k_to, 40, .inl f_to)), (t_height, .inl (k_height, 40, .inl f_height)), (t_runs, .inl (k_runs, 40, .inl f_runs)), (t_vacuum, .inl (k_vacuum, 40, .inl f_vacuum)), (t_reading, .inl (k_reading, 40, .inl f_reading)), (t_member, .inl (k_member, 40, .inl f_member)), (t_lengthHome, .inl (k_lengthHome, 40, .inl f_lengthHome))] H at hP
  refine lv_aload_n hx hb dX10_tell_0 rfl (lv_at hl 0 rfl) ?_
  refine lv_iload_n hx hb dX10_tell_1 rfl (lv_at hl 1 rfl) ?_
  have hPc := hP.sub (ws' := [(h0, .inr (10, [.ref t_to, .ref t_height, .ref t_member, .ref t_lengthHome, .ref t_runs, .ref t_leak, .ref t_vacuum, .ref t_reading, .int n_tb]))]) [0] rfl
  have hDc := hD.sub (ws' := [(h0, .inr (10, [.ref t_to, .ref t_height, .ref t_member, .ref t_lengthHome, .ref t_runs, .ref t_leak, .ref t_vacuum, .ref t_reading, .int n_tb]))]) [0] (by decide) rfl
  have hKc := hK.sub (tys' := []) [] rfl
  have hFc := va_free (wc := [(h0, .inr (10, [.ref t_to, .ref t_height, .ref t_member, .ref t_lengthHome, .ref t_runs, .ref t_leak, .ref t_vacuum, .ref t_reading, .int n_tb]))]) hD hS hA [0] rfl
  refine va_calli (va_runV (C := RX10) (As := [.int v1]) (rest := []) ⟨hx, hb, hml, hown, htb⟩ (kX10_has l dC dI H.size h0 t_to t_height t_member t_lengthHome t_runs t_leak t_vacuum t_reading n_tb v1 ) ⟨callB_of 1 htb (gd_c m_352) rfl rfl rfl (htb _ m_2) (htb _ m_363) hdX10_has ⟨(Nat.le_of_ble_eq_true rfl), (Nat.le_of_ble_eq_true rfl)⟩, htb _ m_350, htb _ m_351⟩ ⟨pcW_blind, va_recv hKc hPc (ci := 10) (q0 := 0) rfl rfl, pcW_at hPc hKc hDc hN⟩ rfl rfl hl.1 rfl (lv_room (Nat.le_of_ble_eq_true rfl)) dX10_tell_2 ⟨(Nat.le_of_ble_eq_true rfl), (Nat.le_of_ble_eq_true rfl)⟩) hS (fun q _ h => hFc q h) hFc (fun r_1 u t H1 locs1 ht hvm h_2 hB hz1 hk1 hS1 => ?_)
  obtain ⟨hP1, hK1, hD1⟩ := hB
  rw [ht] at hP1
  obtain ⟨hPn, hDn⟩ := va_join (wr := [(t_to, .inl (k_to, 40, .inl f_to)), (t_height, .inl (k_height, 40, .inl f_height)), (t_runs, .inl (k_runs, 40, .inl f_runs)), (t_vacuum, .inl (k_vacuum, 40, .inl f_vacuum)), (t_reading, .inl (k_reading, 40, .inl f_reading)), (t_member, .inl (k_member, 40, .inl f_member)), (t_lengthHome, .inl (k_lengthHome, 40, .inl f_lengthHome))]) (w1 := [(h0, .inr (10, [.ref t_to, .ref t_height, .ref t_member, .ref t_lengthHome, .ref t_runs, .ref t_leak, .ref t_vacuum, .ref t_reading, .int n_tb]))]) hP hD [0] [1, 2, 3, 4, 5, 6, 7] rfl rfl (by decide) (by decide) hk1 hFc hP1 hD1
  clear hP1 hD1 hK1
  clear hP hD hS hPc hDc hKc hFc hk1 hz1 ht hvm
  clear t
  revert hS1 hPn hDn; generalize H1 = H; generalize locs1 = locs; intro hS hP hD
  change va_P (dC, dI) vwCl [(t_to, .inl (k_to, 40, .inl f_to)), (t_height, .inl (k_height, 40, .inl f_height)), (t_runs, .inl (k_runs, 40, .inl f_runs)), (t_vacuum, .inl (k_vacuum, 40, .inl f_vacuum)), (t_reading, .inl (k_reading, 40, .inl f_reading)), (t_member, .inl (k_member, 40, .inl f_member)), (t_lengthHome, .inl (k_lengthHome, 40, .inl f_lengthHome)), (h0, .inr (10, [.ref t_to, .ref t_height, .ref t_member, .ref t_lengthHome, .ref t_runs, .ref t_leak, .ref t_vacuum, .ref t_reading, .int n_tb]))] H at hP
  change va_D A [(t_to, .inl (k_to, 40, .inl f_to)), (t_height, .inl (k_height, 40, .inl f_height)), (t_runs, .inl (k_runs, 40, .inl f_runs)), (t_vacuum, .inl (k_vacuum, 40, .inl f_vacuum)), (t_reading, .inl (k_reading, 40, .inl f_reading)), (t_member, .inl (k_member, 40, .inl f_member)), (t_lengthHome, .inl (k_lengthHome, 40, .inl f_lengthHome)), (h0, .inr (10, [.ref t_to, .ref t_height, .ref t_member, .ref t_lengthHome, .ref t_runs, .ref t_leak, .ref t_vacuum, .ref t_reading, .int n_tb]))] at hD
  rcases h_2 with ⟨rfl, h_2⟩ | ⟨rfl, h_2⟩
  · refine lv_if_ne (tgt := 10) hx hb dX10_tell_5 (by decide) ?_ (fun c_3 => absurd c_3 (by decide))
    intro _
    refine lv_iload_n hx hb dX10_tell_10 rfl (lv_at hl 2 rfl) ?_
    by_cases e_4 : v2 = 0
    · have t_5 : v2.toInt = 0 := i_eq rfl (by decide) e_4
      refine lv_tableIn (tgt := 60) (off := 49) hx hb dX10_tell_11 (by rw [e_4]; decide) (by rw [e_4]; decide) (by rw [e_4]; rfl) (by decide) ?_
      refine lv_aload_n hx hb dX10_tell_60 rfl (lv_at hl 0 rfl) ?_
      refine va_get (D := (dC, dI)) (ci := 10) (v := .ref t_to) (C := RX10) (T := TX10) (N := 9) hx hb htb iX10 hown hK hP 7 rfl rfl 0 (Nat.le_of_ble_eq_true rfl) (htb _ m_34) (fun _ h9 => h9) rfl dX10_tell_61 ?_
      refine lv_iload_n hx hb dX10_tell_64 rfl (lv_at hl 1 rfl) ?_
      refine va_iald hx hb hK hP 0 0 rfl rfl (i_in rfl (lg_X10_tell_0 n_tb v1 v2 yb yv1 h_2 t_5)) dX10_tell_65 ?_
      refine lv_topi (fun x_6 ex_7 => ?_)
      have t_9 : x_6.toInt = (f_to (Int32.toNatClampNeg v1)).toInt := by rw [ex_7]
      refine W.widen (k := 0) (n := 0) (Nat.le_of_ble_eq_true rfl) (Nat.le_of_ble_eq_true rfl) ?_
      have hP9 := hP.sub (ws' := [(h0, .inr (10, [.ref t_to, .ref t_height, .ref t_member, .ref t_lengthHome, .ref t_runs, .ref t_leak, .ref t_vacuum, .ref t_reading, .int n_tb])), (t_to, .inl (k_to, 40, .inl f_to)), (t_height, .inl (k_height, 40, .inl f_height)), (t_runs, .inl (k_runs, 40, .inl f_runs)), (t_vacuum, .inl (k_vacuum, 40, .inl f_vacuum)), (t_reading, .inl (k_reading, 40, .inl f_reading)), (t_member, .inl (k_member, 40, .inl f_member)), (t_lengthHome, .inl (k_lengthHome, 40, .inl f_lengthHome))]) [7, 0, 1, 2, 3, 4, 5, 6] rfl
      have hD9 := hD.sub (ws' := [(h0, .inr (10, [.ref t_to, .ref t_height, .ref t_member, .ref t_lengthHome, .ref t_runs, .ref t_leak, .ref t_vacuum, .ref t_reading, .int n_tb])), (t_to, .inl (k_to, 40, .inl f_to)), (t_height, .inl (k_height, 40, .inl f_height)), (t_runs, .inl (k_runs, 40, .inl f_runs)), (t_vacuum, .inl (k_vacuum, 40, .inl f_vacuum)), (t_reading, .inl (k_reading, 40, .inl f_reading)), (t_member, .inl (k_member, 40, .inl f_member)), (t_lengthHome, .inl (k_lengthHome, 40, .inl f_lengthHome))]) [7, 0, 1, 2, 3, 4, 5, 6] (by decide) rfl
      have hK9 := hK.sub (tys' := [(k_to, .int), (k_height, .int), (k_runs, .boolean), (k_vacuum, .int), (k_reading, .int), (k_member, .int), (k_lengthHome, .int)]) [0, 1, 2, 3, 4, 5, 6] rfl
      exact W.iret (v := x_6) hx hb hr (fun t ht hW => ⟨⟨x_6, (), rfl, (lg_X10_tell_1 n_tb f_to f_height f_runs f_vacuum f_member f_lengthHome v1 v2 e_to e_reading nv x_6 yb yv1 h_2 t_5 t_9), ⟨by rw [ht]; exact hP9, va_K.moved hW.alike hK9, hD9⟩⟩, hS.F ht⟩) hS.2.2 dX10_tell_66
    have t_10 : ¬ v2.toInt = 0 := i_ne rfl (by decide) e_4
    by_cases e_11 : v2 = 1
    · have t_12 : v2.toInt = 1 := i_eq rfl (by decide) e_11
      refine lv_tableIn (tgt := 67) (off := 56) hx hb dX10_tell_11 (by rw [e_11]; decide) (by rw [e_11]; decide) (by rw [e_11]; rfl) (by decide) ?_
      refine lv_aload_n hx hb dX10_tell_67 rfl (lv_at hl 0 rfl) ?_
      refine va_get (D := (dC, dI)) (ci := 10) (v := .ref t_height) (C := RX10) (T := TX10) (N := 9) hx hb htb iX10 hown hK hP 7 rfl rfl 1 (Nat.le_of_ble_eq_true rfl) (htb _ m_35) (fun _ h9 => h9) rfl dX10_tell_68 ?_
      refine lv_iload_n hx hb dX10_tell_71 rfl (lv_at hl 1 rfl) ?_
      refine va_iald hx hb hK hP 1 1 rfl rfl (i_in rfl (lg_X10_tell_2 n_tb v1 v2 yb yv1 h_2 t_10 t_12)) dX10_tell_72 ?_
      refine lv_topi (fun x_13 ex_14 => ?_)
      have t_15 : x_13.toInt = (f_height (Int32.toNatClampNeg v1)).toInt := by rw [ex_14]
      refine W.widen (k := 0) (n := 0) (Nat.le_of_ble_eq_true rfl) (Nat.le_of_ble_eq_true rfl) ?_
      have hP9 := hP.sub (ws' := [(h0, .inr (10, [.ref t_to, .ref t_height, .ref t_member, .ref t_lengthHome, .ref t_runs, .ref t_leak, .ref t_vacuum, .ref t_reading, .int n_tb])), (t_to, .inl (k_to, 40, .inl f_to)), (t_height, .inl (k_height, 40, .inl f_height)), (t_runs, .inl (k_runs, 40, .inl f_runs)), (t_vacuum, .inl (k_vacuum, 40, .inl f_vacuum)), (t_reading, .inl (k_reading, 40, .inl f_reading)), (t_member, .inl (k_member, 40, .inl f_member)), (t_lengthHome, .inl (k_lengthHome, 40, .inl f_lengthHome))]) [7, 0, 1, 2, 3, 4, 5, 6] rfl
      have hD9 := hD.sub (ws' := [(h0, .inr (10, [.ref t_to, .ref t_height, .ref t_member, .ref t_lengthHome, .ref t_runs, .ref t_leak, .ref t_vacuum, .ref t_reading, .int n_tb])), (t_to, .inl (k_to, 40, .inl f_to)), (t_height, .inl (k_height, 40, .inl f_height)), (t_runs, .inl (k_runs, 40, .inl f_runs)), (t_vacuum, .inl (k_vacuum, 40, .inl f_vacuum)), (t_reading, .inl (k_reading, 40, .inl f_reading)), (t_member, .inl (k_member, 40, .inl f_member)), (t_lengthHome, .inl (k_lengthHome, 40, .inl f_lengthHome))]) [7, 0, 1, 2, 3, 4, 5, 6] (by decide) rfl
      have hK9 := hK.sub (tys' := [(k_to, .int), (k_height, .int), (k_runs, .boolean), (k_vacuum, .int), (k_reading, .int), (k_member, .int), (k_lengthHome, .int)]) [0, 1, 2, 3, 4, 5, 6] rfl
      exact W.iret (v := x_13) hx hb hr (fun t ht hW => ⟨⟨x_13, (), rfl, (lg_X10_tell_3 n_tb f_to f_height f_runs f_vacuum f_member f_lengthHome v1 v2 e_to e_reading nv x_13 yb yv1 h_2 t_10 t_12 t_15), ⟨by rw [ht]; exact hP9, va_K.moved hW.alike hK9, hD9⟩⟩, hS.F ht⟩) hS.2.2 dX10_tell_73
    have t_16 : ¬ v2.toInt = 1 := i_ne rfl (by decide) e_11
    by_cases e_17 : v2 = 2
    · have t_18 : v2.toInt = 2 := i_eq rfl (by decide) e_17
      refine lv_tableIn (tgt := 74) (off := 63) hx hb dX10_tell_11 (by rw [e_17]; decide) (by rw [e_17]; decide) (by rw [e_17]; rfl) (by decide) ?_
      refine lv_aload_n hx hb dX10_tell_74 rfl (lv_at hl 0 rfl) ?_
      refine va_get (D := (dC, dI)) (ci := 10) (v := .ref t_runs) (C := RX10) (T := TX10) (N := 9) hx hb htb iX10 hown hK hP 7 rfl rfl 4 (Nat.le_of_ble_eq_true rfl) (htb _ m_38) (fun _ h9 => h9) rfl dX10_tell_75 ?_
      refine lv_iload_n hx hb dX10_tell_78 rfl (lv_at hl 1 rfl) ?_
      refine va_zald hx hb hK hP 2 2 rfl rfl (i_in rfl (lg_X10_tell_4 n_tb v1 v2 yb yv1 h_2 t_10 t_16 t_18)) dX10_tell_79 ?_
      refine lv_topi (fun x_19 ex_20 => ?_)
      have t_21 : x_19.toInt = (f_runs (Int32.toNatClampNeg v1)).toInt := by rw [ex_20]
      have t_22 : 0 ≤ x_19.toInt ∧ x_19.toInt ≤ 1 := Rg_ld yrr (i_in rfl (lg_X10_tell_5 n_tb f_runs v1 v2 x_19 yb yv1 h_2 t_10 t_16 t_18 t_21)) ex_20
      refine lv_if_eq (tgt := 87) hx hb dX10_tell_80 (by decide) (fun c_23 => ?_) (fun c_23 => ?_)
      · have t_24 : x_19.toInt = (0 : Int) := i_eq rfl (by decide) c_23
        refine lv_iconst (v := 0) hx hb dX10_tell_87 (by decide) ?_
        refine W.widen (k := 0) (n := 0) (Nat.le_of_ble_eq_true rfl) (Nat.le_of_ble_eq_true rfl) ?_
        have hP9 := hP.sub (ws' := [(h0, .inr (10, [.ref t_to, .ref t_height, .ref t_member, .ref t_lengthHome, .ref t_runs, .ref t_leak, .ref t_vacuum, .ref t_reading, .int n_tb])), (t_to, .inl (k_to, 40, .inl f_to)), (t_height, .inl (k_height, 40, .inl f_height)), (t_runs, .inl (k_runs, 40, .inl f_runs)), (t_vacuum, .inl (k_vacuum, 40, .inl f_vacuum)), (t_reading, .inl (k_reading, 40, .inl f_reading)), (t_member, .inl (k_member, 40, .inl f_member)), (t_lengthHome, .inl (k_lengthHome, 40, .inl f_lengthHome))]) [7, 0, 1, 2, 3, 4, 5, 6] rfl
        have hD9 := hD.sub (ws' := [(h0, .inr (10, [.ref t_to, .ref t_height, .ref t_member, .ref t_lengthHome, .ref t_runs, .ref t_leak, .ref t_vacuum, .ref t_reading, .int n_tb])), (t_to, .inl (k_to, 40, .inl f_to)), (t_height, .inl (k_height, 40, .inl f_height)), (t_runs, .inl (k_runs, 40, .inl f_runs)), (t_vacuum, .inl (k_vacuum, 40, .inl f_vacuum)), (t_reading, .inl (k_reading, 40, .inl f_reading)), (t_member, .inl (k_member, 40, .inl f_member)), (t_lengthHome, .inl (k_lengthHome, 40, .inl f_lengthHome))]) [7, 0, 1, 2, 3, 4, 5, 6] (by decide) rfl
        have hK9 := hK.sub (tys' := [(k_to, .int), (k_height, .int), (k_runs, .boolean), (k_vacuum, .int), (k_reading, .int), (k_member, .int), (k_lengthHome, .int)]) [0, 1, 2, 3, 4, 5, 6] rfl
        exact W.iret (v := 0) hx hb hr (fun t ht hW => ⟨⟨0, (), rfl, (lg_X10_tell_6 n_tb f_to f_height f_runs f_vacuum f_member f_lengthHome v1 v2 e_to e_reading nv x_19 yb yv1 h_2 t_10 t_16 t_18 t_21 t_22 t_24), ⟨by rw [ht]; exact hP9, va_K.moved hW.alike hK9, hD9⟩⟩, hS.F ht⟩) hS.2.2 dX10_tell_88
      · have t_24 : ¬ x_19.toInt = (0 : Int) := i_ne rfl (by decide) c_23
        refine lv_iconst (v := 1) hx hb dX10_tell_83 (by decide) ?_
        refine lv_goto (tgt := 88) hx hb dX10_tell_84 (by decide) ?_
        refine W.widen (k := 0) (n := 0) (Nat.le_of_ble_eq_true rfl) (Nat.le_of_ble_eq_true rfl) ?_
        have hP9 := hP.sub (ws' := [(h0, .inr (10, [.ref t_to, .ref t_height, .ref t_member, .ref t_lengthHome, .ref t_runs, .ref t_leak, .ref t_vacuum, .ref t_reading, .int n_tb])), (t_to, .inl (k_to, 40, .inl f_to)), (t_height, .inl (k_height, 40, .inl f_height)), (t_runs, .inl (k_runs, 40, .inl f_runs)), (t_vacuum, .inl (k_vacuum, 40, .inl f_vacuum)), (t_reading, .inl (k_reading, 40, .inl f_reading)), (t_member, .inl (k_member, 40, .inl f_member)), (t_lengthHome, .inl (k_lengthHome, 40, .inl f_lengthHome))]) [7, 0, 1, 2, 3, 4, 5, 6] rfl
        have hD9 := hD.sub (ws' := [(h0, .inr (10, [.ref t_to, .ref t_height, .ref t_member, .ref t_lengthHome, .ref t_runs, .ref t_leak, .ref t_vacuum, .ref t_reading, .int n_tb])), (t_to, .inl (k_to, 40, .inl f_to)), (t_height, .inl (k_height, 40, .inl f_height)), (t_runs, .inl (k_runs, 40, .inl f_runs)), (t_vacuum, .inl (k_vacuum, 40, .inl f_vacuum)), (t_reading, .inl (k_reading, 40, .inl f_reading)), (t_member, .inl (k_member, 40, .inl f_member)), (t_lengthHome, .inl (k_lengthHome, 40, .inl f_lengthHome))]) [7, 0, 1, 2, 3, 4, 5, 6] (by decide) rfl
        have hK9 := hK.sub (tys' := [(k_to, .int), (k_height, .int), (k_runs, .boolean), (k_vacuum, .int), (k_reading, .int), (k_member, .int), (k_lengthHome, .int)]) [0, 1, 2, 3, 4, 5, 6] rfl
        exact W.iret (v := 1) hx hb hr (fun t ht hW => ⟨⟨1, (), rfl, (lg_X10_tell_7 n_tb f_to f_height f_runs f_vacuum f_member f_lengthHome v1 v2 e_to e_reading nv x_19 yb yv1 h_2 t_10 t_16 t_18 t_21 t_22 t_24), ⟨by rw [ht]; exact hP9, va_K.moved hW.alike hK9, hD9⟩⟩, hS.F ht⟩) hS.2.2 dX10_tell_88
    have t_25 : ¬ v2.toInt = 2 := i_ne rfl (by decide) e_17
    by_cases e_26 : v2 = 3
    · have t_27 : v2.toInt = 3 := i_eq rfl (by decide) e_26
      refine lv_tableIn (tgt := 89) (off := 78) hx hb dX10_tell_11 (by rw [e_26]; decide) (by rw [e_26]; decide) (by rw [e_26]; rfl) (by decide) ?_
      refine lv_aload_n hx hb dX10_tell_89 rfl (lv_at hl 0 rfl) ?_
      refine va_get (D := (dC, dI)) (ci := 10) (v := .ref t_vacuum) (C := RX10) (T := TX10) (N := 9) hx hb htb iX10 hown hK hP 7 rfl rfl 6 (Nat.le_of_ble_eq_true rfl) (htb _ m_40) (fun _ h9 => h9) rfl dX10_tell_90 ?_
      refine lv_iload_n hx hb dX10_tell_93 rfl (lv_at hl 1 rfl) ?_
      refine va_iald hx hb hK hP 3 3 rfl rfl (i_in rfl (lg_X10_tell_8 n_tb v1 v2 yb yv1 h_2 t_10 t_16 t_25 t_27)) dX10_tell_94 ?_
      refine lv_topi (fun x_28 ex_29 => ?_)
      have t_30 : x_28.toInt = (f_vacuum (Int32.toNatClampNeg v1)).toInt := by rw [ex_29]
      have t_31 : 0 ≤ x_28.toInt ∧ x_28.toInt ≤ 100 := Rg_ld yvac (i_in rfl (lg_X10_tell_9 n_tb f_vacuum v1 v2 x_28 yb yv1 h_2 t_10 t_16 t_25 t_27 t_30)) ex_29
      refine W.widen (k := 0) (n := 0) (Nat.le_of_ble_eq_true rfl) (Nat.le_of_ble_eq_true rfl) ?_
      have hP9 := hP.sub (ws' := [(h0, .inr (10, [.ref t_to, .ref t_height, .ref t_member, .ref t_lengthHome, .ref t_runs, .ref t_leak, .ref t_vacuum, .ref t_reading, .int n_tb])), (t_to, .inl (k_to, 40, .inl f_to)), (t_height, .inl (k_height, 40, .inl f_height)), (t_runs, .inl (k_runs, 40, .inl f_runs)), (t_vacuum, .inl (k_vacuum, 40, .inl f_vacuum)), (t_reading, .inl (k_reading, 40, .inl f_reading)), (t_member, .inl (k_member, 40, .inl f_member)), (t_lengthHome, .inl (k_lengthHome, 40, .inl f_lengthHome))]) [7, 0, 1, 2, 3, 4, 5, 6] rfl
      have hD9 := hD.sub (ws' := [(h0, .inr (10, [.ref t_to, .ref t_height, .ref t_member, .ref t_lengthHome, .ref t_runs, .ref t_leak, .ref t_vacuum, .ref t_reading, .int n_tb])), (t_to, .inl (k_to, 40, .inl f_to)), (t_height, .inl (k_height, 40, .inl f_height)), (t_runs, .inl (k_runs, 40, .inl f_runs)), (t_vacuum, .inl (k_vacuum, 40, .inl f_vacuum)), (t_reading, .inl (k_reading, 40, .inl f_reading)), (t_member, .inl (k_member, 40, .inl f_member)), (t_lengthHome, .inl (k_lengthHome, 40, .inl f_lengthHome))]) [7, 0, 1, 2, 3, 4, 5, 6] (by decide) rfl
      have hK9 := hK.sub (tys' := [(k_to, .int), (k_height, .int), (k_runs, .boolean), (k_vacuum, .int), (k_reading, .int), (k_member, .int), (k_lengthHome, .int)]) [0, 1, 2, 3, 4, 5, 6] rfl
      exact W.iret (v := x_28) hx hb hr (fun t ht hW => ⟨⟨x_28, (), rfl, (lg_X10_tell_10 n_tb f_to f_height f_runs f_vacuum f_member f_lengthHome v1 v2 e_to e_reading nv x_28 yb yv1 h_2 t_10 t_16 t_25 t_27 t_30 t_31), ⟨by rw [ht]; exact hP9, va_K.moved hW.alike hK9, hD9⟩⟩, hS.F ht⟩) hS.2.2 dX10_tell_95
    have t_32 : ¬ v2.toInt = 3 := i_ne rfl (by decide) e_26
    by_cases e_33 : v2 = 4
    · have t_34 : v2.toInt = 4 := i_eq rfl (by decide) e_33
      refine lv_tableIn (tgt := 96) (off := 85) hx hb dX10_tell_11 (by rw [e_33]; decide) (by rw [e_33]; decide) (by rw [e_33]; rfl) (by decide) ?_
      refine lv_aload_n hx hb dX10_tell_96 rfl (lv_at hl 0 rfl) ?_
      refine va_get (D := (dC, dI)) (ci := 10) (v := .ref t_reading) (C := RX10) (T := TX10) (N := 9) hx hb htb iX10 hown hK hP 7 rfl rfl 7 (Nat.le_of_ble_eq_true rfl) (htb _ m_41) (fun _ h9 => h9) rfl dX10_tell_97 ?_
      refine lv_iload_n hx hb dX10_tell_100 rfl (lv_at hl 1 rfl) ?_
      refine va_iald hx hb hK hP 4 4 rfl rfl (i_in rfl (lg_X10_tell_11 n_tb v1 v2 yb yv1 h_2 t_10 t_16 t_25 t_32 t_34)) dX10_tell_101 ?_
      refine lv_topi (fun x_35 ex_36 => ?_)
      have hq_37 : x_35 = e_reading (Int32.toNatClampNeg v1) := TbE_ld yTE (lg_X10_tell_12 n_tb v1 v2 yb yv1 h_2 t_10 t_16 t_25 t_32 t_34) ex_36
      have t_38 : x_35.toInt = (e_reading (Int32.toNatClampNeg v1)).toInt := by rw [hq_37]
      have t_39 : (-1) ≤ x_35.toInt ∧ x_35.toInt ≤ 100 := Rg_ld yRe (i_in rfl (lg_X10_tell_13 n_tb v1 v2 e_reading x_35 yb yv1 h_2 t_10 t_16 t_25 t_32 t_34 t_38)) hq_37
      have t_40 : x_35.toInt = (f_reading (Int32.toNatClampNeg v1)).toInt := by rw [ex_36]
      refine W.widen (k := 0) (n := 0) (Nat.le_of_ble_eq_true rfl) (Nat.le_of_ble_eq_true rfl) ?_
      have hP9 := hP.sub (ws' := [(h0, .inr (10, [.ref t_to, .ref t_height, .ref t_member, .ref t_lengthHome, .ref t_runs, .ref t_leak, .ref t_vacuum, .ref t_reading, .int n_tb])), (t_to, .inl (k_to, 40, .inl f_to)), (t_height, .inl (k_height, 40, .inl f_height)), (t_runs, .inl (k_runs, 40, .inl f_runs)), (t_vacuum, .inl (k_vacuum, 40, .inl f_vacuum)), (t_reading, .inl (k_reading, 40, .inl f_reading)), (t_member, .inl (k_member, 40, .inl f_member)), (t_lengthHome, .inl (k_lengthHome, 40, .inl f_lengthHome))]) [7, 0, 1, 2, 3, 4, 5, 6] rfl
      have hD9 := hD.sub (ws' := [(h0, .inr (10, [.ref t_to, .ref t_height, .ref t_member, .ref t_lengthHome, .ref t_runs, .ref t_leak, .ref t_vacuum, .ref t_reading, .int n_tb])), (t_to, .inl (k_to, 40, .inl f_to)), (t_height, .inl (k_height, 40, .inl f_height)), (t_runs, .inl (k_runs, 40, .inl f_runs)), (t_vacuum, .inl (k_vacuum, 40, .inl f_vacuum)), (t_reading, .inl (k_reading, 40, .inl f_reading)), (t_member, .inl (k_member, 40, .inl f_member)), (t_lengthHome, .inl (k_lengthHome, 40, .inl f_lengthHome))]) [7, 0, 1, 2, 3, 4, 5, 6] (by decide) rfl
      have hK9 := hK.sub (tys' := [(k_to, .int), (k_height, .int), (k_runs, .boolean), (k_vacuum, .int), (k_reading, .int), (k_member, .int), (k_lengthHome, .int)]) [0, 1, 2, 3, 4, 5, 6] rfl
      exact W.iret (v := x_35) hx hb hr (fun t ht hW => ⟨⟨x_35, (), rfl, (lg_X10_tell_14 n_tb f_to f_height f_runs f_vacuum f_reading f_member f_lengthHome v1 v2 e_to e_reading nv x_35 yb yv1 h_2 t_10 t_16 t_25 t_32 t_34 t_38 t_39 t_40), ⟨by rw [ht]; exact hP9, va_K.moved hW.alike hK9, hD9⟩⟩, hS.F ht⟩) hS.2.2 dX10_tell_102
    have t_41 : ¬ v2.toInt = 4 := i_ne rfl (by decide) e_33
    by_cases e_42 : v2 = 5
    · have t_43 : v2.toInt = 5 := i_eq rfl (by decide) e_42
      refine lv_tableIn (tgt := 103) (off := 92) hx hb dX10_tell_11 (by rw [e_42]; decide) (by rw [e_42]; decide) (by rw [e_42]; rfl) (by decide) ?_
      refine lv_aload_n hx hb dX10_tell_103 rfl (lv_at hl 0 rfl) ?_
      refine lv_iload_n hx hb dX10_tell_104 rfl (lv_at hl 1 rfl) ?_
      have hPc := hP.sub (ws' := [(h0, .inr (10, [.ref t_to, .ref t_height, .ref t_member, .ref t_lengthHome, .ref t_runs, .ref t_leak, .ref t_vacuum, .ref t_reading, .int n_tb])), (t_to, .inl (k_to, 40, .inl f_to)), (t_reading, .inl (k_reading, 40, .inl f_reading)), (t_vacuum, .inl (k_vacuum, 40, .inl f_vacuum))]) [7, 0, 4, 3] rfl
      have hDc := hD.sub (ws' := [(h0, .inr (10, [.ref t_to, .ref t_height, .ref t_member, .ref t_lengthHome, .ref t_runs, .ref t_leak, .ref t_vacuum, .ref t_reading, .int n_tb])), (t_to, .inl (k_to, 40, .inl f_to)), (t_reading, .inl (k_reading, 40, .inl f_reading)), (t_vacuum, .inl (k_vacuum, 40, .inl f_vacuum))]) [7, 0, 4, 3] (by decide) rfl
      have hKc := hK.sub (tys' := [(k_to, .int), (k_reading, .int), (k_vacuum, .int)]) [0, 4, 3] rfl
      have hFc := va_free (wc := [(h0, .inr (10, [.ref t_to, .ref t_height, .ref t_member, .ref t_lengthHome, .ref t_runs, .ref t_leak, .ref t_vacuum, .ref t_reading, .int n_tb])), (t_to, .inl (k_to, 40, .inl f_to)), (t_reading, .inl (k_reading, 40, .inl f_reading)), (t_vacuum, .inl (k_vacuum, 40, .inl f_vacuum))]) hD hS hA [7, 0, 4, 3] rfl
      refine va_calli (va_runV (C := RX10) (As := [.int v1]) (rest := []) ⟨hx, hb, hml, hown, htb⟩ (kX10_suspectBy l dC dI H.size h0 t_to t_height t_member t_lengthHome t_runs t_leak t_vacuum t_reading n_tb k_to k_reading k_vacuum f_to f_reading f_vacuum v1 e_to e_reading nv yb yvac h_2 yTT yDn yTE yRe yV0) ⟨callB_of 1 htb (gd_c m_469) rfl rfl rfl (htb _ m_2) (htb _ m_466) hdX10_suspectBy ⟨(Nat.le_of_ble_eq_true rfl), (Nat.le_of_ble_eq_true rfl)⟩, htb _ m_468, htb _ ms_1⟩ ⟨pcW_blind, va_recv hKc hPc (ci := 10) (q0 := 0) rfl rfl, pcW_at hPc hKc hDc hN⟩ rfl rfl hl.1 rfl (lv_room (Nat.le_of_ble_eq_true rfl)) dX10_tell_105 ⟨(Nat.le_of_ble_eq_true rfl), (Nat.le_of_ble_eq_true rfl)⟩) hS (fun q _ h => hFc q h) hFc (fun r_44 u t H1 locs1 ht hvm h_45 hB hz1 hk1 hS1 => ?_)
      obtain ⟨hP1, hK1, hD1⟩ := hB
      rw [ht] at hP1
      obtain ⟨hPn, hDn⟩ := va_join (wr := [(t_height, .inl (k_height, 40, .inl f_height)), (t_runs, .inl (k_runs, 40, .inl f_runs)), (t_member, .inl (k_member, 40, .inl f_member)), (t_lengthHome, .inl (k_lengthHome, 40, .inl f_lengthHome))]) (w1 := [(h0, .inr (10, [.ref t_to, .ref t_height, .ref t_member, .ref t_lengthHome, .ref t_runs, .ref t_leak, .ref t_vacuum, .ref t_reading, .int n_tb])), (t_to, .inl (k_to, 40, .inl f_to)), (t_reading, .inl (k_reading, 40, .inl f_reading)), (t_vacuum, .inl (k_vacuum, 40, .inl f_vacuum))]) hP hD [7, 0, 4, 3] [1, 2, 5, 6] rfl rfl (by decide) (by decide) hk1 hFc hP1 hD1
      clear hP1 hD1 hK1
      clear hP hD hS hPc hDc hKc hFc hk1 hz1 ht hvm
      clear t
      revert hS1 hPn hDn; generalize H1 = H; generalize locs1 = locs; intro hS hP hD
      change va_P (dC, dI) vwCl [(t_height, .inl (k_height, 40, .inl f_height)), (t_runs, .inl (k_runs, 40, .inl f_runs)), (t_member, .inl (k_member, 40, .inl f_member)), (t_lengthHome, .inl (k_lengthHome, 40, .inl f_lengthHome)), (h0, .inr (10, [.ref t_to, .ref t_height, .ref t_member, .ref t_lengthHome, .ref t_runs, .ref t_leak, .ref t_vacuum, .ref t_reading, .int n_tb])), (t_to, .inl (k_to, 40, .inl f_to)), (t_reading, .inl (k_reading, 40, .inl f_reading)), (t_vacuum, .inl (k_vacuum, 40, .inl f_vacuum))] H at hP
      change va_D A [(t_height, .inl (k_height, 40, .inl f_height)), (t_runs, .inl (k_runs, 40, .inl f_runs)), (t_member, .inl (k_member, 40, .inl f_member)), (t_lengthHome, .inl (k_lengthHome, 40, .inl f_lengthHome)), (h0, .inr (10, [.ref t_to, .ref t_height, .ref t_member, .ref t_lengthHome, .ref t_runs, .ref t_leak, .ref t_vacuum, .ref t_reading, .int n_tb])), (t_to, .inl (k_to, 40, .inl f_to)), (t_reading, .inl (k_reading, 40, .inl f_reading)), (t_vacuum, .inl (k_vacuum, 40, .inl f_vacuum))] at hD
      refine W.widen (k := 0) (n := 0) (Nat.le_of_ble_eq_true rfl) (Nat.le_of_ble_eq_true rfl) ?_
      have hP9 := hP.sub (ws' := [(h0, .inr (10, [.ref t_to, .ref t_height, .ref t_member, .ref t_lengthHome, .ref t_runs, .ref t_leak, .ref t_vacuum, .ref t_reading, .int n_tb])), (t_to, .inl (k_to, 40, .inl f_to)), (t_height, .inl (k_height, 40, .inl f_height)), (t_runs, .inl (k_runs, 40, .inl f_runs)), (t_vacuum, .inl (k_vacuum, 40, .inl f_vacuum)), (t_reading, .inl (k_reading, 40, .inl f_reading)), (t_member, .inl (k_member, 40, .inl f_member)), (t_lengthHome, .inl (k_lengthHome, 40, .inl f_lengthHome))]) [4, 5, 0, 1, 7, 6, 2, 3] rfl
      have hD9 := hD.sub (ws' := [(h0, .inr (10, [.ref t_to, .ref t_height, .ref t_member, .ref t_lengthHome, .ref t_runs, .ref t_leak, .ref t_vacuum, .ref t_reading, .int n_tb])), (t_to, .inl (k_to, 40, .inl f_to)), (t_height, .inl (k_height, 40, .inl f_height)), (t_runs, .inl (k_runs, 40, .inl f_runs)), (t_vacuum, .inl (k_vacuum, 40, .inl f_vacuum)), (t_reading, .inl (k_reading, 40, .inl f_reading)), (t_member, .inl (k_member, 40, .inl f_member)), (t_lengthHome, .inl (k_lengthHome, 40, .inl f_lengthHome))]) [4, 5, 0, 1, 7, 6, 2, 3] (by decide) rfl
      have hK9 := hK.sub (tys' := [(k_to, .int), (k_height, .int), (k_runs, .boolean), (k_vacuum, .int), (k_reading, .int), (k_member, .int), (k_lengthHome, .int)]) [0, 1, 2, 3, 4, 5, 6] rfl
      exact W.iret (v := r_44) hx hb hr (fun t ht hW => ⟨⟨r_44, (), rfl, (lg_X10_tell_15 n_tb f_to f_height f_runs f_vacuum f_member f_lengthHome v1 v2 e_to e_reading nv r_44 yb yv1 h_2 t_10 t_16 t_25 t_32 t_41 t_43 h_45), ⟨by rw [ht]; exact hP9, va_K.moved hW.alike hK9, hD9⟩⟩, hS.F ht⟩) hS.2.2 dX10_tell_108
    have t_46 : ¬ v2.toInt = 5 := i_ne rfl (by decide) e_42
    by_cases e_47 : v2 = 6
    · have t_48 : v2.toInt = 6 := i_eq rfl (by decide) e_47
      refine lv_tableIn (tgt := 123) (off := 112) hx hb dX10_tell_11 (by rw [e_47]; decide) (by rw [e_47]; decide) (by rw [e_47]; rfl) (by decide) ?_
      refine lv_iconst (v := (-1)) hx hb dX10_tell_123 (by decide) ?_
      refine W.widen (k := 0) (n := 0) (Nat.le_of_ble_eq_true rfl) (Nat.le_of_ble_eq_true rfl) ?_
      have hP9 := hP.sub (ws' := [(h0, .inr (10, [.ref t_to, .ref t_height, .ref t_member, .ref t_lengthHome, .ref t_runs, .ref t_leak, .ref t_vacuum, .ref t_reading, .int n_tb])), (t_to, .inl (k_to, 40, .inl f_to)), (t_height, .inl (k_height, 40, .inl f_height)), (t_runs, .inl (k_runs, 40, .inl f_runs)), (t_vacuum, .inl (k_vacuum, 40, .inl f_vacuum)), (t_reading, .inl (k_reading, 40, .inl f_reading)), (t_member, .inl (k_member, 40, .inl f_member)), (t_lengthHome, .inl (k_lengthHome, 40, .inl f_lengthHome))]) [7, 0, 1, 2, 3, 4, 5, 6] rfl
      have hD9 := hD.sub (ws' := [(h0, .inr (10, [.ref t_to, .ref t_height, .ref t_member, .ref t_lengthHome, .ref t_runs, .ref t_leak, .ref t_vacuum, .ref t_reading, .int n_tb])), (t_to, .inl (k_to, 40, .inl f_to)), (t_height, .inl (k_height, 40, .inl f_height)), (t_runs, .inl (k_runs, 40, .inl f_runs)), (t_vacuum, .inl (k_vacuum, 40, .inl f_vacuum)), (t_reading, .inl (k_reading, 40, .inl f_reading)), (t_member, .inl (k_member, 40, .inl f_member)), (t_lengthHome, .inl (k_lengthHome, 40, .inl f_lengthHome))]) [7, 0, 1, 2, 3, 4, 5, 6] (by decide) rfl
      have hK9 := hK.sub (tys' := [(k_to, .int), (k_height, .int), (k_runs, .boolean), (k_vacuum, .int), (k_reading, .int), (k_member, .int), (k_lengthHome, .int)]) [0, 1, 2, 3, 4, 5, 6] rfl
      exact W.iret (v := (-1)) hx hb hr (fun t ht hW => ⟨⟨(-1), (), rfl, (lg_X10_tell_16 n_tb f_to f_height f_runs f_vacuum f_member f_lengthHome v1 v2 e_to e_reading nv yb yv1 h_2 t_10 t_16 t_25 t_32 t_41 t_46 t_48), ⟨by rw [ht]; exact hP9, va_K.moved hW.alike hK9, hD9⟩⟩, hS.F ht⟩) hS.2.2 dX10_tell_124
    have t_49 : ¬ v2.toInt = 6 := i_ne rfl (by decide) e_47
    by_cases e_50 : v2 = 7
    · have t_51 : v2.toInt = 7 := i_eq rfl (by decide) e_50
      refine lv_tableIn (tgt := 109) (off := 98) hx hb dX10_tell_11 (by rw [e_50]; decide) (by rw [e_50]; decide) (by rw [e_50]; rfl) (by decide) ?_
      refine lv_aload_n hx hb dX10_tell_109 rfl (lv_at hl 0 rfl) ?_
      refine va_get (D := (dC, dI)) (ci := 10) (v := .ref t_member) (C := RX10) (T := TX10) (N := 9) hx hb htb iX10 hown hK hP 7 rfl rfl 2 (Nat.le_of_ble_eq_true rfl) (htb _ m_36) (fun _ h9 => h9) rfl dX10_tell_110 ?_
      refine lv_iload_n hx hb dX10_tell_113 rfl (lv_at hl 1 rfl) ?_
      refine va_iald hx hb hK hP 5 5 rfl rfl (i_in rfl (lg_X10_tell_17 n_tb v1 v2 yb yv1 h_2 t_10 t_16 t_25 t_32 t_41 t_46 t_49 t_51)) dX10_tell_114 ?_
      refine lv_topi (fun x_52 ex_53 => ?_)
      have t_54 : x_52.toInt = (f_member (Int32.toNatClampNeg v1)).toInt := by rw [ex_53]
      refine W.widen (k := 0) (n := 0) (Nat.le_of_ble_eq_true rfl) (Nat.le_of_ble_eq_true rfl) ?_
      have hP9 := hP.sub (ws' := [(h0, .inr (10, [.ref t_to, .ref t_height, .ref t_member, .ref t_lengthHome, .ref t_runs, .ref t_leak, .ref t_vacuum, .ref t_reading, .int n_tb])), (t_to, .inl (k_to, 40, .inl f_to)), (t_height, .inl (k_height, 40, .inl f_height)), (t_runs, .inl (k_runs, 40, .inl f_runs)), (t_vacuum, .inl (k_vacuum, 40, .inl f_vacuum)), (t_reading, .inl (k_reading, 40, .inl f_reading)), (t_member, .inl (k_member, 40, .inl f_member)), (t_lengthHome, .inl (k_lengthHome, 40, .inl f_lengthHome))]) [7, 0, 1, 2, 3, 4, 5, 6] rfl
      have hD9 := hD.sub (ws' := [(h0, .inr (10, [.ref t_to, .ref t_height, .ref t_member, .ref t_lengthHome, .ref t_runs, .ref t_leak, .ref t_vacuum, .ref t_reading, .int n_tb])), (t_to, .inl (k_to, 40, .inl f_to)), (t_height, .inl (k_height, 40, .inl f_height)), (t_runs, .inl (k_runs, 40, .inl f_runs)), (t_vacuum, .inl (k_vacuum, 40, .inl f_vacuum)), (t_reading, .inl (k_reading, 40, .inl f_reading)), (t_member, .inl (k_member, 40, .inl f_member)), (t_lengthHome, .inl (k_lengthHome, 40, .inl f_lengthHome))]) [7, 0, 1, 2, 3, 4, 5, 6] (by decide) rfl
      have hK9 := hK.sub (tys' := [(k_to, .int), (k_height, .int), (k_runs, .boolean), (k_vacuum, .int), (k_reading, .int), (k_member, .int), (k_lengthHome, .int)]) [0, 1, 2, 3, 4, 5, 6] rfl
      exact W.iret (v := x_52) hx hb hr (fun t ht hW => ⟨⟨x_52, (), rfl, (lg_X10_tell_18 n_tb f_to f_height f_runs f_vacuum f_member f_lengthHome v1 v2 e_to e_reading nv x_52 yb yv1 h_2 t_10 t_16 t_25 t_32 t_41 t_46 t_49 t_51 t_54), ⟨by rw [ht]; exact hP9, va_K.moved hW.alike hK9, hD9⟩⟩, hS.F ht⟩) hS.2.2 dX10_tell_115
    have t_55 : ¬ v2.toInt = 7 := i_ne rfl (by decide) e_50
    by_cases e_56 : v2 = 8
    · have t_57 : v2.toInt = 8 := i_eq rfl (by decide) e_56
      refine lv_tableIn (tgt := 116) (off := 105) hx hb dX10_tell_11 (by rw [e_56]; decide) (by rw [e_56]; decide) (by rw [e_56]; rfl) (by decide) ?_
      refine lv_aload_n hx hb dX10_tell_116 rfl (lv_at hl 0 rfl) ?_
      refine va_get (D := (dC, dI)) (ci := 10) (v := .ref t_lengthHome) (C := RX10) (T := TX10) (N := 9) hx hb htb iX10 hown hK hP 7 rfl rfl 3 (Nat.le_of_ble_eq_true rfl) (htb _ m_37) (fun _ h9 => h9) rfl dX10_tell_117 ?_
      refine lv_iload_n hx hb dX10_tell_120 rfl (lv_at hl 1 rfl) ?_
      refine va_iald hx hb hK hP 6 6 rfl rfl (i_in rfl (lg_X10_tell_19 n_tb v1 v2 yb yv1 h_2 t_10 t_16 t_25 t_32 t_41 t_46 t_49 t_55 t_57)) dX10_tell_121 ?_
      refine lv_topi (fun x_58 ex_59 => ?_)
      have t_60 : x_58.toInt = (f_lengthHome (Int32.toNatClampNeg v1)).toInt := by rw [ex_59]
      refine W.widen (k := 0) (n := 0) (Nat.le_of_ble_eq_true rfl) (Nat.le_of_ble_eq_true rfl) ?_
      have hP9 := hP.sub (ws' := [(h0, .inr (10, [.ref t_to, .ref t_height, .ref t_member, .ref t_lengthHome, .ref t_runs, .ref t_leak, .ref t_vacuum, .ref t_reading, .int n_tb])), (t_to, .inl (k_to, 40, .inl f_to)), (t_height, .inl (k_height, 40, .inl f_height)), (t_runs, .inl (k_runs, 40, .inl f_runs)), (t_vacuum, .inl (k_vacuum, 40, .inl f_vacuum)), (t_reading, .inl (k_reading, 40, .inl f_reading)), (t_member, .inl (k_member, 40, .inl f_member)), (t_lengthHome, .inl (k_lengthHome, 40, .inl f_lengthHome))]) [7, 0, 1, 2, 3, 4, 5, 6] rfl
      have hD9 := hD.sub (ws' := [(h0, .inr (10, [.ref t_to, .ref t_height, .ref t_member, .ref t_lengthHome, .ref t_runs, .ref t_leak, .ref t_vacuum, .ref t_reading, .int n_tb])), (t_to, .inl (k_to, 40, .inl f_to)), (t_height, .inl (k_height, 40, .inl f_height)), (t_runs, .inl (k_runs, 40, .inl f_runs)), (t_vacuum, .inl (k_vacuum, 40, .inl f_vacuum)), (t_reading, .inl (k_reading, 40, .inl f_reading)), (t_member, .inl (k_member, 40, .inl f_member)), (t_lengthHome, .inl (k_lengthHome, 40, .inl f_lengthHome))]) [7, 0, 1, 2, 3, 4, 5, 6] (by decide) rfl
      have hK9 := hK.sub (tys' := [(k_to, .int), (k_height, .int), (k_runs, .boolean), (k_vacuum, .int), (k_reading, .int), (k_member, .int), (k_lengthHome, .int)]) [0, 1, 2, 3, 4, 5, 6] rfl
      exact W.iret (v := x_58) hx hb hr (fun t ht hW => ⟨⟨x_58, (), rfl, (lg_X10_tell_20 n_tb f_to f_height f_runs f_vacuum f_member f_lengthHome v1 v2 e_to e_reading nv x_58 yb yv1 h_2 t_10 t_16 t_25 t_32 t_41 t_46 t_49 t_55 t_57 t_60), ⟨by rw [ht]; exact hP9, va_K.moved hW.alike hK9, hD9⟩⟩, hS.F ht⟩) hS.2.2 dX10_tell_122
    have t_61 : ¬ v2.toInt = 8 := i_ne rfl (by decide) e_56
    refine lv_tableOut (tgt := 123) hx hb dX10_tell_11 (by have := lv_neT e_4 (a := 0) (by decide); have := lv_neT e_11 (a := 1) (by decide); have := lv_neT e_17 (a := 2) (by decide); have := lv_neT e_26 (a := 3) (by decide); have := lv_neT e_33 (a := 4) (by decide); have := lv_neT e_42 (a := 5) (by decide); have := lv_neT e_47 (a := 6) (by decide); have := lv_neT e_50 (a := 7) (by decide); have := lv_neT e_56 (a := 8) (by decide); omega) (by decide) ?_
    refine lv_iconst (v := (-1)) hx hb dX10_tell_123 (by decide) ?_
    refine W.widen (k := 0) (n := 0) (Nat.le_of_ble_eq_true rfl) (Nat.le_of_ble_eq_true rfl) ?_
    have hP9 := hP.sub (ws' := [(h0, .inr (10, [.ref t_to, .ref t_height, .ref t_member, .ref t_lengthHome, .ref t_runs, .ref t_leak, .ref t_vacuum, .ref t_reading, .int n_tb])), (t_to, .inl (k_to, 40, .inl f_to)), (t_height, .inl (k_height, 40, .inl f_height)), (t_runs, .inl (k_runs, 40, .inl f_runs)), (t_vacuum, .inl (k_vacuum, 40, .inl f_vacuum)), (t_reading, .inl (k_reading, 40, .inl f_reading)), (t_member, .inl (k_member, 40, .inl f_member)), (t_lengthHome, .inl (k_lengthHome, 40, .inl f_lengthHome))]) [7, 0, 1, 2, 3, 4, 5, 6] rfl
    have hD9 := hD.sub (ws' := [(h0, .inr (10, [.ref t_to, .ref t_height, .ref t_member, .ref t_lengthHome, .ref t_runs, .ref t_leak, .ref t_vacuum, .ref t_reading, .int n_tb])), (t_to, .inl (k_to, 40, .inl f_to)), (t_height, .inl (k_height, 40, .inl f_height)), (t_runs, .inl (k_runs, 40, .inl f_runs)), (t_vacuum, .inl (k_vacuum, 40, .inl f_vacuum)), (t_reading, .inl (k_reading, 40, .inl f_reading)), (t_member, .inl (k_member, 40, .inl f_member)), (t_lengthHome, .inl (k_lengthHome, 40, .inl f_lengthHome))]) [7, 0, 1, 2, 3, 4, 5, 6] (by decide) rfl
    have hK9 := hK.sub (tys' := [(k_to, .int), (k_height, .int), (k_runs, .boolean), (k_vacuum, .int), (k_reading, .int), (k_member, .int), (k_lengthHome, .int)]) [0, 1, 2, 3, 4, 5, 6] rfl
    exact W.iret (v := (-1)) hx hb hr (fun t ht hW => ⟨⟨(-1), (), rfl, (lg_X10_tell_21 n_tb f_to f_height f_runs f_vacuum f_member f_lengthHome v1 v2 e_to e_reading nv yb yv1 h_2 t_10 t_16 t_25 t_32 t_41 t_46 t_49 t_55 t_61), ⟨by rw [ht]; exact hP9, va_K.moved hW.alike hK9, hD9⟩⟩, hS.F ht⟩) hS.2.2 dX10_tell_124
  · exact absurd yv1 h_2

theorem lg_X1_greatestRemainder_0  : (10 - (1 : Int)) < ((Int.toNat (10 - (1 : Int)) + 1 : Nat) : Int) := by
  omega
theorem lg_X1_greatestRemainder_1  : 1 ≤ (1 : Int) ∧ (1 : Int) ≤ 10 := by
  omega
theorem lg_X1_greatestRemainder_2  : 0 ≤ (0 : Int) ∧ (0 : Int) ≤ 9 := by
  omega
theorem lg_X1_greatestRemainder_3 (i_1 : Int32) (g_1 : Int32) (hi1_0 : 1 ≤ i_1.toInt ∧ i_1.toInt ≤ 10) (hi1_1 : 0 ≤ g_1.toInt ∧ g_1.toInt ≤ 9) (hmu1 : (10 - i_1.toInt) < ((0 : Nat) : Int)) : False := by
  have := rg_rng i_1; have := rg_rng g_1; omega
theorem lg_X1_greatestRemainder_4 (i_1 : Int32) (g_1 : Int32) (n1 : Nat) (hi1_0 : 1 ≤ i_1.toInt ∧ i_1.toInt ≤ 10) (hi1_1 : 0 ≤ g_1.toInt ∧ g_1.toInt ≤ 9) (hmu1 : (10 - i_1.toInt) < ((n1 + 1 : Nat) : Int)) (t_3 : (10 : Int) ≤ i_1.toInt) : 0 ≤ g_1.toInt ∧ g_1.toInt ≤ 9 := by
  have := rg_rng i_1; have := rg_rng g_1; omega
theorem lg_X1_greatestRemainder_5 (i_1 : Int32) (g_1 : Int32) (n1 : Nat) (hi1_0 : 1 ≤ i_1.toInt ∧ i_1.toInt ≤ 10) (hi1_1 : 0 ≤ g_1.toInt ∧ g_1.toInt ≤ 9) (hmu1 : (10 - i_1.toInt) < ((n1 + 1 : Nat) : Int)) (t_3 : i_1.toInt < (10 : Int)) : 0 ≤ i_1.toInt ∧ i_1.toInt < ((10 : Nat) : Int) := by
  have := rg_rng i_1; have := rg_rng g_1; omega
theorem lg_X1_greatestRemainder_6 (i_1 : Int32) (g_1 : Int32) (n1 : Nat) (hi1_0 : 1 ≤ i_1.toInt ∧ i_1.toInt ≤ 10) (hi1_1 : 0 ≤ g_1.toInt ∧ g_1.toInt ≤ 9) (hmu1 : (10 - i_1.toInt) < ((n1 + 1 : Nat) : Int)) (t_3 : i_1.toInt < (10 : Int)) : 0 ≤ g_1.toInt ∧ g_1.toInt < ((10 : Nat) : Int) := by
  have := rg_rng i_1; have := rg_rng g_1; omega
theorem lg_X1_greatestRemainder_7 (i_1 : Int32) (g_1 : Int32) (n1 : Nat) (x_8 : Int32) (hi1_0 : 1 ≤ i_1.toInt ∧ i_1.toInt ≤ 10) (hi1_1 : 0 ≤ g_1.toInt ∧ g_1.toInt ≤ 9) (hmu1 : (10 - i_1.toInt) < ((n1 + 1 : Nat) : Int)) (t_3 : i_1.toInt < (10 : Int)) (t_11 : x_8.toInt ≤ (0 : Int)) : -2147483648 ≤ i_1.toInt + 1 ∧ i_1.toInt + 1 < 2147483648 := by
  have := rg_rng i_1; have := rg_rng g_1; have := rg_rng x_8; omega
theorem lg_X1_greatestRemainder_8 (i_1 : Int32) (g_1 : Int32) (n1 : Nat) (x_8 : Int32) (x_12 : Int32) (hi1_0 : 1 ≤ i_1.toInt ∧ i_1.toInt ≤ 10) (hi1_1 : 0 ≤ g_1.toInt ∧ g_1.toInt ≤ 9) (hmu1 : (10 - i_1.toInt) < ((n1 + 1 : Nat) : Int)) (t_3 : i_1.toInt < (10 : Int)) (t_11 : x_8.toInt ≤ (0 : Int)) (t_14 : x_12.toInt = i_1.toInt + 1) : (10 - x_12.toInt) < (n1 : Int) := by
  have := rg_rng i_1; have := rg_rng g_1; have := rg_rng x_8; have := rg_rng x_12; omega
theorem lg_X1_greatestRemainder_9 (i_1 : Int32) (g_1 : Int32) (n1 : Nat) (x_8 : Int32) (x_12 : Int32) (hi1_0 : 1 ≤ i_1.toInt ∧ i_1.toInt ≤ 10) (hi1_1 : 0 ≤ g_1.toInt ∧ g_1.toInt ≤ 9) (hmu1 : (10 - i_1.toInt) < ((n1 + 1 : Nat) : Int)) (t_3 : i_1.toInt < (10 : Int)) (t_11 : x_8.toInt ≤ (0 : Int)) (t_14 : x_12.toInt = i_1.toInt + 1) : 1 ≤ x_12.toInt ∧ x_12.toInt ≤ 10 := by
  have := rg_rng i_1; have := rg_rng g_1; have := rg_rng x_8; have := rg_rng x_12; omega
theorem lg_X1_greatestRemainder_10 (i_1 : Int32) (g_1 : Int32) (n1 : Nat) (x_8 : Int32) (x_12 : Int32) (hi1_0 : 1 ≤ i_1.toInt ∧ i_1.toInt ≤ 10) (hi1_1 : 0 ≤ g_1.toInt ∧ g_1.toInt ≤ 9) (hmu1 : (10 - i_1.toInt) < ((n1 + 1 : Nat) : Int)) (t_3 : i_1.toInt < (10 : Int)) (t_11 : x_8.toInt ≤ (0 : Int)) (t_14 : x_12.toInt = i_1.toInt + 1) : 0 ≤ g_1.toInt ∧ g_1.toInt ≤ 9 := by
  have := rg_rng i_1; have := rg_rng g_1; have := rg_rng x_8; have := rg_rng x_12; omega
theorem lg_X1_greatestRemainder_11 (i_1 : Int32) (g_1 : Int32) (n1 : Nat) (x_8 : Int32) (hi1_0 : 1 ≤ i_1.toInt ∧ i_1.toInt ≤ 10) (hi1_1 : 0 ≤ g_1.toInt ∧ g_1.toInt ≤ 9) (hmu1 : (10 - i_1.toInt) < ((n1 + 1 : Nat) : Int)) (t_3 : i_1.toInt < (10 : Int)) (t_11 : (0 : Int) < x_8.toInt) : -2147483648 ≤ i_1.toInt + 1 ∧ i_1.toInt + 1 < 2147483648 := by
  have := rg_rng i_1; have := rg_rng g_1; have := rg_rng x_8; omega
theorem lg_X1_greatestRemainder_12 (i_1 : Int32) (g_1 : Int32) (n1 : Nat) (x_8 : Int32) (x_15 : Int32) (hi1_0 : 1 ≤ i_1.toInt ∧ i_1.toInt ≤ 10) (hi1_1 : 0 ≤ g_1.toInt ∧ g_1.toInt ≤ 9) (hmu1 : (10 - i_1.toInt) < ((n1 + 1 : Nat) : Int)) (t_3 : i_1.toInt < (10 : Int)) (t_11 : (0 : Int) < x_8.toInt) (t_17 : x_15.toInt = i_1.toInt + 1) : (10 - x_15.toInt) < (n1 : Int) := by
  have := rg_rng i_1; have := rg_rng g_1; have := rg_rng x_8; have := rg_rng x_15; omega
theorem lg_X1_greatestRemainder_13 (i_1 : Int32) (g_1 : Int32) (n1 : Nat) (x_8 : Int32) (x_15 : Int32) (hi1_0 : 1 ≤ i_1.toInt ∧ i_1.toInt ≤ 10) (hi1_1 : 0 ≤ g_1.toInt ∧ g_1.toInt ≤ 9) (hmu1 : (10 - i_1.toInt) < ((n1 + 1 : Nat) : Int)) (t_3 : i_1.toInt < (10 : Int)) (t_11 : (0 : Int) < x_8.toInt) (t_17 : x_15.toInt = i_1.toInt + 1) : 1 ≤ x_15.toInt ∧ x_15.toInt ≤ 10 := by
  have := rg_rng i_1; have := rg_rng g_1; have := rg_rng x_8; have := rg_rng x_15; omega
theorem lg_X1_greatestRemainder_14 (i_1 : Int32) (g_1 : Int32) (n1 : Nat) (x_8 : Int32) (x_15 : Int32) (hi1_0 : 1 ≤ i_1.toInt ∧ i_1.toInt ≤ 10) (hi1_1 : 0 ≤ g_1.toInt ∧ g_1.toInt ≤ 9) (hmu1 : (10 - i_1.toInt) < ((n1 + 1 : Nat) : Int)) (t_3 : i_1.toInt < (10 : Int)) (t_11 : (0 : Int) < x_8.toInt) (t_17 : x_15.toInt = i_1.toInt + 1) : 0 ≤ i_1.toInt ∧ i_1.toInt ≤ 9 := by
  have := rg_rng i_1; have := rg_rng g_1; have := rg_rng x_8; have := rg_rng x_15; omega
set_option maxHeartbeats 4000000 in
set_option maxRecDepth 100000 in
theorem kX1_greatestRemainder (l : Launch) (dC : Nat → ClassId) (dI : Nat → Nat → Nat) (sz : Nat) (h0 : Nat) (o_came : Nat) (o_coins : Nat) (o_rem : Nat) (k_rem : ClassId) (f_rem : Nat → Int64) : Met l yX1_greatestRemainder (Cond.code yX1_greatestRemainder cX1_greatestRemainder 3 (some .int) :: bg) ({ frames := 0, cells := 0, slots := 0, locals := 0 }) (pcW dC dI [.ref h0] sz [(h0, .inr (1, [.ref o_came, .ref o_coins, .ref o_rem])), (o_rem, .inl (k_rem, 10, .inr (.inl f_rem)))] [(k_rem, .long)]) (va_Qi (fun (r : Int32) (u : Unit) => 0 ≤ r.toInt ∧ r.toInt ≤ 9) (fun (u : Unit) (t : State) => va_P (dC, dI) vwCl [(h0, .inr (1, [.ref o_came, .ref o_coins, .ref o_rem])), (o_rem, .inl (k_rem, 10, .inr (.inl f_rem)))] t.heap ∧ va_K (dC, dI) vwCl [(k_rem, .long)] t ∧ va_D (va_A [(h0, .inr (1, [.ref o_came, .ref o_coins, .ref o_rem])), (o_rem, .inl (k_rem, 10, .inr (.inl f_rem)))] sz) [(h0, .inr (1, [.ref o_came, .ref o_coins, .ref o_rem])), (o_rem, .inl (k_rem, 10, .inr (.inl f_rem)))]) (va_A [(h0, .inr (1, [.ref o_came, .ref o_coins, .ref o_rem])), (o_rem, .inl (k_rem, 10, .inr (.inl f_rem)))] sz)) 0 0 (va_A [(h0, .inr (1, [.ref o_came, .ref o_coins, .ref o_rem])), (o_rem, .inl (k_rem, 10, .inr (.inl f_rem)))] sz) := by
  refine Met.ofW (cc := cX1_greatestRemainder) (maxL := 3) (ret := (some .int)) pnX1 rfl ?_
  intro p e s m args below meth c s₁ B hml hv
  obtain ⟨rfl, hsz, hP, hK, hD0, hN⟩ := hv
  have hx := B.exec
  have hb := B.bytes
  have hr := B.returns
  have htb : ∀ w ∈ bg, w.before [.ref h0].toArray s = true := fun w h => atoms_spec (ws := Cond.code yX1_greatestRemainder cX1_greatestRemainder 3 (some .int) :: bg) B.pre w (List.mem_cons_of_mem _ h)
  have hown : s.vm.findClass RX1 = some m.cls := findClass_of_methodNamed B.named
  have hlocks := B.notSynchronized
  subst hsz
  have hD := hD0.self (sz := s.heap.size)
  generalize hAe : va_A [(h0, .inr (1, [.ref o_came, .ref o_coins, .ref o_rem])), (o_rem, .inl (k_rem, 10, .inr (.inl f_rem)))] s.heap.size = A at hD ⊢
  have hA : ∀ q : Nat, s.heap.size ≤ q → A q := fun q h => by rw [← hAe]; exact Or.inr h
  have hS : va_S A s.heap s.heap [] := va_S.rf
  have hl := lv_entry ([.ref h0]) (n := 3) (Nat.le_of_ble_eq_true rfl)
  rw [lg_entry_eq]
  generalize (lg_sl ([.ref h0]) ++ List.replicate (3 - (lg_sl ([.ref h0])).length) Slot.unset).toArray = ls at hl ⊢
  change lv_has ls 3 [(0, .ref h0)] at hl
  clear hD0 hAe
  refine go0 (wsP := fun H => va_P (dC, dI) vwCl [(h0, .inr (1, [.ref o_came, .ref o_coins, .ref o_rem])), (o_rem, .inl (k_rem, 10, .inr (.inl f_rem)))] H) hP hS ?_
  clear hP hS; intro H locs hP hS
  change va_P (dC, dI) vwCl [(h0, .inr (1, [.ref o_came, .ref o_coins, .ref o_rem])), (o_rem, .inl (k_rem, 10, .inr (.inl f_rem)))] H at hP
  refine lv_iconst (v := 0) hx hb dX1_greatestRemainder_0 (by decide) ?_
  refine lv_istore_n (lv' := [(1, .int 0), (0, .ref h0)]) hx hb dX1_greatestRemainder_1 rfl hl (by decide) rfl ?_
  clear hl; intro ls hl
  refine lv_iconst (v := 1) hx hb dX1_greatestRemainder_2 (by decide) ?_
  refine lv_istore_n (lv' := [(2, .int 1), (1, .int 0), (0, .ref h0)]) hx hb dX1_greatestRemainder_3 rfl hl (by decide) rfl ?_
  clear hl; intro ls hl
  refine (fun (lp : ∀ (n1 : Nat) (i_1 : Int32) (g_1 : Int32) (H : Heap) (locs : List Loc) (ls : Array Slot), (10 - i_1.toInt) < (n1 : Int) → (1 ≤ i_1.toInt ∧ i_1.toInt ≤ 10) → (0 ≤ g_1.toInt ∧ g_1.toInt ≤ 9) → lv_has ls 3 [(2, .int i_1), (1, .int g_1), (0, .ref h0)] → va_P (dC, dI) vwCl [(h0, .inr (1, [.ref o_came, .ref o_coins, .ref o_rem])), (o_rem, .inl (k_rem, 10, .inr (.inl f_rem)))] H → va_D A [(h0, .inr (1, [.ref o_came, .ref o_coins, .ref o_rem])), (o_rem, .inl (k_rem, 10, .inr (.inl f_rem)))] → va_S A s.heap H locs → W p l e _ s m _ below meth c H locs _ _ _ (F0 m 4 ls [])) => lp (Int.toNat (10 - (1 : Int)) + 1) 1 0   H locs ls ((lg_X1_greatestRemainder_0 )) (lg_X1_greatestRemainder_1 ) (lg_X1_greatestRemainder_2 )   hl hP hD hS) ?_
  clear hP hD hS hl
  intro n1
  induction n1 with
  | zero =>
    intro i_1 g_1 H locs ls hmu1 hi1_0 hi1_1   hl hP hD hS
    exact False.elim (lg_X1_greatestRemainder_3 i_1 g_1 hi1_0 hi1_1 hmu1)
  | succ n1 ih1 =>
    intro i_1 g_1 H locs ls hmu1 hi1_0 hi1_1   hl hP hD hS
    refine lv_iload_n hx hb dX1_greatestRemainder_4 rfl (lv_at hl 0 rfl) ?_
    refine lv_bipush (v := 10) hx hb dX1_greatestRemainder_5 (by decide) ?_
    refine lv_icmp_ge (tgt := 34) hx hb dX1_greatestRemainder_7 (by decide) (fun c_2 => ?_) (fun c_2 => ?_)
    · have t_3 : (10 : Int) ≤ i_1.toInt := i_le (by decide) rfl c_2
      refine lv_iload_n hx hb dX1_greatestRemainder_34 rfl (lv_at hl 1 rfl) ?_
      refine W.widen (k := 0) (n := 0) (Nat.le_of_ble_eq_true rfl) (Nat.le_of_ble_eq_true rfl) ?_
      have hP9 := hP.sub (ws' := [(h0, .inr (1, [.ref o_came, .ref o_coins, .ref o_rem])), (o_rem, .inl (k_rem, 10, .inr (.inl f_rem)))]) [0, 1] rfl
      have hD9 := hD.sub (ws' := [(h0, .inr (1, [.ref o_came, .ref o_coins, .ref o_rem])), (o_rem, .inl (k_rem, 10, .inr (.inl f_rem)))]) [0, 1] (by decide) rfl
      have hK9 := hK.sub (tys' := [(k_rem, .long)]) [0] rfl
      exact W.iret (v := g_1) hx hb hr (fun t ht hW => ⟨⟨g_1, (), rfl, (lg_X1_greatestRemainder_4 i_1 g_1 n1 hi1_0 hi1_1 hmu1 t_3), ⟨by rw [ht]; exact hP9, va_K.moved hW.alike hK9, hD9⟩⟩, hS.F ht⟩) hS.2.2 dX1_greatestRemainder_35
    · have t_3 : i_1.toInt < (10 : Int) := i_nle (by decide) rfl c_2
      refine lv_aload_n hx hb dX1_greatestRemainder_10 rfl (lv_at hl 2 rfl) ?_
      refine va_get (D := (dC, dI)) (ci := 1) (v := .ref o_rem) (C := RX1) (T := TX1) (N := 3) hx hb htb iX1 hown hK hP 0 rfl rfl 2 (Nat.le_of_ble_eq_true rfl) (htb _ m_221) (fun _ h9 => h9) rfl dX1_greatestRemainder_11 ?_
      refine lv_iload_n hx hb dX1_greatestRemainder_14 rfl (lv_at hl 0 rfl) ?_
      refine va_lald hx hb hK hP 1 0 rfl rfl (i_in rfl (lg_X1_greatestRemainder_5 i_1 g_1 n1 hi1_0 hi1_1 hmu1 t_3)) dX1_greatestRemainder_15 ?_
      refine lv_topl (fun x_4 ex_5 => ?_)
      refine lv_aload_n hx hb dX1_greatestRemainder_16 rfl (lv_at hl 2 rfl) ?_
      refine va_get (D := (dC, dI)) (ci := 1) (v := .ref o_rem) (C := RX1) (T := TX1) (N := 3) hx hb htb iX1 hown hK hP 0 rfl rfl 2 (Nat.le_of_ble_eq_true rfl) (htb _ m_221) (fun _ h9 => h9) rfl dX1_greatestRemainder_17 ?_
      refine lv_iload_n hx hb dX1_greatestRemainder_20 rfl (lv_at hl 1 rfl) ?_
      refine va_lald hx hb hK hP 1 0 rfl rfl (i_in rfl (lg_X1_greatestRemainder_6 i_1 g_1 n1 hi1_0 hi1_1 hmu1 t_3)) dX1_greatestRemainder_21 ?_
      refine lv_topl (fun x_6 ex_7 => ?_)
      refine W.lcmp hx hb dX1_greatestRemainder_22 ?_
      refine lv_topi (fun x_8 ex_9 => ?_)
      refine lv_if_le (tgt := 28) hx hb dX1_greatestRemainder_23 (by decide) (fun c_10 => ?_) (fun c_10 => ?_)
      · have t_11 : x_8.toInt ≤ (0 : Int) := i_le rfl (by decide) c_10
        obtain ⟨x_12, ex_13⟩ : ∃ y : Int32, y = i_1 + Int32.ofInt 1 := ⟨_, rfl⟩
        have t_14 : x_12.toInt = i_1.toInt + 1 := i_add rfl (by decide) (lg_X1_greatestRemainder_7 i_1 g_1 n1 x_8 hi1_0 hi1_1 hmu1 t_3 t_11) ex_13
        refine lv_iinc (v := x_12) (lv' := [(2, .int x_12), (1, .int g_1), (0, .ref h0)]) hx hb dX1_greatestRemainder_28 hl (k := 0) rfl ex_13.symm (by decide) rfl ?_
        clear hl; intro ls hl
        refine lv_goto (tgt := 4) hx hb dX1_greatestRemainder_31 (by decide) ?_
        exact ih1 x_12 g_1  H locs ls (lg_X1_greatestRemainder_8 i_1 g_1 n1 x_8 x_12 hi1_0 hi1_1 hmu1 t_3 t_11 t_14) (lg_X1_greatestRemainder_9 i_1 g_1 n1 x_8 x_12 hi1_0 hi1_1 hmu1 t_3 t_11 t_14) (lg_X1_greatestRemainder_10 i_1 g_1 n1 x_8 x_12 hi1_0 hi1_1 hmu1 t_3 t_11 t_14)   (lv_sub hl [0, 1, 2] rfl) (hP.sub [0, 1] rfl) (hD.sub [0, 1] (by decide) rfl) hS
      · have t_11 : (0 : Int) < x_8.toInt := i_nle rfl (by decide) c_10
        refine lv_iload_n hx hb dX1_greatestRemainder_26 rfl (lv_at hl 0 rfl) ?_
        refine lv_istore_n (lv' := [(1, .int i_1), (2, .int i_1), (0, .ref h0)]) hx hb dX1_greatestRemainder_27 rfl hl (by decide) rfl ?_
        clear hl; intro ls hl
        obtain ⟨x_15, ex_16⟩ : ∃ y : Int32, y = i_1 + Int32.ofInt 1 := ⟨_, rfl⟩
        have t_17 : x_15.toInt = i_1.toInt + 1 := i_add rfl (by decide) (lg_X1_greatestRemainder_11 i_1 g_1 n1 x_8 hi1_0 hi1_1 hmu1 t_3 t_11) ex_16
        refine lv_iinc (v := x_15) (lv' := [(2, .int x_15), (1, .int i_1), (0, .ref h0)]) hx hb dX1_greatestRemainder_28 hl (k := 1) rfl ex_16.symm (by decide) rfl ?_
        clear hl; intro ls hl
        refine lv_goto (tgt := 4) hx hb dX1_greatestRemainder_31 (by decide) ?_
        exact ih1 x_15 i_1  H locs ls (lg_X1_greatestRemainder_12 i_1 g_1 n1 x_8 x_15 hi1_0 hi1_1 hmu1 t_3 t_11 t_17) (lg_X1_greatestRemainder_13 i_1 g_1 n1 x_8 x_15 hi1_0 hi1_1 hmu1 t_3 t_11 t_17) (lg_X1_greatestRemainder_14 i_1 g_1 n1 x_8 x_15 hi1_0 hi1_1 hmu1 t_3 t_11 t_17)   (lv_sub hl [0, 1, 2] rfl) (hP.sub [0, 1] rfl) (hD.sub [0, 1] (by decide) rfl) hS

theorem lg_X5_has_0 (n_bk : Int32) (v1 : Int32) (t_2 : v1.toInt < (0 : Int)) : ¬ (0 ≤ v1.toInt ∧ v1.toInt < n_bk.toInt) := by
  have := rg_rng n_bk; have := rg_rng v1; omega
theorem lg_X5_has_1 (n_bk : Int32) (v1 : Int32) (t_2 : (0 : Int) ≤ v1.toInt) (t_4 : n_bk.toInt ≤ v1.toInt) : ¬ (0 ≤ v1.toInt ∧ v1.toInt < n_bk.toInt) := by
  have := rg_rng n_bk; have := rg_rng v1; omega
theorem lg_X5_has_2 (n_bk : Int32) (v1 : Int32) (t_2 : (0 : Int) ≤ v1.toInt) (t_4 : v1.toInt < n_bk.toInt) : 0 ≤ v1.toInt ∧ v1.toInt < n_bk.toInt := by
  have := rg_rng n_bk; have := rg_rng v1; omega
set_option maxHeartbeats 4000000 in
set_option maxRecDepth 100000 in
theorem kX5_has (l : Launch) (dC : Nat → ClassId) (dI : Nat → Nat → Nat) (sz : Nat) (h0 : Nat) (b_deed : Nat) (b_value : Nat) (b_tests : Nat) (b_thing : Nat) (b_sign : Nat) (b_number : Nat) (n_bk : Int32) (v1 : Int32) : Met l yX5_has (Cond.code yX5_has cX5_has 2 (some .boolean) :: bg) ({ frames := 0, cells := 0, slots := 0, locals := 0 }) (pcW dC dI [.ref h0, .int v1] sz [(h0, .inr (5, [.ref b_deed, .ref b_value, .ref b_tests, .ref b_thing, .ref b_sign, .ref b_number, .int n_bk]))] []) (va_Qi (fun (r : Int32) (u : Unit) => (r = 1 ∧ 0 ≤ v1.toInt ∧ v1.toInt < n_bk.toInt) ∨ (r = 0 ∧ ¬ (0 ≤ v1.toInt ∧ v1.toInt < n_bk.toInt))) (fun (u : Unit) (t : State) => va_P (dC, dI) vwCl [(h0, .inr (5, [.ref b_deed, .ref b_value, .ref b_tests, .ref b_thing, .ref b_sign, .ref b_number, .int n_bk]))] t.heap ∧ va_K (dC, dI) vwCl [] t ∧ va_D (va_A [(h0, .inr (5, [.ref b_deed, .ref b_value, .ref b_tests, .ref b_thing, .ref b_sign, .ref b_number, .int n_bk]))] sz) [(h0, .inr (5, [.ref b_deed, .ref b_value, .ref b_tests, .ref b_thing, .ref b_sign, .ref b_number, .int n_bk]))]) (va_A [(h0, .inr (5, [.ref b_deed, .ref b_value, .ref b_tests, .ref b_thing, .ref b_sign, .ref b_number, .int n_bk]))] sz)) 0 0 (va_A [(h0, .inr (5, [.ref b_deed, .ref b_value, .ref b_tests, .ref b_thing, .ref b_sign, .ref b_number, .int n_bk]))] sz) := by
  refine Met.ofW (cc := cX5_has) (maxL := 2) (ret := (some .boolean)) pnX5 rfl ?_
  intro p e s m args below meth c s₁ B hml hv
  obtain ⟨rfl, hsz, hP, hK, hD0, hN⟩ := hv
  have hx := B.exec
  have hb := B.bytes
  have hr := B.returns
  have htb : ∀ w ∈ bg, w.before [.ref h0, .int v1].toArray s = true := fun w h => atoms_spec (ws := Cond.code yX5_has cX5_has 2 (some .boolean) :: bg) B.pre w (List.mem_cons_of_mem _ h)
  have hown : s.vm.findClass RX5 = some m.cls := findClass_of_methodNamed B.named
  have hlocks := B.notSynchronized
  subst hsz
  have hD := hD0.self (sz := s.heap.size)
  generalize hAe : va_A [(h0, .inr (5, [.ref b_deed, .ref b_value, .ref b_tests, .ref b_thing, .ref b_sign, .ref b_number, .int n_bk]))] s.heap.size = A at hD ⊢
  have hA : ∀ q : Nat, s.heap.size ≤ q → A q := fun q h => by rw [← hAe]; exact Or.inr h
  have hS : va_S A s.heap s.heap [] := va_S.rf
  have hl := lv_entry ([.ref h0, .int v1]) (n := 2) (Nat.le_of_ble_eq_true rfl)
  rw [lg_entry_eq]
  generalize (lg_sl ([.ref h0, .int v1]) ++ List.replicate (2 - (lg_sl ([.ref h0, .int v1])).length) Slot.unset).toArray = ls at hl ⊢
  change lv_has ls 2 [(0, .ref h0), (1, .int v1)] at hl
  clear hD0 hAe
  refine go0 (wsP := fun H => va_P (dC, dI) vwCl [(h0, .inr (5, [.ref b_deed, .ref b_value, .ref b_tests, .ref b_thing, .ref b_sign, .ref b_number, .int n_bk]))] H) hP hS ?_
  clear hP hS; intro H locs hP hS
  change va_P (dC, dI) vwCl [(h0, .inr (5, [.ref b_deed, .ref b_value, .ref b_tests, .ref b_thing, .ref b_sign, .ref b_number, .int n_bk]))] H at hP
  refine lv_iload_n hx hb dX5_has_0 rfl (lv_at hl 1 rfl) ?_
  refine lv_if_lt (tgt := 16) hx hb dX5_has_1 (by decide) (fun c_1 => ?_) (fun c_1 => ?_)
  · have t_2 : v1.toInt < (0 : Int) := i_lt rfl (by decide) c_1
    refine lv_iconst (v := 0) hx hb dX5_has_16 (by decide) ?_
    refine W.widen (k := 0) (n := 0) (Nat.le_of_ble_eq_true rfl) (Nat.le_of_ble_eq_true rfl) ?_
    have hP9 := hP.sub (ws' := [(h0, .inr (5, [.ref b_deed, .ref b_value, .ref b_tests, .ref b_thing, .ref b_sign, .ref b_number, .int n_bk]))]) [0] rfl
    have hD9 := hD.sub (ws' := [(h0, .inr (5, [.ref b_deed, .ref b_value, .ref b_tests, .ref b_thing, .ref b_sign, .ref b_number, .int n_bk]))]) [0] (by decide) rfl
    have hK9 := hK.sub (tys' := []) [] rfl
    exact W.zret (ty := .boolean) (v := 0) hx hb hr rfl (fun t ht hW => ⟨⟨0, (), rfl, (Or.inr (⟨rfl, (lg_X5_has_0 n_bk v1 t_2)⟩)), ⟨by rw [ht]; exact hP9, va_K.moved hW.alike hK9, hD9⟩⟩, hS.F ht⟩) hS.2.2 dX5_has_17
  · have t_2 : (0 : Int) ≤ v1.toInt := i_nlt rfl (by decide) c_1
    refine lv_iload_n hx hb dX5_has_4 rfl (lv_at hl 1 rfl) ?_
    refine lv_aload_n hx hb dX5_has_5 rfl (lv_at hl 0 rfl) ?_
    refine va_get (D := (dC, dI)) (ci := 5) (v := .int n_bk) (C := RX5) (T := TX5) (N := 7) hx hb htb iX5 hown hK hP 0 rfl rfl 6 (Nat.le_of_ble_eq_true rfl) (htb _ m_285) (fun _ h9 => h9) rfl dX5_has_6 ?_
    refine lv_icmp_ge (tgt := 16) hx hb dX5_has_9 (by decide) (fun c_3 => ?_) (fun c_3 => ?_)
    · have t_4 : n_bk.toInt ≤ v1.toInt := i_le rfl rfl c_3
      refine lv_iconst (v := 0) hx hb dX5_has_16 (by decide) ?_
      refine W.widen (k := 0) (n := 0) (Nat.le_of_ble_eq_true rfl) (Nat.le_of_ble_eq_true rfl) ?_
      have hP9 := hP.sub (ws' := [(h0, .inr (5, [.ref b_deed, .ref b_value, .ref b_tests, .ref b_thing, .ref b_sign, .ref b_number, .int n_bk]))]) [0] rfl
      have hD9 := hD.sub (ws' := [(h0, .inr (5, [.ref b_deed, .ref b_value, .ref b_tests, .ref b_thing, .ref b_sign, .ref b_number, .int n_bk]))]) [0] (by decide) rfl
      have hK9 := hK.sub (tys' := []) [] rfl
      exact W.zret (ty := .boolean) (v := 0) hx hb hr rfl (fun t ht hW => ⟨⟨0, (), rfl, (Or.inr (⟨rfl, (lg_X5_has_1 n_bk v1 t_2 t_4)⟩)), ⟨by rw [ht]; exact hP9, va_K.moved hW.alike hK9, hD9⟩⟩, hS.F ht⟩) hS.2.2 dX5_has_17
    · have t_4 : v1.toInt < n_bk.toInt := i_nle rfl rfl c_3
      refine lv_iconst (v := 1) hx hb dX5_has_12 (by decide) ?_
      refine lv_goto (tgt := 17) hx hb dX5_has_13 (by decide) ?_
      refine W.widen (k := 0) (n := 0) (Nat.le_of_ble_eq_true rfl) (Nat.le_of_ble_eq_true rfl) ?_
      have hP9 := hP.sub (ws' := [(h0, .inr (5, [.ref b_deed, .ref b_value, .ref b_tests, .ref b_thing, .ref b_sign, .ref b_number, .int n_bk]))]) [0] rfl
      have hD9 := hD.sub (ws' := [(h0, .inr (5, [.ref b_deed, .ref b_value, .ref b_tests, .ref b_thing, .ref b_sign, .ref b_number, .int n_bk]))]) [0] (by decide) rfl
      have hK9 := hK.sub (tys' := []) [] rfl
      exact W.zret (ty := .boolean) (v := 1) hx hb hr rfl (fun t ht hW => ⟨⟨1, (), rfl, (Or.inl ⟨rfl, (lg_X5_has_2 n_bk v1 t_2 t_4)⟩), ⟨by rw [ht]; exact hP9, va_K.moved hW.alike hK9, hD9⟩⟩, hS.F ht⟩) hS.2.2 dX5_has_17

theorem lg_X5_deedOf_0 (n_bk : Int32) (v1 : Int32) (yk : 0 ≤ n_bk.toInt ∧ n_bk.toInt ≤ 16) (h_2 : 0 ≤ v1.toInt ∧ v1.toInt < n_bk.toInt) : 0 ≤ v1.toInt ∧ v1.toInt < ((16 : Nat) : Int) := by
  have := rg_rng n_bk; have := rg_rng v1; omega
theorem lg_X5_deedOf_1 (n_bk : Int32) (v1 : Int32) (yk : 0 ≤ n_bk.toInt ∧ n_bk.toInt ≤ 16) (h_2 : 0 ≤ v1.toInt ∧ v1.toInt < n_bk.toInt) : True := by
  have := rg_rng n_bk; have := rg_rng v1; trivial
theorem lg_X5_deedOf_2 (n_bk : Int32) (v1 : Int32) (yk : 0 ≤ n_bk.toInt ∧ n_bk.toInt ≤ 16) (h_2 : ¬ (0 ≤ v1.toInt ∧ v1.toInt < n_bk.toInt)) : True := by
  have := rg_rng n_bk; have := rg_rng v1; trivial
set_option maxHeartbeats 4000000 in
set_option maxRecDepth 100000 in
theorem kX5_deedOf (l : Launch) (dC : Nat → ClassId) (dI : Nat → Nat → Nat) (sz : Nat) (h0 : Nat) (b_deed : Nat) (b_value : Nat) (b_tests : Nat) (b_thing : Nat) (b_sign : Nat) (b_number : Nat) (n_bk : Int32) (k_deed : ClassId) (f_deed : Nat → Int32) (v1 : Int32) (yk : 0 ≤ n_bk.toInt ∧ n_bk.toInt ≤ 16) : Met l yX5_deedOf (Cond.code yX5_deedOf cX5_deedOf 2 (some .int) :: bg) ({ frames := 1, cells := 0, slots := 0, locals := 21 }) (pcW dC dI [.ref h0, .int v1] sz [(h0, .inr (5, [.ref b_deed, .ref b_value, .ref b_tests, .ref b_thing, .ref b_sign, .ref b_number, .int n_bk])), (b_deed, .inl (k_deed, 16, .inl f_deed))] [(k_deed, .int)]) (va_Qi (fun (r : Int32) (u : Unit) => True) (fun (u : Unit) (t : State) => va_P (dC, dI) vwCl [(h0, .inr (5, [.ref b_deed, .ref b_value, .ref b_tests, .ref b_thing, .ref b_sign, .ref b_number, .int n_bk])), (b_deed, .inl (k_deed, 16, .inl f_deed))] t.heap ∧ va_K (dC, dI) vwCl [(k_deed, .int)] t ∧ va_D (va_A [(h0, .inr (5, [.ref b_deed, .ref b_value, .ref b_tests, .ref b_thing, .ref b_sign, .ref b_number, .int n_bk])), (b_deed, .inl (k_deed, 16, .inl f_deed))] sz) [(h0, .inr (5, [.ref b_deed, .ref b_value, .ref b_tests, .ref b_thing, .ref b_sign, .ref b_number, .int n_bk])), (b_deed, .inl (k_deed, 16, .inl f_deed))]) (va_A [(h0, .inr (5, [.ref b_deed, .ref b_value, .ref b_tests, .ref b_thing, .ref b_sign, .ref b_number, .int n_bk])), (b_deed, .inl (k_deed, 16, .inl f_deed))] sz)) 0 0 (va_A [(h0, .inr (5, [.ref b_deed, .ref b_value, .ref b_tests, .ref b_thing, .ref b_sign, .ref b_number, .int n_bk])), (b_deed, .inl (k_deed, 16, .inl f_deed))] sz) := by
  refine Met.ofW (cc := cX5_deedOf) (maxL := 2) (ret := (some .int)) pnX5 rfl ?_
  intro p e s m args below meth c s₁ B hml hv
  obtain ⟨rfl, hsz, hP, hK, hD0, hN⟩ := hv
  have hx := B.exec
  have hb := B.bytes
  have hr := B.returns
  have htb : ∀ w ∈ bg, w.before [.ref h0, .int v1].toArray s = true := fun w h => atoms_spec (ws := Cond.code yX5_deedOf cX5_deedOf 2 (some .int) :: bg) B.pre w (List.mem_cons_of_mem _ h)
  have hown : s.vm.findClass RX5 = some m.cls := findClass_of_methodNamed B.named
  have hlocks := B.notSynchronized
  subst hsz
  have hD := hD0.self (sz := s.heap.size)
  generalize hAe : va_A [(h0, .inr (5, [.ref b_deed, .ref b_value, .ref b_tests, .ref b_thing, .ref b_sign, .ref b_number, .int n_bk])), (b_deed, .inl (k_deed, 16, .inl f_deed))] s.heap.size = A at hD ⊢
  have hA : ∀ q : Nat, s.heap.size ≤ q → A q := fun q h => by rw [← hAe]; exact Or.inr h
  have hS : va_S A s.heap s.heap [] := va_S.rf
  have hl := lv_entry ([.ref h0, .int v1]) (n := 2) (Nat.le_of_ble_eq_true rfl)
  rw [lg_entry_eq]
  generalize (lg_sl ([.ref h0, .int v1]) ++ List.replicate (2 - (lg_sl ([.ref h0, .int v1])).length) Slot.unset).toArray = ls at hl ⊢
  change lv_has ls 2 [(0, .ref h0), (1, .int v1)] at hl
  clear hD0 hAe
  refine go0 (wsP := fun H => va_P (dC, dI) vwCl [(h0, .inr (5, [.ref b_deed, .ref b_value, .ref b_tests, .ref b_thing, .ref b_sign, .ref b_number, .int n_bk])), (b_deed, .inl (k_deed, 16, .inl f_deed))] H) hP hS ?_
  clear hP hS; intro H locs hP hS
  change va_P (dC, dI) vwCl [(h0, .inr (5, [.ref b_deed, .ref b_value, .ref b_tests, .ref b_thing, .ref b_sign, .ref b_number, .int n_bk])), (b_deed, .inl (k_deed, 16, .inl f_deed))] H at hP
  refine lv_aload_n hx hb dX5_deedOf_0 rfl (lv_at hl 0 rfl) ?_
  refine lv_iload_n hx hb dX5_deedOf_1 rfl (lv_at hl 1 rfl) ?_
  have hPc := hP.sub (ws' := [(h0, .inr (5, [.ref b_deed, .ref b_value, .ref b_tests, .ref b_thing, .ref b_sign, .ref b_number, .int n_bk]))]) [0] rfl
  have hDc := hD.sub (ws' := [(h0, .inr (5, [.ref b_deed, .ref b_value, .ref b_tests, .ref b_thing, .ref b_sign, .ref b_number, .int n_bk]))]) [0] (by decide) rfl
  have hKc := hK.sub (tys' := []) [] rfl
  have hFc := va_free (wc := [(h0, .inr (5, [.ref b_deed, .ref b_value, .ref b_tests, .ref b_thing, .ref b_sign, .ref b_number, .int n_bk]))]) hD hS hA [0] rfl
  refine va_calli (va_runV (C := RX5) (As := [.int v1]) (rest := []) ⟨hx, hb, hml, hown, htb⟩ (kX5_has l dC dI H.size h0 b_deed b_value b_tests b_thing b_sign b_number n_bk v1 ) ⟨callB_of 1 htb (gd_c m_670) rfl rfl rfl (htb _ m_12) (htb _ m_667) hdX5_has ⟨(Nat.le_of_ble_eq_true rfl), (Nat.le_of_ble_eq_true rfl)⟩, htb _ m_669, htb _ ms_10⟩ ⟨pcW_blind, va_recv hKc hPc (ci := 5) (q0 := 0) rfl rfl, pcW_at hPc hKc hDc hN⟩ rfl rfl hl.1 rfl (lv_room (Nat.le_of_ble_eq_true rfl)) dX5_deedOf_2 ⟨(Nat.le_of_ble_eq_true rfl), (Nat.le_of_ble_eq_true rfl)⟩) hS (fun q _ h => hFc q h) hFc (fun r_1 u t H1 locs1 ht hvm h_2 hB hz1 hk1 hS1 => ?_)
  obtain ⟨hP1, hK1, hD1⟩ := hB
  rw [ht] at hP1
  obtain ⟨hPn, hDn⟩ := va_join (wr := [(b_deed, .inl (k_deed, 16, .inl f_deed))]) (w1 := [(h0, .inr (5, [.ref b_deed, .ref b_value, .ref b_tests, .ref b_thing, .ref b_sign, .ref b_number, .int n_bk]))]) hP hD [0] [1] rfl rfl (by decide) (by decide) hk1 hFc hP1 hD1
  clear hP1 hD1 hK1
  clear hP hD hS hPc hDc hKc hFc hk1 hz1 ht hvm
  clear t
  revert hS1 hPn hDn; generalize H1 = H; generalize locs1 = locs; intro hS hP hD
  change va_P (dC, dI) vwCl [(b_deed, .inl (k_deed, 16, .inl f_deed)), (h0, .inr (5, [.ref b_deed, .ref b_value, .ref b_tests, .ref b_thing, .ref b_sign, .ref b_number, .int n_bk]))] H at hP
  change va_D A [(b_deed, .inl (k_deed, 16, .inl f_deed)), (h0, .inr (5, [.ref b_deed, .ref b_value, .ref b_tests, .ref b_thing, .ref b_sign, .ref b_number, .int n_bk]))] at hD
  rcases h_2 with ⟨rfl, h_2⟩ | ⟨rfl, h_2⟩
  · refine lv_if_eq (tgt := 17) hx hb dX5_deedOf_5 (by decide) (fun c_3 => absurd c_3 (by decide)) ?_
    intro _
    refine lv_aload_n hx hb dX5_deedOf_8 rfl (lv_at hl 0 rfl) ?_
    refine va_get (D := (dC, dI)) (ci := 5) (v := .ref b_deed) (C := RX5) (T := TX5) (N := 7) hx hb htb iX5 hown hK hP 1 rfl rfl 0 (Nat.le_of_ble_eq_true rfl) (htb _ m_279) (fun _ h9 => h9) rfl dX5_deedOf_9 ?_
    refine lv_iload_n hx hb dX5_deedOf_12 rfl (lv_at hl 1 rfl) ?_
    refine va_iald hx hb hK hP 0 0 rfl rfl (i_in rfl (lg_X5_deedOf_0 n_bk v1 yk h_2)) dX5_deedOf_13 ?_
    refine lv_topi (fun x_4 ex_5 => ?_)
    refine lv_goto (tgt := 18) hx hb dX5_deedOf_14 (by decide) ?_
    refine W.widen (k := 0) (n := 0) (Nat.le_of_ble_eq_true rfl) (Nat.le_of_ble_eq_true rfl) ?_
    have hP9 := hP.sub (ws' := [(h0, .inr (5, [.ref b_deed, .ref b_value, .ref b_tests, .ref b_thing, .ref b_sign, .ref b_number, .int n_bk])), (b_deed, .inl (k_deed, 16, .inl f_deed))]) [1, 0] rfl
    have hD9 := hD.sub (ws' := [(h0, .inr (5, [.ref b_deed, .ref b_value, .ref b_tests, .ref b_thing, .ref b_sign, .ref b_number, .int n_bk])), (b_deed, .inl (k_deed, 16, .inl f_deed))]) [1, 0] (by decide) rfl
    have hK9 := hK.sub (tys' := [(k_deed, .int)]) [0] rfl
    exact W.iret (v := x_4) hx hb hr (fun t ht hW => ⟨⟨x_4, (), rfl, (lg_X5_deedOf_1 n_bk v1 yk h_2), ⟨by rw [ht]; exact hP9, va_K.moved hW.alike hK9, hD9⟩⟩, hS.F ht⟩) hS.2.2 dX5_deedOf_18
  · refine lv_if_eq (tgt := 17) hx hb dX5_deedOf_5 (by decide) ?_ (fun c_6 => absurd (by decide) c_6)
    intro _
    refine lv_iconst (v := (-1)) hx hb dX5_deedOf_17 (by decide) ?_
    refine W.widen (k := 0) (n := 0) (Nat.le_of_ble_eq_true rfl) (Nat.le_of_ble_eq_true rfl) ?_
    have hP9 := hP.sub (ws' := [(h0, .inr (5, [.ref b_deed, .ref b_value, .ref b_tests, .ref b_thing, .ref b_sign, .ref b_number, .int n_bk])), (b_deed, .inl (k_deed, 16, .inl f_deed))]) [1, 0] rfl
    have hD9 := hD.sub (ws' := [(h0, .inr (5, [.ref b_deed, .ref b_value, .ref b_tests, .ref b_thing, .ref b_sign, .ref b_number, .int n_bk])), (b_deed, .inl (k_deed, 16, .inl f_deed))]) [1, 0] (by decide) rfl
    have hK9 := hK.sub (tys' := [(k_deed, .int)]) [0] rfl
    exact W.iret (v := (-1)) hx hb hr (fun t ht hW => ⟨⟨(-1), (), rfl, (lg_X5_deedOf_2 n_bk v1 yk h_2), ⟨by rw [ht]; exact hP9, va_K.moved hW.alike hK9, hD9⟩⟩, hS.F ht⟩) hS.2.2 dX5_deedOf_18

theorem lg_X5_valueOf_0 (n_bk : Int32) (v1 : Int32) (yk : 0 ≤ n_bk.toInt ∧ n_bk.toInt ≤ 16) (h_2 : 0 ≤ v1.toInt ∧ v1.toInt < n_bk.toInt) : 0 ≤ v1.toInt ∧ v1.toInt < ((16 : Nat) : Int) := by
  have := rg_rng n_bk; have := rg_rng v1; omega
theorem lg_X5_valueOf_1 (n_bk : Int32) (v1 : Int32) (yk : 0 ≤ n_bk.toInt ∧ n_bk.toInt ≤ 16) (h_2 : 0 ≤ v1.toInt ∧ v1.toInt < n_bk.toInt) : True := by
  have := rg_rng n_bk; have := rg_rng v1; trivial
theorem lg_X5_valueOf_2 (n_bk : Int32) (v1 : Int32) (yk : 0 ≤ n_bk.toInt ∧ n_bk.toInt ≤ 16) (h_2 : ¬ (0 ≤ v1.toInt ∧ v1.toInt < n_bk.toInt)) : True := by
  have := rg_rng n_bk; have := rg_rng v1; trivial
set_option maxHeartbeats 4000000 in
set_option maxRecDepth 100000 in
theorem kX5_valueOf (l : Launch) (dC : Nat → ClassId) (dI : Nat → Nat → Nat) (sz : Nat) (h0 : Nat) (b_deed : Nat) (b_value : Nat) (b_tests : Nat) (b_thing : Nat) (b_sign : Nat) (b_number : Nat) (n_bk : Int32) (k_value : ClassId) (f_value : Nat → Int32) (v1 : Int32) (yk : 0 ≤ n_bk.toInt ∧ n_bk.toInt ≤ 16) : Met l yX5_valueOf (Cond.code yX5_valueOf cX5_valueOf 2 (some .int) :: bg) ({ frames := 1, cells := 0, slots := 0, locals := 21 }) (pcW dC dI [.ref h0, .int v1] sz [(h0, .inr (5, [.ref b_deed, .ref b_value, .ref b_tests, .ref b_thing, .ref b_sign, .ref b_number, .int n_bk])), (b_value, .inl (k_value, 16, .inl f_value))] [(k_value, .int)]) (va_Qi (fun (r : Int32) (u : Unit) => True) (fun (u : Unit) (t : State) => va_P (dC, dI) vwCl [(h0, .inr (5, [.ref b_deed, .ref b_value, .ref b_tests, .ref b_thing, .ref b_sign, .ref b_number, .int n_bk])), (b_value, .inl (k_value, 16, .inl f_value))] t.heap ∧ va_K (dC, dI) vwCl [(k_value, .int)] t ∧ va_D (va_A [(h0, .inr (5, [.ref b_deed, .ref b_value, .ref b_tests, .ref b_thing, .ref b_sign, .ref b_number, .int n_bk])), (b_value, .inl (k_value, 16, .inl f_value))] sz) [(h0, .inr (5, [.ref b_deed, .ref b_value, .ref b_tests, .ref b_thing, .ref b_sign, .ref b_number, .int n_bk])), (b_value, .inl (k_value, 16, .inl f_value))]) (va_A [(h0, .inr (5, [.ref b_deed, .ref b_value, .ref b_tests, .ref b_thing, .ref b_sign, .ref b_number, .int n_bk])), (b_value, .inl (k_value, 16, .inl f_value))] sz)) 0 0 (va_A [(h0, .inr (5, [.ref b_deed, .ref b_value, .ref b_tests, .ref b_thing, .ref b_sign, .ref b_number, .int n_bk])), (b_value, .inl (k_value, 16, .inl f_value))] sz) := by
  refine Met.ofW (cc := cX5_valueOf) (maxL := 2) (ret := (some .int)) pnX5 rfl ?_
  intro p e s m args below meth c s₁ B hml hv
  obtain ⟨rfl, hsz, hP, hK, hD0, hN⟩ := hv
  have hx := B.exec
  have hb := B.bytes
  have hr := B.returns
  have htb : ∀ w ∈ bg, w.before [.ref h0, .int v1].toArray s = true := fun w h => atoms_spec (ws := Cond.code yX5_valueOf cX5_valueOf 2 (some .int) :: bg) B.pre w (List.mem_cons_of_mem _ h)
  have hown : s.vm.findClass RX5 = some m.cls := findClass_of_methodNamed B.named
  have hlocks := B.notSynchronized
  subst hsz
  have hD := hD0.self (sz := s.heap.size)
  generalize hAe : va_A [(h0, .inr (5, [.ref b_deed, .ref b_value, .ref b_tests, .ref b_thing, .ref b_sign, .ref b_number, .int n_bk])), (b_value, .inl (k_value, 16, .inl f_value))] s.heap.size = A at hD ⊢
  have hA : ∀ q : Nat, s.heap.size ≤ q → A q := fun q h => by rw [← hAe]; exact Or.inr h
  have hS : va_S A s.heap s.heap [] := va_S.rf
  have hl := lv_entry ([.ref h0, .int v1]) (n := 2) (Nat.le_of_ble_eq_true rfl)
  rw [lg_entry_eq]
  generalize (lg_sl ([.ref h0, .int v1]) ++ List.replicate (2 - (lg_sl ([.ref h0, .int v1])).length) Slot.unset).toArray = ls at hl ⊢
  change lv_has ls 2 [(0, .ref h0), (1, .int v1)] at hl
  clear hD0 hAe
  refine go0 (wsP := fun H => va_P (dC, dI) vwCl [(h0, .inr (5, [.ref b_deed, .ref b_value, .ref b_tests, .ref b_thing, .ref b_sign, .ref b_number, .int n_bk])), (b_value, .inl (k_value, 16, .inl f_value))] H) hP hS ?_
  clear hP hS; intro H locs hP hS
  change va_P (dC, dI) vwCl [(h0, .inr (5, [.ref b_deed, .ref b_value, .ref b_tests, .ref b_thing, .ref b_sign, .ref b_number, .int n_bk])), (b_value, .inl (k_value, 16, .inl f_value))] H at hP
  refine lv_aload_n hx hb dX5_valueOf_0 rfl (lv_at hl 0 rfl) ?_
  refine lv_iload_n hx hb dX5_valueOf_1 rfl (lv_at hl 1 rfl) ?_
  have hPc := hP.sub (ws' := [(h0, .inr (5, [.ref b_deed, .ref b_value, .ref b_tests, .ref b_thing, .ref b_sign, .ref b_number, .int n_bk]))]) [0] rfl
  have hDc := hD.sub (ws' := [(h0, .inr (5, [.ref b_deed, .ref b_value, .ref b_tests, .ref b_thing, .ref b_sign, .ref b_number, .int n_bk]))]) [0] (by decide) rfl
  have hKc := hK.sub (tys' := []) [] rfl
  have hFc := va_free (wc := [(h0, .inr (5, [.ref b_deed, .ref b_value, .ref b_tests, .ref b_thing, .ref b_sign, .ref b_number, .int n_bk]))]) hD hS hA [0] rfl
  refine va_calli (va_runV (C := RX5) (As := [.int v1]) (rest := []) ⟨hx, hb, hml, hown, htb⟩ (kX5_has l dC dI H.size h0 b_deed b_value b_tests b_thing b_sign b_number n_bk v1 ) ⟨callB_of 1 htb (gd_c m_670) rfl rfl rfl (htb _ m_12) (htb _ m_667) hdX5_has ⟨(Nat.le_of_ble_eq_true rfl), (Nat.le_of_ble_eq_true rfl)⟩, htb _ m_669, htb _ ms_10⟩ ⟨pcW_blind, va_recv hKc hPc (ci := 5) (q0 := 0) rfl rfl, pcW_at hPc hKc hDc hN⟩ rfl rfl hl.1 rfl (lv_room (Nat.le_of_ble_eq_true rfl)) dX5_valueOf_2 ⟨(Nat.le_of_ble_eq_true rfl), (Nat.le_of_ble_eq_true rfl)⟩) hS (fun q _ h => hFc q h) hFc (fun r_1 u t H1 locs1 ht hvm h_2 hB hz1 hk1 hS1 => ?_)
  obtain ⟨hP1, hK1, hD1⟩ := hB
  rw [ht] at hP1
  obtain ⟨hPn, hDn⟩ := va_join (wr := [(b_value, .inl (k_value, 16, .inl f_value))]) (w1 := [(h0, .inr (5, [.ref b_deed, .ref b_value, .ref b_tests, .ref b_thing, .ref b_sign, .ref b_number, .int n_bk]))]) hP hD [0] [1] rfl rfl (by decide) (by decide) hk1 hFc hP1 hD1
  clear hP1 hD1 hK1
  clear hP hD hS hPc hDc hKc hFc hk1 hz1 ht hvm
  clear t
  revert hS1 hPn hDn; generalize H1 = H; generalize locs1 = locs; intro hS hP hD
  change va_P (dC, dI) vwCl [(b_value, .inl (k_value, 16, .inl f_value)), (h0, .inr (5, [.ref b_deed, .ref b_value, .ref b_tests, .ref b_thing, .ref b_sign, .ref b_number, .int n_bk]))] H at hP
  change va_D A [(b_value, .inl (k_value, 16, .inl f_value)), (h0, .inr (5, [.ref b_deed, .ref b_value, .ref b_tests, .ref b_thing, .ref b_sign, .ref b_number, .int n_bk]))] at hD
  rcases h_2 with ⟨rfl, h_2⟩ | ⟨rfl, h_2⟩
  · refine lv_if_eq (tgt := 17) hx hb dX5_valueOf_5 (by decide) (fun c_3 => absurd c_3 (by decide)) ?_
    intro _
    refine lv_aload_n hx hb dX5_valueOf_8 rfl (lv_at hl 0 rfl) ?_
    refine va_get (D := (dC, dI)) (ci := 5) (v := .ref b_value) (C := RX5) (T := TX5) (N := 7) hx hb htb iX5 hown hK hP 1 rfl rfl 1 (Nat.le_of_ble_eq_true rfl) (htb _ m_280) (fun _ h9 => h9) rfl dX5_valueOf_9 ?_
    refine lv_iload_n hx hb dX5_valueOf_12 rfl (lv_at hl 1 rfl) ?_
    refine va_iald hx hb hK hP 0 0 rfl rfl (i_in rfl (lg_X5_valueOf_0 n_bk v1 yk h_2)) dX5_valueOf_13 ?_
    refine lv_topi (fun x_4 ex_5 => ?_)
    refine lv_goto (tgt := 18) hx hb dX5_valueOf_14 (by decide) ?_
    refine W.widen (k := 0) (n := 0) (Nat.le_of_ble_eq_true rfl) (Nat.le_of_ble_eq_true rfl) ?_
    have hP9 := hP.sub (ws' := [(h0, .inr (5, [.ref b_deed, .ref b_value, .ref b_tests, .ref b_thing, .ref b_sign, .ref b_number, .int n_bk])), (b_value, .inl (k_value, 16, .inl f_value))]) [1, 0] rfl
    have hD9 := hD.sub (ws' := [(h0, .inr (5, [.ref b_deed, .ref b_value, .ref b_tests, .ref b_thing, .ref b_sign, .ref b_number, .int n_bk])), (b_value, .inl (k_value, 16, .inl f_value))]) [1, 0] (by decide) rfl
    have hK9 := hK.sub (tys' := [(k_value, .int)]) [0] rfl
    exact W.iret (v := x_4) hx hb hr (fun t ht hW => ⟨⟨x_4, (), rfl, (lg_X5_valueOf_1 n_bk v1 yk h_2), ⟨by rw [ht]; exact hP9, va_K.moved hW.alike hK9, hD9⟩⟩, hS.F ht⟩) hS.2.2 dX5_valueOf_18
  · refine lv_if_eq (tgt := 17) hx hb dX5_valueOf_5 (by decide) ?_ (fun c_6 => absurd (by decide) c_6)
    intro _
    refine lv_iconst (v := (-1)) hx hb dX5_valueOf_17 (by decide) ?_
    refine W.widen (k := 0) (n := 0) (Nat.le_of_ble_eq_true rfl) (Nat.le_of_ble_eq_true rfl) ?_
    have hP9 := hP.sub (ws' := [(h0, .inr (5, [.ref b_deed, .ref b_value, .ref b_tests, .ref b_thing, .ref b_sign, .ref b_number, .int n_bk])), (b_value, .inl (k_value, 16, .inl f_value))]) [1, 0] rfl
    have hD9 := hD.sub (ws' := [(h0, .inr (5, [.ref b_deed, .ref b_value, .ref b_tests, .ref b_thing, .ref b_sign, .ref b_number, .int n_bk])), (b_value, .inl (k_value, 16, .inl f_value))]) [1, 0] (by decide) rfl
    have hK9 := hK.sub (tys' := [(k_value, .int)]) [0] rfl
    exact W.iret (v := (-1)) hx hb hr (fun t ht hW => ⟨⟨(-1), (), rfl, (lg_X5_valueOf_2 n_bk v1 yk h_2), ⟨by rw [ht]; exact hP9, va_K.moved hW.alike hK9, hD9⟩⟩, hS.F ht⟩) hS.2.2 dX5_valueOf_18

theorem lg_X5_setDeed_0 (n_bk : Int32) (yk : 0 ≤ n_bk.toInt ∧ n_bk.toInt ≤ 16) (t_2 : n_bk.toInt < (16 : Int)) : 0 ≤ n_bk.toInt ∧ n_bk.toInt < ((16 : Nat) : Int) := by
  have := rg_rng n_bk; omega
set_option maxHeartbeats 4000000 in
set_option maxRecDepth 100000 in
theorem kX5_setDeed (l : Launch) (dC : Nat → ClassId) (dI : Nat → Nat → Nat) (sz : Nat) (h0 : Nat) (b_deed : Nat) (b_value : Nat) (b_tests : Nat) (b_thing : Nat) (b_sign : Nat) (b_number : Nat) (n_bk : Int32) (k_deed : ClassId) (k_value : ClassId) (f_deed : Nat → Int32) (f_value : Nat → Int32) (v1 : Int32) (v2 : Int32) (yk : 0 ≤ n_bk.toInt ∧ n_bk.toInt ≤ 16) : Met l yX5_setDeed (Cond.code yX5_setDeed cX5_setDeed 3 none :: bg) ({ frames := 0, cells := 0, slots := 0, locals := 0 }) (pcW dC dI [.ref h0, .int v1, .int v2] sz [(h0, .inr (5, [.ref b_deed, .ref b_value, .ref b_tests, .ref b_thing, .ref b_sign, .ref b_number, .int n_bk])), (b_deed, .inl (k_deed, 16, .inl f_deed)), (b_value, .inl (k_value, 16, .inl f_value))] [(k_deed, .int), (k_value, .int)]) (va_Qv (fun (u : Unit) => True) (fun (u : Unit) (t : State) => ∃ (w_deed : Nat → Int32) (w_value : Nat → Int32), va_P (dC, dI) vwCl [(h0, .inr (5, [.ref b_deed, .ref b_value, .ref b_tests, .ref b_thing, .ref b_sign, .ref b_number, .int n_bk])), (b_deed, .inl (k_deed, 16, .inl w_deed)), (b_value, .inl (k_value, 16, .inl w_value))] t.heap ∧ va_K (dC, dI) vwCl [] t ∧ va_D (va_A [(h0, .inr (5, [.ref b_deed, .ref b_value, .ref b_tests, .ref b_thing, .ref b_sign, .ref b_number, .int n_bk])), (b_deed, .inl (k_deed, 16, .inl f_deed)), (b_value, .inl (k_value, 16, .inl f_value))] sz) [(h0, .inr (5, [.ref b_deed, .ref b_value, .ref b_tests, .ref b_thing, .ref b_sign, .ref b_number, .int n_bk])), (b_deed, .inl (k_deed, 16, .inl w_deed)), (b_value, .inl (k_value, 16, .inl w_value))]) (va_A [(h0, .inr (5, [.ref b_deed, .ref b_value, .ref b_tests, .ref b_thing, .ref b_sign, .ref b_number, .int n_bk])), (b_deed, .inl (k_deed, 16, .inl f_deed)), (b_value, .inl (k_value, 16, .inl f_value))] sz)) 0 0 (va_A [(h0, .inr (5, [.ref b_deed, .ref b_value, .ref b_tests, .ref b_thing, .ref b_sign, .ref b_number, .int n_bk])), (b_deed, .inl (k_deed, 16, .inl f_deed)), (b_value, .inl (k_value, 16, .inl f_value))] sz) := by
  refine Met.ofW (cc := cX5_setDeed) (maxL := 3) (ret := none) pnX5 rfl ?_
  intro p e s m args below meth c s₁ B hml hv
  obtain ⟨rfl, hsz, hP, hK, hD0, hN⟩ := hv
  have hx := B.exec
  have hb := B.bytes
  have hr := B.returns
  have htb : ∀ w ∈ bg, w.before [.ref h0, .int v1, .int v2].toArray s = true := fun w h => atoms_spec (ws := Cond.code yX5_setDeed cX5_setDeed 3 none :: bg) B.pre w (List.mem_cons_of_mem _ h)
  have hown : s.vm.findClass RX5 = some m.cls := findClass_of_methodNamed B.named
  have hlocks := B.notSynchronized
  subst hsz
  have hD := hD0.self (sz := s.heap.size)
  generalize hAe : va_A [(h0, .inr (5, [.ref b_deed, .ref b_value, .ref b_tests, .ref b_thing, .ref b_sign, .ref b_number, .int n_bk])), (b_deed, .inl (k_deed, 16, .inl f_deed)), (b_value, .inl (k_value, 16, .inl f_value))] s.heap.size = A at hD ⊢
  have hA : ∀ q : Nat, s.heap.size ≤ q → A q := fun q h => by rw [← hAe]; exact Or.inr h
  have hS : va_S A s.heap s.heap [] := va_S.rf
  have hl := lv_entry ([.ref h0, .int v1, .int v2]) (n := 3) (Nat.le_of_ble_eq_true rfl)
  rw [lg_entry_eq]
  generalize (lg_sl ([.ref h0, .int v1, .int v2]) ++ List.replicate (3 - (lg_sl ([.ref h0, .int v1, .int v2])).length) Slot.unset).toArray = ls at hl ⊢
  change lv_has ls 3 [(0, .ref h0), (1, .int v1), (2, .int v2)] at hl
  clear hD0 hAe
  refine go0 (wsP := fun H => va_P (dC, dI) vwCl [(h0, .inr (5, [.ref b_deed, .ref b_value, .ref b_tests, .ref b_thing, .ref b_sign, .ref b_number, .int n_bk])), (b_deed, .inl (k_deed, 16, .inl f_deed)), (b_value, .inl (k_value, 16, .inl f_value))] H) hP hS ?_
  clear hP hS; intro H locs hP hS
  change va_P (dC, dI) vwCl [(h0, .inr (5, [.ref b_deed, .ref b_value, .ref b_tests, .ref b_thing, .ref b_sign, .ref b_number, .int n_bk])), (b_deed, .inl (k_deed, 16, .inl f_deed)), (b_value, .inl (k_value, 16, .inl f_value))] H at hP
  refine lv_aload_n hx hb dX5_setDeed_0 rfl (lv_at hl 0 rfl) ?_
  refine va_get (D := (dC, dI)) (ci := 5) (v := .int n_bk) (C := RX5) (T := TX5) (N := 7) hx hb htb iX5 hown hK hP 0 rfl rfl 6 (Nat.le_of_ble_eq_true rfl) (htb _ m_285) (fun _ h9 => h9) rfl dX5_setDeed_1 ?_
  refine lv_bipush (v := 16) hx hb dX5_setDeed_4 (by decide) ?_
  refine lv_icmp_ge (tgt := 29) hx hb dX5_setDeed_6 (by decide) (fun c_1 => ?_) (fun c_1 => ?_)
  · have t_2 : (16 : Int) ≤ n_bk.toInt := i_le (by decide) rfl c_1
    refine W.widen (k := 0) (n := 0) (Nat.le_of_ble_eq_true rfl) (Nat.le_of_ble_eq_true rfl) ?_
    have hP9 := hP.sub (ws' := [(h0, .inr (5, [.ref b_deed, .ref b_value, .ref b_tests, .ref b_thing, .ref b_sign, .ref b_number, .int n_bk])), (b_deed, .inl (k_deed, 16, .inl f_deed)), (b_value, .inl (k_value, 16, .inl f_value))]) [0, 1, 2] rfl
    have hD9 := hD.sub (ws' := [(h0, .inr (5, [.ref b_deed, .ref b_value, .ref b_tests, .ref b_thing, .ref b_sign, .ref b_number, .int n_bk])), (b_deed, .inl (k_deed, 16, .inl f_deed)), (b_value, .inl (k_value, 16, .inl f_value))]) [0, 1, 2] (by decide) rfl
    have hK9 := hK.sub (tys' := []) [] rfl
    exact W.vret hx hb hr (fun t ht hW => ⟨⟨(), rfl, trivial, ⟨f_deed, f_value, by rw [ht]; exact hP9, va_K.moved hW.alike hK9, hD9⟩⟩, hS.F ht⟩) hS.2.2 dX5_setDeed_29
  · have t_2 : n_bk.toInt < (16 : Int) := i_nle (by decide) rfl c_1
    refine lv_aload_n hx hb dX5_setDeed_9 rfl (lv_at hl 0 rfl) ?_
    refine va_get (D := (dC, dI)) (ci := 5) (v := .ref b_deed) (C := RX5) (T := TX5) (N := 7) hx hb htb iX5 hown hK hP 0 rfl rfl 0 (Nat.le_of_ble_eq_true rfl) (htb _ m_279) (fun _ h9 => h9) rfl dX5_setDeed_10 ?_
    refine lv_aload_n hx hb dX5_setDeed_13 rfl (lv_at hl 0 rfl) ?_
    refine va_get (D := (dC, dI)) (ci := 5) (v := .int n_bk) (C := RX5) (T := TX5) (N := 7) hx hb htb iX5 hown hK hP 0 rfl rfl 6 (Nat.le_of_ble_eq_true rfl) (htb _ m_285) (fun _ h9 => h9) rfl dX5_setDeed_14 ?_
    refine lv_iload_n hx hb dX5_setDeed_17 rfl (lv_at hl 1 rfl) ?_
    refine va_iast hx hb hK hP hD hS 1 0 rfl rfl (i_in rfl (lg_X5_setDeed_0 n_bk yk t_2)) dX5_setDeed_18 ?_
    clear hP hD hS; intro H locs hP hD hS
    change va_P (dC, dI) vwCl [(h0, .inr (5, [.ref b_deed, .ref b_value, .ref b_tests, .ref b_thing, .ref b_sign, .ref b_number, .int n_bk])), (b_deed, .inl (k_deed, 16, .inl (upd f_deed (Int32.toNatClampNeg n_bk) v1))), (b_value, .inl (k_value, 16, .inl f_value))] H at hP
    change va_D A [(h0, .inr (5, [.ref b_deed, .ref b_value, .ref b_tests, .ref b_thing, .ref b_sign, .ref b_number, .int n_bk])), (b_deed, .inl (k_deed, 16, .inl (upd f_deed (Int32.toNatClampNeg n_bk) v1))), (b_value, .inl (k_value, 16, .inl f_value))] at hD
    generalize upd f_deed (Int32.toNatClampNeg n_bk) v1 = g_3 at hP hD
    refine lv_aload_n hx hb dX5_setDeed_19 rfl (lv_at hl 0 rfl) ?_
    refine va_get (D := (dC, dI)) (ci := 5) (v := .ref b_value) (C := RX5) (T := TX5) (N := 7) hx hb htb iX5 hown hK hP 0 rfl rfl 1 (Nat.le_of_ble_eq_true rfl) (htb _ m_280) (fun _ h9 => h9) rfl dX5_setDeed_20 ?_
    refine lv_aload_n hx hb dX5_setDeed_23 rfl (lv_at hl 0 rfl) ?_
    refine va_get (D := (dC, dI)) (ci := 5) (v := .int n_bk) (C := RX5) (T := TX5) (N := 7) hx hb htb iX5 hown hK hP 0 rfl rfl 6 (Nat.le_of_ble_eq_true rfl) (htb _ m_285) (fun _ h9 => h9) rfl dX5_setDeed_24 ?_
    refine lv_iload_n hx hb dX5_setDeed_27 rfl (lv_at hl 2 rfl) ?_
    refine va_iast hx hb hK hP hD hS 2 1 rfl rfl (i_in rfl (lg_X5_setDeed_0 n_bk yk t_2)) dX5_setDeed_28 ?_
    clear hP hD hS; intro H locs hP hD hS
    change va_P (dC, dI) vwCl [(h0, .inr (5, [.ref b_deed, .ref b_value, .ref b_tests, .ref b_thing, .ref b_sign, .ref b_number, .int n_bk])), (b_deed, .inl (k_deed, 16, .inl g_3)), (b_value, .inl (k_value, 16, .inl (upd f_value (Int32.toNatClampNeg n_bk) v2)))] H at hP
    change va_D A [(h0, .inr (5, [.ref b_deed, .ref b_value, .ref b_tests, .ref b_thing, .ref b_sign, .ref b_number, .int n_bk])), (b_deed, .inl (k_deed, 16, .inl g_3)), (b_value, .inl (k_value, 16, .inl (upd f_value (Int32.toNatClampNeg n_bk) v2)))] at hD
    generalize upd f_value (Int32.toNatClampNeg n_bk) v2 = g_4 at hP hD
    refine W.widen (k := 0) (n := 0) (Nat.le_of_ble_eq_true rfl) (Nat.le_of_ble_eq_true rfl) ?_
    have hP9 := hP.sub (ws' := [(h0, .inr (5, [.ref b_deed, .ref b_value, .ref b_tests, .ref b_thing, .ref b_sign, .ref b_number, .int n_bk])), (b_deed, .inl (k_deed, 16, .inl g_3)), (b_value, .inl (k_value, 16, .inl g_4))]) [0, 1, 2] rfl
    have hD9 := hD.sub (ws' := [(h0, .inr (5, [.ref b_deed, .ref b_value, .ref b_tests, .ref b_thing, .ref b_sign, .ref b_number, .int n_bk])), (b_deed, .inl (k_deed, 16, .inl g_3)), (b_value, .inl (k_value, 16, .inl g_4))]) [0, 1, 2] (by decide) rfl
    have hK9 := hK.sub (tys' := []) [] rfl
    exact W.vret hx hb hr (fun t ht hW => ⟨⟨(), rfl, trivial, ⟨g_3, g_4, by rw [ht]; exact hP9, va_K.moved hW.alike hK9, hD9⟩⟩, hS.F ht⟩) hS.2.2 dX5_setDeed_29
