set_option maxHeartbeats 4000000 in
set_option maxRecDepth 100000 in
theorem kJ0_coder_7d493 (l : Launch) (dC : Nat → ClassId) (dI : Nat → Nat → Nat) (sz : Nat) (adK adV : Nat → Nat) (fm : Option Nat) (i0 : Nat) (hi0 : i0 < 13) : Met l yJ0_coder_7d493 (Cond.code yJ0_coder_7d493 cJ0_coder_7d493 1 (some .byte) :: bg) ({ frames := 0, cells := 0, slots := 0, locals := 0 }) (pcS dC dI [.ref (adK i0)] sz [] [] adK adV fm) (va_Qi (fun (r : Int32) (u : Unit) => r = 0) (fun (u : Unit) (t : State) => va_P (dC, dI) vwCl [] t.heap ∧ va_K (dC, dI) vwCl [] t ∧ va_D (va_A [] sz) []) (va_A [] sz)) 0 0 (va_A [] sz) := by
  refine Met.ofW (cc := cJ0_coder_7d493) (maxL := 1) (ret := (some .byte)) pnJ0 rfl ?_
  intro p e s m args below meth c s₁ B hml hv
  obtain ⟨rfl, hsz, hP, hK, hD0, hN, hE, hR⟩ := hv
  have hx := B.exec
  have hb := B.bytes
  have hr := B.returns
  have htb : ∀ w ∈ bg, w.before [.ref (adK i0)].toArray s = true := fun w h => atoms_spec (ws := Cond.code yJ0_coder_7d493 cJ0_coder_7d493 1 (some .byte) :: bg) B.pre w (List.mem_cons_of_mem _ h)
  have hown : s.vm.findClass RJ0 = some m.cls := findClass_of_methodNamed B.named
  have hlocks := B.notSynchronized
  subst hsz
  have hD := hD0.self (sz := s.heap.size)
  generalize hAe : va_A [] s.heap.size = A at hD hE ⊢
  have hA : ∀ q : Nat, s.heap.size ≤ q → A q := fun q h => by rw [← hAe]; exact Or.inr h
  have hS : va_S A s.heap s.heap [] := va_S.rf
  have hl := lv_entry ([.ref (adK i0)]) (n := 1) (Nat.le_of_ble_eq_true rfl)
  rw [lg_entry_eq]
  generalize (lg_sl ([.ref (adK i0)]) ++ List.replicate (1 - (lg_sl ([.ref (adK i0)])).length) Slot.unset).toArray = ls at hl ⊢
  change lv_has ls 1 [(0, .ref (adK i0))] at hl
  clear hD0 hAe
  refine go0 (wsP := fun H => va_P (dC, dI) vwCl [] H) hP hS ?_
  clear hP hS; intro H locs hP hS
  change va_P (dC, dI) vwCl [] H at hP
  refine va_gets hx hb hE.2.1 hS hown (htb _ m_858) (fun _ h9 => h9) dJ0_coder_7d493_0 ?_
  refine lv_if_eq (tgt := 13) hx hb dJ0_coder_7d493_3 (by decide) (fun c_1 => absurd c_1 (by decide)) ?_
  intro _
  refine lv_aload_n hx hb dJ0_coder_7d493_6 rfl (lv_at hl 0 rfl) ?_
  refine vk_getf hx hb (hE.1.1 _ hi0).2.1 hS hown (htb _ m_1401) (fun _ h9 => h9) dJ0_coder_7d493_7 ?_
  refine lv_goto (tgt := 14) hx hb dJ0_coder_7d493_10 (by decide) ?_
  refine W.widen (k := 0) (n := 0) (Nat.le_of_ble_eq_true rfl) (Nat.le_of_ble_eq_true rfl) ?_
  have hP9 := hP.sub (ws' := []) [] rfl
  have hD9 := hD.sub (ws' := []) [] (by decide) rfl
  have hK9 := hK.sub (tys' := []) [] rfl
  exact W.zret (ty := .byte) (v := 0) hx hb hr rfl (fun t ht hW => ⟨⟨0, (), rfl, (rfl), ⟨by rw [ht]; exact hP9, va_K.moved hW.alike hK9, hD9⟩⟩, hS.F ht⟩) hS.2.2 dJ0_coder_7d493_14

set_option maxHeartbeats 4000000 in
set_option maxRecDepth 100000 in
theorem kJ0_isLatin1_aae02 (l : Launch) (dC : Nat → ClassId) (dI : Nat → Nat → Nat) (sz : Nat) (adK adV : Nat → Nat) (fm : Option Nat) (i0 : Nat) (hi0 : i0 < 13) : Met l yJ0_isLatin1_aae02 (Cond.code yJ0_isLatin1_aae02 cJ0_isLatin1_aae02 1 (some .boolean) :: bg) ({ frames := 0, cells := 0, slots := 0, locals := 0 }) (pcS dC dI [.ref (adK i0)] sz [] [] adK adV fm) (va_Qi (fun (r : Int32) (u : Unit) => r = 1) (fun (u : Unit) (t : State) => va_P (dC, dI) vwCl [] t.heap ∧ va_K (dC, dI) vwCl [] t ∧ va_D (va_A [] sz) []) (va_A [] sz)) 0 0 (va_A [] sz) := by
  refine Met.ofW (cc := cJ0_isLatin1_aae02) (maxL := 1) (ret := (some .boolean)) pnJ0 rfl ?_
  intro p e s m args below meth c s₁ B hml hv
  obtain ⟨rfl, hsz, hP, hK, hD0, hN, hE, hR⟩ := hv
  have hx := B.exec
  have hb := B.bytes
  have hr := B.returns
  have htb : ∀ w ∈ bg, w.before [.ref (adK i0)].toArray s = true := fun w h => atoms_spec (ws := Cond.code yJ0_isLatin1_aae02 cJ0_isLatin1_aae02 1 (some .boolean) :: bg) B.pre w (List.mem_cons_of_mem _ h)
  have hown : s.vm.findClass RJ0 = some m.cls := findClass_of_methodNamed B.named
  have hlocks := B.notSynchronized
  subst hsz
  have hD := hD0.self (sz := s.heap.size)
  generalize hAe : va_A [] s.heap.size = A at hD hE ⊢
  have hA : ∀ q : Nat, s.heap.size ≤ q → A q := fun q h => by rw [← hAe]; exact Or.inr h
  have hS : va_S A s.heap s.heap [] := va_S.rf
  have hl := lv_entry ([.ref (adK i0)]) (n := 1) (Nat.le_of_ble_eq_true rfl)
  rw [lg_entry_eq]
  generalize (lg_sl ([.ref (adK i0)]) ++ List.replicate (1 - (lg_sl ([.ref (adK i0)])).length) Slot.unset).toArray = ls at hl ⊢
  change lv_has ls 1 [(0, .ref (adK i0))] at hl
  clear hD0 hAe
  refine go0 (wsP := fun H => va_P (dC, dI) vwCl [] H) hP hS ?_
  clear hP hS; intro H locs hP hS
  change va_P (dC, dI) vwCl [] H at hP
  refine va_gets hx hb hE.2.1 hS hown (htb _ m_858) (fun _ h9 => h9) dJ0_isLatin1_aae02_0 ?_
  refine lv_if_eq (tgt := 17) hx hb dJ0_isLatin1_aae02_3 (by decide) (fun c_1 => absurd c_1 (by decide)) ?_
  intro _
  refine lv_aload_n hx hb dJ0_isLatin1_aae02_6 rfl (lv_at hl 0 rfl) ?_
  refine vk_getf hx hb (hE.1.1 _ hi0).2.1 hS hown (htb _ m_1401) (fun _ h9 => h9) dJ0_isLatin1_aae02_7 ?_
  refine lv_if_ne (tgt := 17) hx hb dJ0_isLatin1_aae02_10 (by decide) (fun c_2 => absurd (by decide) c_2) ?_
  intro _
  refine lv_iconst (v := 1) hx hb dJ0_isLatin1_aae02_13 (by decide) ?_
  refine lv_goto (tgt := 18) hx hb dJ0_isLatin1_aae02_14 (by decide) ?_
  refine W.widen (k := 0) (n := 0) (Nat.le_of_ble_eq_true rfl) (Nat.le_of_ble_eq_true rfl) ?_
  have hP9 := hP.sub (ws' := []) [] rfl
  have hD9 := hD.sub (ws' := []) [] (by decide) rfl
  have hK9 := hK.sub (tys' := []) [] rfl
  exact W.zret (ty := .boolean) (v := 1) hx hb hr rfl (fun t ht hW => ⟨⟨1, (), rfl, (rfl), ⟨by rw [ht]; exact hP9, va_K.moved hW.alike hK9, hD9⟩⟩, hS.F ht⟩) hS.2.2 dJ0_isLatin1_aae02_18

theorem lg_J0_length_8abf5_0 (i0 : Nat) (x_1 : Int32) (hi0 : i0 < 13) (t_3 : x_1.toInt = ((stL.getD i0 0 : Nat) : Int) ∧ 2 ≤ ((stL.getD i0 0 : Nat) : Int) ∧ ((stL.getD i0 0 : Nat) : Int) ≤ 8) : x_1.toInt = ((stL.getD i0 0 : Nat) : Int) ∧ 2 ≤ ((stL.getD i0 0 : Nat) : Int) ∧ ((stL.getD i0 0 : Nat) : Int) ≤ 8 := by
  have := rg_rng x_1; omega
set_option maxHeartbeats 4000000 in
set_option maxRecDepth 100000 in
theorem kJ0_length_8abf5 (l : Launch) (dC : Nat → ClassId) (dI : Nat → Nat → Nat) (sz : Nat) (adK adV : Nat → Nat) (fm : Option Nat) (i0 : Nat) (hi0 : i0 < 13) : Met l yJ0_length_8abf5 (Cond.code yJ0_length_8abf5 cJ0_length_8abf5 1 (some .int) :: bg) ({ frames := 1, cells := 0, slots := 0, locals := 20 }) (pcS dC dI [.ref (adK i0)] sz [] [] adK adV fm) (va_Qi (fun (r : Int32) (u : Unit) => r.toInt = ((stL.getD i0 0 : Nat) : Int) ∧ 2 ≤ ((stL.getD i0 0 : Nat) : Int) ∧ ((stL.getD i0 0 : Nat) : Int) ≤ 8) (fun (u : Unit) (t : State) => va_P (dC, dI) vwCl [] t.heap ∧ va_K (dC, dI) vwCl [] t ∧ va_D (va_A [] sz) []) (va_A [] sz)) 0 0 (va_A [] sz) := by
  refine Met.ofW (cc := cJ0_length_8abf5) (maxL := 1) (ret := (some .int)) pnJ0 rfl ?_
  intro p e s m args below meth c s₁ B hml hv
  obtain ⟨rfl, hsz, hP, hK, hD0, hN, hE, hR⟩ := hv
  have hx := B.exec
  have hb := B.bytes
  have hr := B.returns
  have htb : ∀ w ∈ bg, w.before [.ref (adK i0)].toArray s = true := fun w h => atoms_spec (ws := Cond.code yJ0_length_8abf5 cJ0_length_8abf5 1 (some .int) :: bg) B.pre w (List.mem_cons_of_mem _ h)
  have hown : s.vm.findClass RJ0 = some m.cls := findClass_of_methodNamed B.named
  have hlocks := B.notSynchronized
  subst hsz
  have hD := hD0.self (sz := s.heap.size)
  generalize hAe : va_A [] s.heap.size = A at hD hE ⊢
  have hA : ∀ q : Nat, s.heap.size ≤ q → A q := fun q h => by rw [← hAe]; exact Or.inr h
  have hS : va_S A s.heap s.heap [] := va_S.rf
  have hl := lv_entry ([.ref (adK i0)]) (n := 1) (Nat.le_of_ble_eq_true rfl)
  rw [lg_entry_eq]
  generalize (lg_sl ([.ref (adK i0)]) ++ List.replicate (1 - (lg_sl ([.ref (adK i0)])).length) Slot.unset).toArray = ls at hl ⊢
  change lv_has ls 1 [(0, .ref (adK i0))] at hl
  clear hD0 hAe
  refine go0 (wsP := fun H => va_P (dC, dI) vwCl [] H) hP hS ?_
  clear hP hS; intro H locs hP hS
  change va_P (dC, dI) vwCl [] H at hP
  refine lv_aload_n hx hb dJ0_length_8abf5_0 rfl (lv_at hl 0 rfl) ?_
  refine vk_getf hx hb (hE.1.1 _ hi0).2.2.1 hS hown (htb _ m_1400) (fun _ h9 => h9) dJ0_length_8abf5_1 ?_
  refine va_tlen hx hb (hE.1.1 _ hi0).2.2.2 hS rfl dJ0_length_8abf5_4 ?_
  refine lv_topi (fun x_1 ex_2 => ?_)
  have t_3 : x_1.toInt = ((stL.getD i0 0 : Nat) : Int) ∧ 2 ≤ ((stL.getD i0 0 : Nat) : Int) ∧ ((stL.getD i0 0 : Nat) : Int) ≤ 8 := st_len hi0 ex_2
  refine lv_aload_n hx hb dJ0_length_8abf5_5 rfl (lv_at hl 0 rfl) ?_
  have hPc := hP.sub (ws' := []) [] rfl
  have hDc := hD.sub (ws' := []) [] (by decide) rfl
  have hKc := hK.sub (tys' := []) [] rfl
  have hFc := va_free (wc := []) hD hS hA [] rfl
  refine va_calli (va_runV (C := "java/lang/String") (As := []) (rest := [.int x_1]) ⟨hx, hb, hml, hown, htb⟩ (kJ0_coder_7d493 l dC dI H.size adK adV fm i0 hi0) ⟨callB_of 0 htb (gd_c m_857) rfl rfl rfl (htb _ m_16) (htb _ m_854) hdJ0_coder_7d493 ⟨(Nat.le_of_ble_eq_true rfl), (Nat.le_of_ble_eq_true rfl)⟩, htb _ m_855, htb _ m_856⟩ ⟨pcS_blind, vk_recv hE.1 hi0 hS, pcS_at hPc hKc hDc hN hE hR hS hFc⟩ rfl rfl hl.1 rfl (lv_room (Nat.le_of_ble_eq_true rfl)) dJ0_length_8abf5_6 ⟨(Nat.le_of_ble_eq_true rfl), (Nat.le_of_ble_eq_true rfl)⟩) hS (fun q _ h => hFc q h) hFc (fun r_4 u t H1 locs1 ht hvm h_5 hB hz1 hk1 hS1 => ?_)
  obtain ⟨hP1, hK1, hD1⟩ := hB
  rw [ht] at hP1
  obtain ⟨hPn, hDn⟩ := va_join (wr := []) (w1 := []) hP hD [] [] rfl rfl (by decide) (by decide) hk1 hFc hP1 hD1
  clear hP1 hD1 hK1
  clear hP hD hS hPc hDc hKc hFc hk1 hz1 ht hvm
  clear t
  revert hS1 hPn hDn; generalize H1 = H; generalize locs1 = locs; intro hS hP hD
  change va_P (dC, dI) vwCl [] H at hP
  change va_D A [] at hD
  subst h_5
  refine lv_ishr hx hb dJ0_length_8abf5_9 ?_
  refine lv_tope (y := x_1) (sh_0 _) ?_
  refine W.widen (k := 0) (n := 0) (Nat.le_of_ble_eq_true rfl) (Nat.le_of_ble_eq_true rfl) ?_
  have hP9 := hP.sub (ws' := []) [] rfl
  have hD9 := hD.sub (ws' := []) [] (by decide) rfl
  have hK9 := hK.sub (tys' := []) [] rfl
  exact W.iret (v := x_1) hx hb hr (fun t ht hW => ⟨⟨x_1, (), rfl, (lg_J0_length_8abf5_0 i0 x_1 hi0 t_3), ⟨by rw [ht]; exact hP9, va_K.moved hW.alike hK9, hD9⟩⟩, hS.F ht⟩) hS.2.2 dJ0_length_8abf5_10

theorem lg_J3_checkIndex_8e157_n_0 (v1 : Int32) (v2 : Int32) (yv : 0 ≤ v1.toInt ∧ v1.toInt < v2.toInt) (t_2 : v1.toInt < (0 : Int)) : False := by
  have := rg_rng v1; have := rg_rng v2; omega
theorem lg_J3_checkIndex_8e157_n_1 (v1 : Int32) (v2 : Int32) (yv : 0 ≤ v1.toInt ∧ v1.toInt < v2.toInt) (t_2 : (0 : Int) ≤ v1.toInt) (t_4 : v2.toInt ≤ v1.toInt) : False := by
  have := rg_rng v1; have := rg_rng v2; omega
theorem lg_J3_checkIndex_8e157_n_2 (v1 : Int32) (v2 : Int32) (yv : 0 ≤ v1.toInt ∧ v1.toInt < v2.toInt) (t_2 : (0 : Int) ≤ v1.toInt) (t_4 : v1.toInt < v2.toInt) : True := by
  have := rg_rng v1; have := rg_rng v2; trivial
set_option maxHeartbeats 4000000 in
set_option maxRecDepth 100000 in
theorem kJ3_checkIndex_8e157_n (l : Launch) (dC : Nat → ClassId) (dI : Nat → Nat → Nat) (sz : Nat) (v1 : Int32) (v2 : Int32) (yv : 0 ≤ v1.toInt ∧ v1.toInt < v2.toInt) : Met l yJ3_checkIndex_8e157 (Cond.code yJ3_checkIndex_8e157 cJ3_checkIndex_8e157 3 (some .int) :: bg) ({ frames := 0, cells := 0, slots := 0, locals := 0 }) (pcW dC dI [.int v1, .int v2, .null] sz [] []) (va_Qi (fun (r : Int32) (u : Unit) => True) (fun (u : Unit) (t : State) => va_P (dC, dI) vwCl [] t.heap ∧ va_K (dC, dI) vwCl [] t ∧ va_D (va_A [] sz) []) (va_A [] sz)) 0 0 (va_A [] sz) := by
  refine Met.ofW (cc := cJ3_checkIndex_8e157) (maxL := 3) (ret := (some .int)) pnJ3 rfl ?_
  intro p e s m args below meth c s₁ B hml hv
  obtain ⟨rfl, hsz, hP, hK, hD0, hN⟩ := hv
  have hx := B.exec
  have hb := B.bytes
  have hr := B.returns
  have htb : ∀ w ∈ bg, w.before [.int v1, .int v2, .null].toArray s = true := fun w h => atoms_spec (ws := Cond.code yJ3_checkIndex_8e157 cJ3_checkIndex_8e157 3 (some .int) :: bg) B.pre w (List.mem_cons_of_mem _ h)
  have hown : s.vm.findClass RJ3 = some m.cls := findClass_of_methodNamed B.named
  have hlocks := B.notSynchronized
  subst hsz
  have hD := hD0.self (sz := s.heap.size)
  generalize hAe : va_A [] s.heap.size = A at hD ⊢
  have hA : ∀ q : Nat, s.heap.size ≤ q → A q := fun q h => by rw [← hAe]; exact Or.inr h
  have hS : va_S A s.heap s.heap [] := va_S.rf
  have hl := lv_entry ([.int v1, .int v2, .null]) (n := 3) (Nat.le_of_ble_eq_true rfl)
  rw [lg_entry_eq]
  generalize (lg_sl ([.int v1, .int v2, .null]) ++ List.replicate (3 - (lg_sl ([.int v1, .int v2, .null])).length) Slot.unset).toArray = ls at hl ⊢
  change lv_has ls 3 [(0, .int v1), (1, .int v2), (2, .null)] at hl
  clear hD0 hAe
  refine go0 (wsP := fun H => va_P (dC, dI) vwCl [] H) hP hS ?_
  clear hP hS; intro H locs hP hS
  change va_P (dC, dI) vwCl [] H at hP
  refine lv_iload_n hx hb dJ3_checkIndex_8e157_0 rfl (lv_at hl 0 rfl) ?_
  refine lv_if_lt (tgt := 9) hx hb dJ3_checkIndex_8e157_1 (by decide) (fun c_1 => False.elim ((fun (t_2 : v1.toInt < (0 : Int)) => (lg_J3_checkIndex_8e157_n_0 v1 v2 yv t_2)) (i_lt rfl (by decide) c_1))) ?_
  intro c_1
  have t_2 : (0 : Int) ≤ v1.toInt := i_nlt rfl (by decide) c_1
  refine lv_iload_n hx hb dJ3_checkIndex_8e157_4 rfl (lv_at hl 0 rfl) ?_
  refine lv_iload_n hx hb dJ3_checkIndex_8e157_5 rfl (lv_at hl 1 rfl) ?_
  refine lv_icmp_lt (tgt := 16) hx hb dJ3_checkIndex_8e157_6 (by decide) ?_ (fun c_3 => False.elim ((fun (t_4 : v2.toInt ≤ v1.toInt) => (lg_J3_checkIndex_8e157_n_1 v1 v2 yv t_2 t_4)) (i_nlt rfl rfl c_3)))
  intro c_3
  have t_4 : v1.toInt < v2.toInt := i_lt rfl rfl c_3
  refine lv_iload_n hx hb dJ3_checkIndex_8e157_16 rfl (lv_at hl 0 rfl) ?_
  refine W.widen (k := 0) (n := 0) (Nat.le_of_ble_eq_true rfl) (Nat.le_of_ble_eq_true rfl) ?_
  have hP9 := hP.sub (ws' := []) [] rfl
  have hD9 := hD.sub (ws' := []) [] (by decide) rfl
  have hK9 := hK.sub (tys' := []) [] rfl
  exact W.iret (v := v1) hx hb hr (fun t ht hW => ⟨⟨v1, (), rfl, (lg_J3_checkIndex_8e157_n_2 v1 v2 yv t_2 t_4), ⟨by rw [ht]; exact hP9, va_K.moved hW.alike hK9, hD9⟩⟩, hS.F ht⟩) hS.2.2 dJ3_checkIndex_8e157_17

theorem lg_J3_checkIndex_8e157_r_0 (v1 : Int32) (v2 : Int32) (yv : 0 ≤ v1.toInt ∧ v1.toInt < v2.toInt) (t_2 : v1.toInt < (0 : Int)) : False := by
  have := rg_rng v1; have := rg_rng v2; omega
theorem lg_J3_checkIndex_8e157_r_1 (v1 : Int32) (v2 : Int32) (yv : 0 ≤ v1.toInt ∧ v1.toInt < v2.toInt) (t_2 : (0 : Int) ≤ v1.toInt) (t_4 : v2.toInt ≤ v1.toInt) : False := by
  have := rg_rng v1; have := rg_rng v2; omega
theorem lg_J3_checkIndex_8e157_r_2 (v1 : Int32) (v2 : Int32) (yv : 0 ≤ v1.toInt ∧ v1.toInt < v2.toInt) (t_2 : (0 : Int) ≤ v1.toInt) (t_4 : v1.toInt < v2.toInt) : True := by
  have := rg_rng v1; have := rg_rng v2; trivial
set_option maxHeartbeats 4000000 in
set_option maxRecDepth 100000 in
theorem kJ3_checkIndex_8e157_r (l : Launch) (dC : Nat → ClassId) (dI : Nat → Nat → Nat) (sz : Nat) (v1 : Int32) (v2 : Int32) (a9 : Nat) (yv : 0 ≤ v1.toInt ∧ v1.toInt < v2.toInt) : Met l yJ3_checkIndex_8e157 (Cond.code yJ3_checkIndex_8e157 cJ3_checkIndex_8e157 3 (some .int) :: bg) ({ frames := 0, cells := 0, slots := 0, locals := 0 }) (pcW dC dI [.int v1, .int v2, .ref a9] sz [] []) (va_Qi (fun (r : Int32) (u : Unit) => True) (fun (u : Unit) (t : State) => va_P (dC, dI) vwCl [] t.heap ∧ va_K (dC, dI) vwCl [] t ∧ va_D (va_A [] sz) []) (va_A [] sz)) 0 0 (va_A [] sz) := by
  refine Met.ofW (cc := cJ3_checkIndex_8e157) (maxL := 3) (ret := (some .int)) pnJ3 rfl ?_
  intro p e s m args below meth c s₁ B hml hv
  obtain ⟨rfl, hsz, hP, hK, hD0, hN⟩ := hv
  have hx := B.exec
  have hb := B.bytes
  have hr := B.returns
  have htb : ∀ w ∈ bg, w.before [.int v1, .int v2, .ref a9].toArray s = true := fun w h => atoms_spec (ws := Cond.code yJ3_checkIndex_8e157 cJ3_checkIndex_8e157 3 (some .int) :: bg) B.pre w (List.mem_cons_of_mem _ h)
  have hown : s.vm.findClass RJ3 = some m.cls := findClass_of_methodNamed B.named
  have hlocks := B.notSynchronized
  subst hsz
  have hD := hD0.self (sz := s.heap.size)
  generalize hAe : va_A [] s.heap.size = A at hD ⊢
  have hA : ∀ q : Nat, s.heap.size ≤ q → A q := fun q h => by rw [← hAe]; exact Or.inr h
  have hS : va_S A s.heap s.heap [] := va_S.rf
  have hl := lv_entry ([.int v1, .int v2, .ref a9]) (n := 3) (Nat.le_of_ble_eq_true rfl)
  rw [lg_entry_eq]
  generalize (lg_sl ([.int v1, .int v2, .ref a9]) ++ List.replicate (3 - (lg_sl ([.int v1, .int v2, .ref a9])).length) Slot.unset).toArray = ls at hl ⊢
  change lv_has ls 3 [(0, .int v1), (1, .int v2), (2, .ref a9)] at hl
  clear hD0 hAe
  refine go0 (wsP := fun H => va_P (dC, dI) vwCl [] H) hP hS ?_
  clear hP hS; intro H locs hP hS
  change va_P (dC, dI) vwCl [] H at hP
  refine lv_iload_n hx hb dJ3_checkIndex_8e157_0 rfl (lv_at hl 0 rfl) ?_
  refine lv_if_lt (tgt := 9) hx hb dJ3_checkIndex_8e157_1 (by decide) (fun c_1 => False.elim ((fun (t_2 : v1.toInt < (0 : Int)) => (lg_J3_checkIndex_8e157_r_0 v1 v2 yv t_2)) (i_lt rfl (by decide) c_1))) ?_
  intro c_1
  have t_2 : (0 : Int) ≤ v1.toInt := i_nlt rfl (by decide) c_1
  refine lv_iload_n hx hb dJ3_checkIndex_8e157_4 rfl (lv_at hl 0 rfl) ?_
  refine lv_iload_n hx hb dJ3_checkIndex_8e157_5 rfl (lv_at hl 1 rfl) ?_
  refine lv_icmp_lt (tgt := 16) hx hb dJ3_checkIndex_8e157_6 (by decide) ?_ (fun c_3 => False.elim ((fun (t_4 : v2.toInt ≤ v1.toInt) => (lg_J3_checkIndex_8e157_r_1 v1 v2 yv t_2 t_4)) (i_nlt rfl rfl c_3)))
  intro c_3
  have t_4 : v1.toInt < v2.toInt := i_lt rfl rfl c_3
  refine lv_iload_n hx hb dJ3_checkIndex_8e157_16 rfl (lv_at hl 0 rfl) ?_
  refine W.widen (k := 0) (n := 0) (Nat.le_of_ble_eq_true rfl) (Nat.le_of_ble_eq_true rfl) ?_
  have hP9 := hP.sub (ws' := []) [] rfl
  have hD9 := hD.sub (ws' := []) [] (by decide) rfl
  have hK9 := hK.sub (tys' := []) [] rfl
  exact W.iret (v := v1) hx hb hr (fun t ht hW => ⟨⟨v1, (), rfl, (lg_J3_checkIndex_8e157_r_2 v1 v2 yv t_2 t_4), ⟨by rw [ht]; exact hP9, va_K.moved hW.alike hK9, hD9⟩⟩, hS.F ht⟩) hS.2.2 dJ3_checkIndex_8e157_17

set_option maxHeartbeats 4000000 in
set_option maxRecDepth 100000 in
theorem kJ0_checkIndex_df160_n (l : Launch) (dC : Nat → ClassId) (dI : Nat → Nat → Nat) (sz : Nat) (adK adV : Nat → Nat) (v1 : Int32) (v2 : Int32) (yv : 0 ≤ v1.toInt ∧ v1.toInt < v2.toInt) : Met l yJ0_checkIndex_df160 (Cond.code yJ0_checkIndex_df160 cJ0_checkIndex_df160 2 none :: bg) ({ frames := 1, cells := 0, slots := 0, locals := 22 }) (pcS dC dI [.int v1, .int v2] sz [] [] adK adV (none)) (va_Qv (fun (u : Unit) => True) (fun (u : Unit) (t : State) => va_P (dC, dI) vwCl [] t.heap ∧ va_K (dC, dI) vwCl [] t ∧ va_D (va_A [] sz) []) (va_A [] sz)) 0 0 (va_A [] sz) := by
  refine Met.ofW (cc := cJ0_checkIndex_df160) (maxL := 2) (ret := none) pnJ0 rfl ?_
  intro p e s m args below meth c s₁ B hml hv
  obtain ⟨rfl, hsz, hP, hK, hD0, hN, hE, hR⟩ := hv
  have hx := B.exec
  have hb := B.bytes
  have hr := B.returns
  have htb : ∀ w ∈ bg, w.before [.int v1, .int v2].toArray s = true := fun w h => atoms_spec (ws := Cond.code yJ0_checkIndex_df160 cJ0_checkIndex_df160 2 none :: bg) B.pre w (List.mem_cons_of_mem _ h)
  have hown : s.vm.findClass RJ0 = some m.cls := findClass_of_methodNamed B.named
  have hlocks := B.notSynchronized
  subst hsz
  have hD := hD0.self (sz := s.heap.size)
  generalize hAe : va_A [] s.heap.size = A at hD hE ⊢
  have hA : ∀ q : Nat, s.heap.size ≤ q → A q := fun q h => by rw [← hAe]; exact Or.inr h
  have hS : va_S A s.heap s.heap [] := va_S.rf
  have hl := lv_entry ([.int v1, .int v2]) (n := 2) (Nat.le_of_ble_eq_true rfl)
  rw [lg_entry_eq]
  generalize (lg_sl ([.int v1, .int v2]) ++ List.replicate (2 - (lg_sl ([.int v1, .int v2])).length) Slot.unset).toArray = ls at hl ⊢
  change lv_has ls 2 [(0, .int v1), (1, .int v2)] at hl
  clear hD0 hAe
  refine go0 (wsP := fun H => va_P (dC, dI) vwCl [] H) hP hS ?_
  clear hP hS; intro H locs hP hS
  change va_P (dC, dI) vwCl [] H at hP
  refine lv_iload_n hx hb dJ0_checkIndex_df160_0 rfl (lv_at hl 0 rfl) ?_
  refine lv_iload_n hx hb dJ0_checkIndex_df160_1 rfl (lv_at hl 1 rfl) ?_
  refine va_gets hx hb hE.2.2 hS hown (htb _ m_874) (fun _ h9 => h9) dJ0_checkIndex_df160_2 ?_
  have hPc := hP.sub (ws' := []) [] rfl
  have hDc := hD.sub (ws' := []) [] (by decide) rfl
  have hKc := hK.sub (tys' := []) [] rfl
  have hFc := va_free (wc := []) hD hS hA [] rfl
  refine va_calli (va_runS (As := [.int v1, .int v2, .null]) (rest := []) ⟨hx, hb, hml, hown, htb⟩ (kJ3_checkIndex_8e157_n l dC dI H.size v1 v2 yv) ⟨callB_of 3 htb (gd_c m_878) rfl rfl rfl (htb _ m_18) (htb _ m_876) hdJ3_checkIndex_8e157 ⟨(Nat.le_of_ble_eq_true rfl), (Nat.le_of_ble_eq_true rfl)⟩, htb _ m_877⟩ ⟨pcW_blind, pcW_at hPc hKc hDc hN⟩ rfl rfl hl.1 rfl (lv_room (Nat.le_of_ble_eq_true rfl)) dJ0_checkIndex_df160_5 ⟨(Nat.le_of_ble_eq_true rfl), (Nat.le_of_ble_eq_true rfl)⟩) hS (fun q _ h => hFc q h) hFc (fun r_1 u t H1 locs1 ht hvm h_2 hB hz1 hk1 hS1 => ?_)
  obtain ⟨hP1, hK1, hD1⟩ := hB
  rw [ht] at hP1
  obtain ⟨hPn, hDn⟩ := va_join (wr := []) (w1 := []) hP hD [] [] rfl rfl (by decide) (by decide) hk1 hFc hP1 hD1
  clear hP1 hD1 hK1
  clear hP hD hS hPc hDc hKc hFc hk1 hz1 ht hvm
  clear t
  revert hS1 hPn hDn; generalize H1 = H; generalize locs1 = locs; intro hS hP hD
  change va_P (dC, dI) vwCl [] H at hP
  change va_D A [] at hD
  refine lv_pop hx hb dJ0_checkIndex_df160_8 rfl ?_
  refine W.widen (k := 0) (n := 0) (Nat.le_of_ble_eq_true rfl) (Nat.le_of_ble_eq_true rfl) ?_
  have hP9 := hP.sub (ws' := []) [] rfl
  have hD9 := hD.sub (ws' := []) [] (by decide) rfl
  have hK9 := hK.sub (tys' := []) [] rfl
  exact W.vret hx hb hr (fun t ht hW => ⟨⟨(), rfl, trivial, ⟨by rw [ht]; exact hP9, va_K.moved hW.alike hK9, hD9⟩⟩, hS.F ht⟩) hS.2.2 dJ0_checkIndex_df160_9

set_option maxHeartbeats 4000000 in
set_option maxRecDepth 100000 in
theorem kJ0_checkIndex_df160_r (l : Launch) (dC : Nat → ClassId) (dI : Nat → Nat → Nat) (sz : Nat) (adK adV : Nat → Nat) (v1 : Int32) (v2 : Int32) (a9 : Nat) (yv : 0 ≤ v1.toInt ∧ v1.toInt < v2.toInt) : Met l yJ0_checkIndex_df160 (Cond.code yJ0_checkIndex_df160 cJ0_checkIndex_df160 2 none :: bg) ({ frames := 1, cells := 0, slots := 0, locals := 22 }) (pcS dC dI [.int v1, .int v2] sz [] [] adK adV (some a9)) (va_Qv (fun (u : Unit) => True) (fun (u : Unit) (t : State) => va_P (dC, dI) vwCl [] t.heap ∧ va_K (dC, dI) vwCl [] t ∧ va_D (va_A [] sz) []) (va_A [] sz)) 0 0 (va_A [] sz) := by
  refine Met.ofW (cc := cJ0_checkIndex_df160) (maxL := 2) (ret := none) pnJ0 rfl ?_
  intro p e s m args below meth c s₁ B hml hv
  obtain ⟨rfl, hsz, hP, hK, hD0, hN, hE, hR⟩ := hv
  have hx := B.exec
  have hb := B.bytes
  have hr := B.returns
  have htb : ∀ w ∈ bg, w.before [.int v1, .int v2].toArray s = true := fun w h => atoms_spec (ws := Cond.code yJ0_checkIndex_df160 cJ0_checkIndex_df160 2 none :: bg) B.pre w (List.mem_cons_of_mem _ h)
  have hown : s.vm.findClass RJ0 = some m.cls := findClass_of_methodNamed B.named
  have hlocks := B.notSynchronized
  subst hsz
  have hD := hD0.self (sz := s.heap.size)
  generalize hAe : va_A [] s.heap.size = A at hD hE ⊢
  have hA : ∀ q : Nat, s.heap.size ≤ q → A q := fun q h => by rw [← hAe]; exact Or.inr h
  have hS : va_S A s.heap s.heap [] := va_S.rf
  have hl := lv_entry ([.int v1, .int v2]) (n := 2) (Nat.le_of_ble_eq_true rfl)
  rw [lg_entry_eq]
  generalize (lg_sl ([.int v1, .int v2]) ++ List.replicate (2 - (lg_sl ([.int v1, .int v2])).length) Slot.unset).toArray = ls at hl ⊢
  change lv_has ls 2 [(0, .int v1), (1, .int v2)] at hl
  clear hD0 hAe
  refine go0 (wsP := fun H => va_P (dC, dI) vwCl [] H) hP hS ?_
  clear hP hS; intro H locs hP hS
  change va_P (dC, dI) vwCl [] H at hP
  refine lv_iload_n hx hb dJ0_checkIndex_df160_0 rfl (lv_at hl 0 rfl) ?_
  refine lv_iload_n hx hb dJ0_checkIndex_df160_1 rfl (lv_at hl 1 rfl) ?_
  refine va_gets hx hb hE.2.2 hS hown (htb _ m_874) (fun _ h9 => h9) dJ0_checkIndex_df160_2 ?_
  have hPc := hP.sub (ws' := []) [] rfl
  have hDc := hD.sub (ws' := []) [] (by decide) rfl
  have hKc := hK.sub (tys' := []) [] rfl
  have hFc := va_free (wc := []) hD hS hA [] rfl
  refine va_calli (va_runS (As := [.int v1, .int v2, .ref a9]) (rest := []) ⟨hx, hb, hml, hown, htb⟩ (kJ3_checkIndex_8e157_r l dC dI H.size v1 v2 a9 yv) ⟨callB_of 3 htb (gd_c m_878) rfl rfl rfl (htb _ m_18) (htb _ m_876) hdJ3_checkIndex_8e157 ⟨(Nat.le_of_ble_eq_true rfl), (Nat.le_of_ble_eq_true rfl)⟩, htb _ m_877⟩ ⟨pcW_blind, pcW_at hPc hKc hDc hN⟩ rfl rfl hl.1 rfl (lv_room (Nat.le_of_ble_eq_true rfl)) dJ0_checkIndex_df160_5 ⟨(Nat.le_of_ble_eq_true rfl), (Nat.le_of_ble_eq_true rfl)⟩) hS (fun q _ h => hFc q h) hFc (fun r_1 u t H1 locs1 ht hvm h_2 hB hz1 hk1 hS1 => ?_)
  obtain ⟨hP1, hK1, hD1⟩ := hB
  rw [ht] at hP1
  obtain ⟨hPn, hDn⟩ := va_join (wr := []) (w1 := []) hP hD [] [] rfl rfl (by decide) (by decide) hk1 hFc hP1 hD1
  clear hP1 hD1 hK1
  clear hP hD hS hPc hDc hKc hFc hk1 hz1 ht hvm
  clear t
  revert hS1 hPn hDn; generalize H1 = H; generalize locs1 = locs; intro hS hP hD
  change va_P (dC, dI) vwCl [] H at hP
  change va_D A [] at hD
  refine lv_pop hx hb dJ0_checkIndex_df160_8 rfl ?_
  refine W.widen (k := 0) (n := 0) (Nat.le_of_ble_eq_true rfl) (Nat.le_of_ble_eq_true rfl) ?_
  have hP9 := hP.sub (ws' := []) [] rfl
  have hD9 := hD.sub (ws' := []) [] (by decide) rfl
  have hK9 := hK.sub (tys' := []) [] rfl
  exact W.vret hx hb hr (fun t ht hW => ⟨⟨(), rfl, trivial, ⟨by rw [ht]; exact hP9, va_K.moved hW.alike hK9, hD9⟩⟩, hS.F ht⟩) hS.2.2 dJ0_checkIndex_df160_9

theorem kJ0_checkIndex_df160 (l : Launch) (dC : Nat → ClassId) (dI : Nat → Nat → Nat) (sz : Nat) (adK adV : Nat → Nat) (fm : Option Nat) (v1 : Int32) (v2 : Int32) (yv : 0 ≤ v1.toInt ∧ v1.toInt < v2.toInt) : Met l yJ0_checkIndex_df160 (Cond.code yJ0_checkIndex_df160 cJ0_checkIndex_df160 2 none :: bg) ({ frames := 1, cells := 0, slots := 0, locals := 22 }) (pcS dC dI [.int v1, .int v2] sz [] [] adK adV fm) (va_Qv (fun (u : Unit) => True) (fun (u : Unit) (t : State) => va_P (dC, dI) vwCl [] t.heap ∧ va_K (dC, dI) vwCl [] t ∧ va_D (va_A [] sz) []) (va_A [] sz)) 0 0 (va_A [] sz) := by
  cases fm with
  | none => exact kJ0_checkIndex_df160_n l dC dI sz adK adV v1 v2 yv
  | some a9 => exact kJ0_checkIndex_df160_r l dC dI sz adK adV v1 v2 a9 yv

theorem lg_J1_charAt_3b067_0 (i0 : Nat) (v1 : Int32) (x_1 : Int32) (hi0 : i0 < 13) (yv : 0 ≤ v1.toInt ∧ v1.toInt < ((stL.getD i0 0 : Nat) : Int)) (t_3 : x_1.toInt = ((stL.getD i0 0 : Nat) : Int) ∧ 2 ≤ ((stL.getD i0 0 : Nat) : Int) ∧ ((stL.getD i0 0 : Nat) : Int) ≤ 8) : 0 ≤ v1.toInt ∧ v1.toInt < x_1.toInt := by
  have := rg_rng v1; have := rg_rng x_1; omega
theorem lg_J1_charAt_3b067_1 (i0 : Nat) (v1 : Int32) (x_1 : Int32) (hi0 : i0 < 13) (yv : 0 ≤ v1.toInt ∧ v1.toInt < ((stL.getD i0 0 : Nat) : Int)) (t_3 : x_1.toInt = ((stL.getD i0 0 : Nat) : Int) ∧ 2 ≤ ((stL.getD i0 0 : Nat) : Int) ∧ ((stL.getD i0 0 : Nat) : Int) ≤ 8) : 0 ≤ v1.toInt ∧ v1.toInt < ((stL.getD i0 0 : Nat) : Int) := by
  have := rg_rng v1; have := rg_rng x_1; omega
set_option maxHeartbeats 4000000 in
set_option maxRecDepth 100000 in
theorem kJ1_charAt_3b067 (l : Launch) (dC : Nat → ClassId) (dI : Nat → Nat → Nat) (sz : Nat) (adK adV : Nat → Nat) (fm : Option Nat) (i0 : Nat) (v1 : Int32) (hi0 : i0 < 13) (yv : 0 ≤ v1.toInt ∧ v1.toInt < ((stL.getD i0 0 : Nat) : Int)) : Met l yJ1_charAt_3b067 (Cond.code yJ1_charAt_3b067 cJ1_charAt_3b067 2 (some .char) :: bg) ({ frames := 2, cells := 0, slots := 0, locals := 43 }) (pcS dC dI [.ref (adV i0), .int v1] sz [] [] adK adV fm) (va_Qi (fun (r : Int32) (u : Unit) => r = stC i0 (Int32.toNatClampNeg v1) &&& 255) (fun (u : Unit) (t : State) => va_P (dC, dI) vwCl [] t.heap ∧ va_K (dC, dI) vwCl [] t ∧ va_D (va_A [] sz) []) (va_A [] sz)) 0 0 (va_A [] sz) := by
  refine Met.ofW (cc := cJ1_charAt_3b067) (maxL := 2) (ret := (some .char)) pnJ1 rfl ?_
  intro p e s m args below meth c s₁ B hml hv
  obtain ⟨rfl, hsz, hP, hK, hD0, hN, hE, hR⟩ := hv
  have hx := B.exec
  have hb := B.bytes
  have hr := B.returns
  have htb : ∀ w ∈ bg, w.before [.ref (adV i0), .int v1].toArray s = true := fun w h => atoms_spec (ws := Cond.code yJ1_charAt_3b067 cJ1_charAt_3b067 2 (some .char) :: bg) B.pre w (List.mem_cons_of_mem _ h)
  have hown : s.vm.findClass RJ1 = some m.cls := findClass_of_methodNamed B.named
  have hlocks := B.notSynchronized
  subst hsz
  have hD := hD0.self (sz := s.heap.size)
  generalize hAe : va_A [] s.heap.size = A at hD hE ⊢
  have hA : ∀ q : Nat, s.heap.size ≤ q → A q := fun q h => by rw [← hAe]; exact Or.inr h
  have hS : va_S A s.heap s.heap [] := va_S.rf
  have hl := lv_entry ([.ref (adV i0), .int v1]) (n := 2) (Nat.le_of_ble_eq_true rfl)
  rw [lg_entry_eq]
  generalize (lg_sl ([.ref (adV i0), .int v1]) ++ List.replicate (2 - (lg_sl ([.ref (adV i0), .int v1])).length) Slot.unset).toArray = ls at hl ⊢
  change lv_has ls 2 [(0, .ref (adV i0)), (1, .int v1)] at hl
  clear hD0 hAe
  refine go0 (wsP := fun H => va_P (dC, dI) vwCl [] H) hP hS ?_
  clear hP hS; intro H locs hP hS
  change va_P (dC, dI) vwCl [] H at hP
  refine lv_iload_n hx hb dJ1_charAt_3b067_0 rfl (lv_at hl 1 rfl) ?_
  refine lv_aload_n hx hb dJ1_charAt_3b067_1 rfl (lv_at hl 0 rfl) ?_
  refine va_tlen hx hb (hE.1.1 _ hi0).2.2.2 hS rfl dJ1_charAt_3b067_2 ?_
  refine lv_topi (fun x_1 ex_2 => ?_)
  have t_3 : x_1.toInt = ((stL.getD i0 0 : Nat) : Int) ∧ 2 ≤ ((stL.getD i0 0 : Nat) : Int) ∧ ((stL.getD i0 0 : Nat) : Int) ≤ 8 := st_len hi0 ex_2
  have hPc := hP.sub (ws' := []) [] rfl
  have hDc := hD.sub (ws' := []) [] (by decide) rfl
  have hKc := hK.sub (tys' := []) [] rfl
  have hFc := va_free (wc := []) hD hS hA [] rfl
  refine va_callv (va_runS (As := [.int v1, .int x_1]) (rest := []) ⟨hx, hb, hml, hown, htb⟩ (kJ0_checkIndex_df160 l dC dI H.size adK adV fm v1 x_1 (lg_J1_charAt_3b067_0 i0 v1 x_1 hi0 yv t_3)) ⟨callB_of 2 htb (gd_c m_873) rfl rfl rfl (htb _ m_16) (htb _ m_871) hdJ0_checkIndex_df160 ⟨(Nat.le_of_ble_eq_true rfl), (Nat.le_of_ble_eq_true rfl)⟩, htb _ m_872⟩ ⟨pcS_blind, pcS_at hPc hKc hDc hN hE hR hS hFc⟩ rfl rfl hl.1 rfl (lv_room (Nat.le_of_ble_eq_true rfl)) dJ1_charAt_3b067_3 ⟨(Nat.le_of_ble_eq_true rfl), (Nat.le_of_ble_eq_true rfl)⟩) hS (fun q _ h => hFc q h) hFc (fun u t H1 locs1 ht hvm h_5 hB hz1 hk1 hS1 => ?_)
  obtain ⟨hP1, hK1, hD1⟩ := hB
  rw [ht] at hP1
  obtain ⟨hPn, hDn⟩ := va_join (wr := []) (w1 := []) hP hD [] [] rfl rfl (by decide) (by decide) hk1 hFc hP1 hD1
  clear hP1 hD1 hK1
  clear hP hD hS hPc hDc hKc hFc hk1 hz1 ht hvm
  clear t
  revert hS1 hPn hDn; generalize H1 = H; generalize locs1 = locs; intro hS hP hD
  change va_P (dC, dI) vwCl [] H at hP
  change va_D A [] at hD
  refine lv_aload_n hx hb dJ1_charAt_3b067_6 rfl (lv_at hl 0 rfl) ?_
  refine lv_iload_n hx hb dJ1_charAt_3b067_7 rfl (lv_at hl 1 rfl) ?_
  refine va_tb hx hb (hE.1.1 _ hi0).2.2.2 hS (i_in rfl (lg_J1_charAt_3b067_1 i0 v1 x_1 hi0 yv t_3)) rfl dJ1_charAt_3b067_8 ?_
  refine lv_topi (fun x_6 ex_7 => ?_)
  refine lv_sipush (v := 255) hx hb dJ1_charAt_3b067_9 (by decide) ?_
  refine lv_iand hx hb dJ1_charAt_3b067_12 ?_
  refine lv_topi (fun x_8 ex_9 => ?_)
  refine lv_i2c hx hb dJ1_charAt_3b067_13 rfl ?_
  refine lv_topi (fun x_10 ex_11 => ?_)
  refine W.widen (k := 0) (n := 0) (Nat.le_of_ble_eq_true rfl) (Nat.le_of_ble_eq_true rfl) ?_
  have hP9 := hP.sub (ws' := []) [] rfl
  have hD9 := hD.sub (ws' := []) [] (by decide) rfl
  have hK9 := hK.sub (tys' := []) [] rfl
  exact W.zret (ty := .char) (v := x_10) hx hb hr (by rw [ex_11, ex_9, sc_c2]; exact sc_nar _) (fun t ht hW => ⟨⟨x_10, (), rfl, (by rw [ex_11, ex_9, sc_c2, ex_7]; rfl), ⟨by rw [ht]; exact hP9, va_K.moved hW.alike hK9, hD9⟩⟩, hS.F ht⟩) hS.2.2 dJ1_charAt_3b067_14

set_option maxHeartbeats 4000000 in
set_option maxRecDepth 100000 in
theorem kJ0_charAt_5068e (l : Launch) (dC : Nat → ClassId) (dI : Nat → Nat → Nat) (sz : Nat) (adK adV : Nat → Nat) (fm : Option Nat) (i0 : Nat) (v1 : Int32) (hi0 : i0 < 13) (yv : 0 ≤ v1.toInt ∧ v1.toInt < ((stL.getD i0 0 : Nat) : Int)) : Met l yJ0_charAt_5068e (Cond.code yJ0_charAt_5068e cJ0_charAt_5068e 2 (some .char) :: bg) ({ frames := 3, cells := 0, slots := 0, locals := 64 }) (pcS dC dI [.ref (adK i0), .int v1] sz [] [] adK adV fm) (va_Qi (fun (r : Int32) (u : Unit) => r = stC i0 (Int32.toNatClampNeg v1) &&& 255) (fun (u : Unit) (t : State) => va_P (dC, dI) vwCl [] t.heap ∧ va_K (dC, dI) vwCl [] t ∧ va_D (va_A [] sz) []) (va_A [] sz)) 0 0 (va_A [] sz) := by
  refine Met.ofW (cc := cJ0_charAt_5068e) (maxL := 2) (ret := (some .char)) pnJ0 rfl ?_
  intro p e s m args below meth c s₁ B hml hv
  obtain ⟨rfl, hsz, hP, hK, hD0, hN, hE, hR⟩ := hv
  have hx := B.exec
  have hb := B.bytes
  have hr := B.returns
  have htb : ∀ w ∈ bg, w.before [.ref (adK i0), .int v1].toArray s = true := fun w h => atoms_spec (ws := Cond.code yJ0_charAt_5068e cJ0_charAt_5068e 2 (some .char) :: bg) B.pre w (List.mem_cons_of_mem _ h)
  have hown : s.vm.findClass RJ0 = some m.cls := findClass_of_methodNamed B.named
  have hlocks := B.notSynchronized
  subst hsz
  have hD := hD0.self (sz := s.heap.size)
  generalize hAe : va_A [] s.heap.size = A at hD hE ⊢
  have hA : ∀ q : Nat, s.heap.size ≤ q → A q := fun q h => by rw [← hAe]; exact Or.inr h
  have hS : va_S A s.heap s.heap [] := va_S.rf
  have hl := lv_entry ([.ref (adK i0), .int v1]) (n := 2) (Nat.le_of_ble_eq_true rfl)
  rw [lg_entry_eq]
  generalize (lg_sl ([.ref (adK i0), .int v1]) ++ List.replicate (2 - (lg_sl ([.ref (adK i0), .int v1])).length) Slot.unset).toArray = ls at hl ⊢
  change lv_has ls 2 [(0, .ref (adK i0)), (1, .int v1)] at hl
  clear hD0 hAe
  refine go0 (wsP := fun H => va_P (dC, dI) vwCl [] H) hP hS ?_
  clear hP hS; intro H locs hP hS
  change va_P (dC, dI) vwCl [] H at hP
  refine lv_aload_n hx hb dJ0_charAt_5068e_0 rfl (lv_at hl 0 rfl) ?_
  have hPc := hP.sub (ws' := []) [] rfl
  have hDc := hD.sub (ws' := []) [] (by decide) rfl
  have hKc := hK.sub (tys' := []) [] rfl
  have hFc := va_free (wc := []) hD hS hA [] rfl
  refine va_calli (va_runV (C := "java/lang/String") (As := []) (rest := []) ⟨hx, hb, hml, hown, htb⟩ (kJ0_isLatin1_aae02 l dC dI H.size adK adV fm i0 hi0) ⟨callB_of 0 htb (gd_c m_867) rfl rfl rfl (htb _ m_16) (htb _ m_864) hdJ0_isLatin1_aae02 ⟨(Nat.le_of_ble_eq_true rfl), (Nat.le_of_ble_eq_true rfl)⟩, htb _ m_865, htb _ m_866⟩ ⟨pcS_blind, vk_recv hE.1 hi0 hS, pcS_at hPc hKc hDc hN hE hR hS hFc⟩ rfl rfl hl.1 rfl (lv_room (Nat.le_of_ble_eq_true rfl)) dJ0_charAt_5068e_1 ⟨(Nat.le_of_ble_eq_true rfl), (Nat.le_of_ble_eq_true rfl)⟩) hS (fun q _ h => hFc q h) hFc (fun r_1 u t H1 locs1 ht hvm h_2 hB hz1 hk1 hS1 => ?_)
  obtain ⟨hP1, hK1, hD1⟩ := hB
  rw [ht] at hP1
  obtain ⟨hPn, hDn⟩ := va_join (wr := []) (w1 := []) hP hD [] [] rfl rfl (by decide) (by decide) hk1 hFc hP1 hD1
  clear hP1 hD1 hK1
  clear hP hD hS hPc hDc hKc hFc hk1 hz1 ht hvm
  clear t
  revert hS1 hPn hDn; generalize H1 = H; generalize locs1 = locs; intro hS hP hD
  change va_P (dC, dI) vwCl [] H at hP
  change va_D A [] at hD
  subst h_2
  refine lv_if_eq (tgt := 16) hx hb dJ0_charAt_5068e_4 (by decide) (fun c_3 => absurd c_3 (by decide)) ?_
  intro _
  refine lv_aload_n hx hb dJ0_charAt_5068e_7 rfl (lv_at hl 0 rfl) ?_
  refine vk_getf hx hb (hE.1.1 _ hi0).2.2.1 hS hown (htb _ m_1400) (fun _ h9 => h9) dJ0_charAt_5068e_8 ?_
  refine lv_iload_n hx hb dJ0_charAt_5068e_11 rfl (lv_at hl 1 rfl) ?_
  have hPc := hP.sub (ws' := []) [] rfl
  have hDc := hD.sub (ws' := []) [] (by decide) rfl
  have hKc := hK.sub (tys' := []) [] rfl
  have hFc := va_free (wc := []) hD hS hA [] rfl
  refine va_calli (va_runS (As := [.ref (adV i0), .int v1]) (rest := []) ⟨hx, hb, hml, hown, htb⟩ (kJ1_charAt_3b067 l dC dI H.size adK adV fm i0 v1 hi0 yv) ⟨callB_of 2 htb (gd_c m_870) rfl rfl rfl (htb _ m_17) (htb _ m_868) hdJ1_charAt_3b067 ⟨(Nat.le_of_ble_eq_true rfl), (Nat.le_of_ble_eq_true rfl)⟩, htb _ m_869⟩ ⟨pcS_blind, pcS_at hPc hKc hDc hN hE hR hS hFc⟩ rfl rfl hl.1 rfl (lv_room (Nat.le_of_ble_eq_true rfl)) dJ0_charAt_5068e_12 ⟨(Nat.le_of_ble_eq_true rfl), (Nat.le_of_ble_eq_true rfl)⟩) hS (fun q _ h => hFc q h) hFc (fun r_4 u t H1 locs1 ht hvm h_5 hB hz1 hk1 hS1 => ?_)
  obtain ⟨hP1, hK1, hD1⟩ := hB
  rw [ht] at hP1
  obtain ⟨hPn, hDn⟩ := va_join (wr := []) (w1 := []) hP hD [] [] rfl rfl (by decide) (by decide) hk1 hFc hP1 hD1
  clear hP1 hD1 hK1
  clear hP hD hS hPc hDc hKc hFc hk1 hz1 ht hvm
  clear t
  revert hS1 hPn hDn; generalize H1 = H; generalize locs1 = locs; intro hS hP hD
  change va_P (dC, dI) vwCl [] H at hP
  change va_D A [] at hD
  refine W.widen (k := 0) (n := 0) (Nat.le_of_ble_eq_true rfl) (Nat.le_of_ble_eq_true rfl) ?_
  have hP9 := hP.sub (ws' := []) [] rfl
  have hD9 := hD.sub (ws' := []) [] (by decide) rfl
  have hK9 := hK.sub (tys' := []) [] rfl
  exact W.zret (ty := .char) (v := r_4) hx hb hr (by rw [h_5]; exact sc_nar _) (fun t ht hW => ⟨⟨r_4, (), rfl, h_5, ⟨by rw [ht]; exact hP9, va_K.moved hW.alike hK9, hD9⟩⟩, hS.F ht⟩) hS.2.2 dJ0_charAt_5068e_15

theorem lg_X9_wordOf_0 (v1 : Int32) (yv : 0 ≤ v1.toInt ∧ v1.toInt ≤ 12) (t_2 : v1.toInt = 0) : v1.toInt = ((0 : Nat) : Int) := by
  have := rg_rng v1; omega
theorem lg_X9_wordOf_1 (v1 : Int32) (yv : 0 ≤ v1.toInt ∧ v1.toInt ≤ 12) (t_3 : ¬ v1.toInt = 0) (t_5 : v1.toInt = 1) : v1.toInt = ((1 : Nat) : Int) := by
  have := rg_rng v1; omega
theorem lg_X9_wordOf_2 (v1 : Int32) (yv : 0 ≤ v1.toInt ∧ v1.toInt ≤ 12) (t_3 : ¬ v1.toInt = 0) (t_6 : ¬ v1.toInt = 1) (t_8 : v1.toInt = 2) : v1.toInt = ((2 : Nat) : Int) := by
  have := rg_rng v1; omega
theorem lg_X9_wordOf_3 (v1 : Int32) (yv : 0 ≤ v1.toInt ∧ v1.toInt ≤ 12) (t_3 : ¬ v1.toInt = 0) (t_6 : ¬ v1.toInt = 1) (t_9 : ¬ v1.toInt = 2) (t_11 : v1.toInt = 3) : v1.toInt = ((3 : Nat) : Int) := by
  have := rg_rng v1; omega
theorem lg_X9_wordOf_4 (v1 : Int32) (yv : 0 ≤ v1.toInt ∧ v1.toInt ≤ 12) (t_3 : ¬ v1.toInt = 0) (t_6 : ¬ v1.toInt = 1) (t_9 : ¬ v1.toInt = 2) (t_12 : ¬ v1.toInt = 3) (t_14 : v1.toInt = 4) : v1.toInt = ((4 : Nat) : Int) := by
  have := rg_rng v1; omega
theorem lg_X9_wordOf_5 (v1 : Int32) (yv : 0 ≤ v1.toInt ∧ v1.toInt ≤ 12) (t_3 : ¬ v1.toInt = 0) (t_6 : ¬ v1.toInt = 1) (t_9 : ¬ v1.toInt = 2) (t_12 : ¬ v1.toInt = 3) (t_15 : ¬ v1.toInt = 4) (t_17 : v1.toInt = 5) : v1.toInt = ((5 : Nat) : Int) := by
  have := rg_rng v1; omega
theorem lg_X9_wordOf_6 (v1 : Int32) (yv : 0 ≤ v1.toInt ∧ v1.toInt ≤ 12) (t_3 : ¬ v1.toInt = 0) (t_6 : ¬ v1.toInt = 1) (t_9 : ¬ v1.toInt = 2) (t_12 : ¬ v1.toInt = 3) (t_15 : ¬ v1.toInt = 4) (t_18 : ¬ v1.toInt = 5) (t_20 : v1.toInt = 6) : v1.toInt = ((6 : Nat) : Int) := by
  have := rg_rng v1; omega
theorem lg_X9_wordOf_7 (v1 : Int32) (yv : 0 ≤ v1.toInt ∧ v1.toInt ≤ 12) (t_3 : ¬ v1.toInt = 0) (t_6 : ¬ v1.toInt = 1) (t_9 : ¬ v1.toInt = 2) (t_12 : ¬ v1.toInt = 3) (t_15 : ¬ v1.toInt = 4) (t_18 : ¬ v1.toInt = 5) (t_21 : ¬ v1.toInt = 6) (t_23 : v1.toInt = 7) : v1.toInt = ((7 : Nat) : Int) := by
  have := rg_rng v1; omega
theorem lg_X9_wordOf_8 (v1 : Int32) (yv : 0 ≤ v1.toInt ∧ v1.toInt ≤ 12) (t_3 : ¬ v1.toInt = 0) (t_6 : ¬ v1.toInt = 1) (t_9 : ¬ v1.toInt = 2) (t_12 : ¬ v1.toInt = 3) (t_15 : ¬ v1.toInt = 4) (t_18 : ¬ v1.toInt = 5) (t_21 : ¬ v1.toInt = 6) (t_24 : ¬ v1.toInt = 7) (t_26 : v1.toInt = 8) : v1.toInt = ((8 : Nat) : Int) := by
  have := rg_rng v1; omega
theorem lg_X9_wordOf_9 (v1 : Int32) (yv : 0 ≤ v1.toInt ∧ v1.toInt ≤ 12) (t_3 : ¬ v1.toInt = 0) (t_6 : ¬ v1.toInt = 1) (t_9 : ¬ v1.toInt = 2) (t_12 : ¬ v1.toInt = 3) (t_15 : ¬ v1.toInt = 4) (t_18 : ¬ v1.toInt = 5) (t_21 : ¬ v1.toInt = 6) (t_24 : ¬ v1.toInt = 7) (t_27 : ¬ v1.toInt = 8) (t_29 : v1.toInt = 9) : v1.toInt = ((9 : Nat) : Int) := by
  have := rg_rng v1; omega
theorem lg_X9_wordOf_10 (v1 : Int32) (yv : 0 ≤ v1.toInt ∧ v1.toInt ≤ 12) (t_3 : ¬ v1.toInt = 0) (t_6 : ¬ v1.toInt = 1) (t_9 : ¬ v1.toInt = 2) (t_12 : ¬ v1.toInt = 3) (t_15 : ¬ v1.toInt = 4) (t_18 : ¬ v1.toInt = 5) (t_21 : ¬ v1.toInt = 6) (t_24 : ¬ v1.toInt = 7) (t_27 : ¬ v1.toInt = 8) (t_30 : ¬ v1.toInt = 9) (t_32 : v1.toInt = 10) : v1.toInt = ((10 : Nat) : Int) := by
  have := rg_rng v1; omega
theorem lg_X9_wordOf_11 (v1 : Int32) (yv : 0 ≤ v1.toInt ∧ v1.toInt ≤ 12) (t_3 : ¬ v1.toInt = 0) (t_6 : ¬ v1.toInt = 1) (t_9 : ¬ v1.toInt = 2) (t_12 : ¬ v1.toInt = 3) (t_15 : ¬ v1.toInt = 4) (t_18 : ¬ v1.toInt = 5) (t_21 : ¬ v1.toInt = 6) (t_24 : ¬ v1.toInt = 7) (t_27 : ¬ v1.toInt = 8) (t_30 : ¬ v1.toInt = 9) (t_33 : ¬ v1.toInt = 10) (t_35 : v1.toInt = 11) : v1.toInt = ((11 : Nat) : Int) := by
  have := rg_rng v1; omega
theorem lg_X9_wordOf_12 (v1 : Int32) (yv : 0 ≤ v1.toInt ∧ v1.toInt ≤ 12) (t_3 : ¬ v1.toInt = 0) (t_6 : ¬ v1.toInt = 1) (t_9 : ¬ v1.toInt = 2) (t_12 : ¬ v1.toInt = 3) (t_15 : ¬ v1.toInt = 4) (t_18 : ¬ v1.toInt = 5) (t_21 : ¬ v1.toInt = 6) (t_24 : ¬ v1.toInt = 7) (t_27 : ¬ v1.toInt = 8) (t_30 : ¬ v1.toInt = 9) (t_33 : ¬ v1.toInt = 10) (t_36 : ¬ v1.toInt = 11) : v1.toInt = ((12 : Nat) : Int) := by
  have := rg_rng v1; omega
set_option maxHeartbeats 4000000 in
set_option maxRecDepth 100000 in
theorem kX9_wordOf (l : Launch) (dC : Nat → ClassId) (dI : Nat → Nat → Nat) (sz : Nat) (adK adV : Nat → Nat) (fm : Option Nat) (v1 : Int32) (yv : 0 ≤ v1.toInt ∧ v1.toInt ≤ 12) : Met l yX9_wordOf (Cond.code yX9_wordOf cX9_wordOf 1 (some (.object "java/lang/String")) :: bg) ({ frames := 0, cells := 0, slots := 0, locals := 0 }) (pcS dC dI [.int v1] sz [] [] adK adV fm) (va_Qr (fun (u : Unit) => True) (fun (u : Unit) (ra : Nat) (t : State) => ra = adK (Int32.toNatClampNeg v1) ∧ va_P (dC, dI) vwCl [] t.heap ∧ va_K (dC, dI) vwCl [] t ∧ va_D (va_A [] sz) []) (va_A [] sz)) 0 0 (va_A [] sz) := by
  refine Met.ofW (cc := cX9_wordOf) (maxL := 1) (ret := (some (.object "java/lang/String"))) pnX9 rfl ?_
  intro p e s m args below meth c s₁ B hml hv
  obtain ⟨rfl, hsz, hP, hK, hD0, hN, hE, hR⟩ := hv
  have hx := B.exec
  have hb := B.bytes
  have hr := B.returns
  have htb : ∀ w ∈ bg, w.before [.int v1].toArray s = true := fun w h => atoms_spec (ws := Cond.code yX9_wordOf cX9_wordOf 1 (some (.object "java/lang/String")) :: bg) B.pre w (List.mem_cons_of_mem _ h)
  have hown : s.vm.findClass RX9 = some m.cls := findClass_of_methodNamed B.named
  have hlocks := B.notSynchronized
  subst hsz
  have hD := hD0.self (sz := s.heap.size)
  generalize hAe : va_A [] s.heap.size = A at hD hE ⊢
  have hA : ∀ q : Nat, s.heap.size ≤ q → A q := fun q h => by rw [← hAe]; exact Or.inr h
  have hS : va_S A s.heap s.heap [] := va_S.rf
  have hl := lv_entry ([.int v1]) (n := 1) (Nat.le_of_ble_eq_true rfl)
  rw [lg_entry_eq]
  generalize (lg_sl ([.int v1]) ++ List.replicate (1 - (lg_sl ([.int v1])).length) Slot.unset).toArray = ls at hl ⊢
  change lv_has ls 1 [(0, .int v1)] at hl
  clear hD0 hAe
  refine go0 (wsP := fun H => va_P (dC, dI) vwCl [] H) hP hS ?_
  clear hP hS; intro H locs hP hS
  change va_P (dC, dI) vwCl [] H at hP
  refine lv_iload_n hx hb dX9_wordOf_0 rfl (lv_at hl 0 rfl) ?_
  by_cases e_1 : v1 = 0
  · have t_2 : v1.toInt = 0 := i_eq rfl (by decide) e_1
    refine lv_tableIn (tgt := 64) (off := 63) hx hb dX9_wordOf_1 (by rw [e_1]; decide) (by rw [e_1]; decide) (by rw [e_1]; rfl) (by decide) ?_
    refine va_ldcS hx hb hown (hR 0 (by decide)) dX9_wordOf_64 ?_
    refine W.widen (k := 0) (n := 0) (Nat.le_of_ble_eq_true rfl) (Nat.le_of_ble_eq_true rfl) ?_
    have hP9 := hP.sub (ws' := []) [] rfl
    have hD9 := hD.sub (ws' := []) [] (by decide) rfl
    have hK9 := hK.sub (tys' := []) [] rfl
    exact W.aret (v := .ref (adK 0)) hx hb hr (Or.inl ⟨_, rfl⟩) (Or.inr ⟨_, rfl⟩) (fun t ht hW => ⟨⟨(), _, rfl, trivial, (by rw [cl_n (n := 0) (lg_X9_wordOf_0 v1 yv t_2)]), by rw [ht]; exact hP9, va_K.moved hW.alike hK9, hD9⟩, hS.F ht⟩) hS.2.2 dX9_wordOf_66
  have t_3 : ¬ v1.toInt = 0 := i_ne rfl (by decide) e_1
  by_cases e_4 : v1 = 1
  · have t_5 : v1.toInt = 1 := i_eq rfl (by decide) e_4
    refine lv_tableIn (tgt := 67) (off := 66) hx hb dX9_wordOf_1 (by rw [e_4]; decide) (by rw [e_4]; decide) (by rw [e_4]; rfl) (by decide) ?_
    refine va_ldcS hx hb hown (hR 1 (by decide)) dX9_wordOf_67 ?_
    refine W.widen (k := 0) (n := 0) (Nat.le_of_ble_eq_true rfl) (Nat.le_of_ble_eq_true rfl) ?_
    have hP9 := hP.sub (ws' := []) [] rfl
    have hD9 := hD.sub (ws' := []) [] (by decide) rfl
    have hK9 := hK.sub (tys' := []) [] rfl
    exact W.aret (v := .ref (adK 1)) hx hb hr (Or.inl ⟨_, rfl⟩) (Or.inr ⟨_, rfl⟩) (fun t ht hW => ⟨⟨(), _, rfl, trivial, (by rw [cl_n (n := 1) (lg_X9_wordOf_1 v1 yv t_3 t_5)]), by rw [ht]; exact hP9, va_K.moved hW.alike hK9, hD9⟩, hS.F ht⟩) hS.2.2 dX9_wordOf_69
  have t_6 : ¬ v1.toInt = 1 := i_ne rfl (by decide) e_4
  by_cases e_7 : v1 = 2
  · have t_8 : v1.toInt = 2 := i_eq rfl (by decide) e_7
    refine lv_tableIn (tgt := 70) (off := 69) hx hb dX9_wordOf_1 (by rw [e_7]; decide) (by rw [e_7]; decide) (by rw [e_7]; rfl) (by decide) ?_
    refine va_ldcS hx hb hown (hR 2 (by decide)) dX9_wordOf_70 ?_
    refine W.widen (k := 0) (n := 0) (Nat.le_of_ble_eq_true rfl) (Nat.le_of_ble_eq_true rfl) ?_
    have hP9 := hP.sub (ws' := []) [] rfl
    have hD9 := hD.sub (ws' := []) [] (by decide) rfl
    have hK9 := hK.sub (tys' := []) [] rfl
    exact W.aret (v := .ref (adK 2)) hx hb hr (Or.inl ⟨_, rfl⟩) (Or.inr ⟨_, rfl⟩) (fun t ht hW => ⟨⟨(), _, rfl, trivial, (by rw [cl_n (n := 2) (lg_X9_wordOf_2 v1 yv t_3 t_6 t_8)]), by rw [ht]; exact hP9, va_K.moved hW.alike hK9, hD9⟩, hS.F ht⟩) hS.2.2 dX9_wordOf_72
  have t_9 : ¬ v1.toInt = 2 := i_ne rfl (by decide) e_7
  by_cases e_10 : v1 = 3
  · have t_11 : v1.toInt = 3 := i_eq rfl (by decide) e_10
    refine lv_tableIn (tgt := 73) (off := 72) hx hb dX9_wordOf_1 (by rw [e_10]; decide) (by rw [e_10]; decide) (by rw [e_10]; rfl) (by decide) ?_
    refine va_ldcS hx hb hown (hR 3 (by decide)) dX9_wordOf_73 ?_
    refine W.widen (k := 0) (n := 0) (Nat.le_of_ble_eq_true rfl) (Nat.le_of_ble_eq_true rfl) ?_
    have hP9 := hP.sub (ws' := []) [] rfl
    have hD9 := hD.sub (ws' := []) [] (by decide) rfl
    have hK9 := hK.sub (tys' := []) [] rfl
    exact W.aret (v := .ref (adK 3)) hx hb hr (Or.inl ⟨_, rfl⟩) (Or.inr ⟨_, rfl⟩) (fun t ht hW => ⟨⟨(), _, rfl, trivial, (by rw [cl_n (n := 3) (lg_X9_wordOf_3 v1 yv t_3 t_6 t_9 t_11)]), by rw [ht]; exact hP9, va_K.moved hW.alike hK9, hD9⟩, hS.F ht⟩) hS.2.2 dX9_wordOf_75
  have t_12 : ¬ v1.toInt = 3 := i_ne rfl (by decide) e_10
  by_cases e_13 : v1 = 4
  · have t_14 : v1.toInt = 4 := i_eq rfl (by decide) e_13
    refine lv_tableIn (tgt := 76) (off := 75) hx hb dX9_wordOf_1 (by rw [e_13]; decide) (by rw [e_13]; decide) (by rw [e_13]; rfl) (by decide) ?_
    refine va_ldcS hx hb hown (hR 4 (by decide)) dX9_wordOf_76 ?_
    refine W.widen (k := 0) (n := 0) (Nat.le_of_ble_eq_true rfl) (Nat.le_of_ble_eq_true rfl) ?_
    have hP9 := hP.sub (ws' := []) [] rfl
    have hD9 := hD.sub (ws' := []) [] (by decide) rfl
    have hK9 := hK.sub (tys' := []) [] rfl
    exact W.aret (v := .ref (adK 4)) hx hb hr (Or.inl ⟨_, rfl⟩) (Or.inr ⟨_, rfl⟩) (fun t ht hW => ⟨⟨(), _, rfl, trivial, (by rw [cl_n (n := 4) (lg_X9_wordOf_4 v1 yv t_3 t_6 t_9 t_12 t_14)]), by rw [ht]; exact hP9, va_K.moved hW.alike hK9, hD9⟩, hS.F ht⟩) hS.2.2 dX9_wordOf_78
  have t_15 : ¬ v1.toInt = 4 := i_ne rfl (by decide) e_13
  by_cases e_16 : v1 = 5
  · have t_17 : v1.toInt = 5 := i_eq rfl (by decide) e_16
    refine lv_tableIn (tgt := 79) (off := 78) hx hb dX9_wordOf_1 (by rw [e_16]; decide) (by rw [e_16]; decide) (by rw [e_16]; rfl) (by decide) ?_
    refine va_ldcS hx hb hown (hR 5 (by decide)) dX9_wordOf_79 ?_
    refine W.widen (k := 0) (n := 0) (Nat.le_of_ble_eq_true rfl) (Nat.le_of_ble_eq_true rfl) ?_
    have hP9 := hP.sub (ws' := []) [] rfl
    have hD9 := hD.sub (ws' := []) [] (by decide) rfl
    have hK9 := hK.sub (tys' := []) [] rfl
    exact W.aret (v := .ref (adK 5)) hx hb hr (Or.inl ⟨_, rfl⟩) (Or.inr ⟨_, rfl⟩) (fun t ht hW => ⟨⟨(), _, rfl, trivial, (by rw [cl_n (n := 5) (lg_X9_wordOf_5 v1 yv t_3 t_6 t_9 t_12 t_15 t_17)]), by rw [ht]; exact hP9, va_K.moved hW.alike hK9, hD9⟩, hS.F ht⟩) hS.2.2 dX9_wordOf_81
  have t_18 : ¬ v1.toInt = 5 := i_ne rfl (by decide) e_16
  by_cases e_19 : v1 = 6
  · have t_20 : v1.toInt = 6 := i_eq rfl (by decide) e_19
    refine lv_tableIn (tgt := 82) (off := 81) hx hb dX9_wordOf_1 (by rw [e_19]; decide) (by rw [e_19]; decide) (by rw [e_19]; rfl) (by decide) ?_
    refine va_ldcS hx hb hown (hR 6 (by decide)) dX9_wordOf_82 ?_
    refine W.widen (k := 0) (n := 0) (Nat.le_of_ble_eq_true rfl) (Nat.le_of_ble_eq_true rfl) ?_
    have hP9 := hP.sub (ws' := []) [] rfl
    have hD9 := hD.sub (ws' := []) [] (by decide) rfl
    have hK9 := hK.sub (tys' := []) [] rfl
    exact W.aret (v := .ref (adK 6)) hx hb hr (Or.inl ⟨_, rfl⟩) (Or.inr ⟨_, rfl⟩) (fun t ht hW => ⟨⟨(), _, rfl, trivial, (by rw [cl_n (n := 6) (lg_X9_wordOf_6 v1 yv t_3 t_6 t_9 t_12 t_15 t_18 t_20)]), by rw [ht]; exact hP9, va_K.moved hW.alike hK9, hD9⟩, hS.F ht⟩) hS.2.2 dX9_wordOf_84
  have t_21 : ¬ v1.toInt = 6 := i_ne rfl (by decide) e_19
  by_cases e_22 : v1 = 7
  · have t_23 : v1.toInt = 7 := i_eq rfl (by decide) e_22
    refine lv_tableIn (tgt := 85) (off := 84) hx hb dX9_wordOf_1 (by rw [e_22]; decide) (by rw [e_22]; decide) (by rw [e_22]; rfl) (by decide) ?_
    refine va_ldcS hx hb hown (hR 7 (by decide)) dX9_wordOf_85 ?_
    refine W.widen (k := 0) (n := 0) (Nat.le_of_ble_eq_true rfl) (Nat.le_of_ble_eq_true rfl) ?_
    have hP9 := hP.sub (ws' := []) [] rfl
    have hD9 := hD.sub (ws' := []) [] (by decide) rfl
    have hK9 := hK.sub (tys' := []) [] rfl
    exact W.aret (v := .ref (adK 7)) hx hb hr (Or.inl ⟨_, rfl⟩) (Or.inr ⟨_, rfl⟩) (fun t ht hW => ⟨⟨(), _, rfl, trivial, (by rw [cl_n (n := 7) (lg_X9_wordOf_7 v1 yv t_3 t_6 t_9 t_12 t_15 t_18 t_21 t_23)]), by rw [ht]; exact hP9, va_K.moved hW.alike hK9, hD9⟩, hS.F ht⟩) hS.2.2 dX9_wordOf_87
  have t_24 : ¬ v1.toInt = 7 := i_ne rfl (by decide) e_22
  by_cases e_25 : v1 = 8
  · have t_26 : v1.toInt = 8 := i_eq rfl (by decide) e_25
    refine lv_tableIn (tgt := 88) (off := 87) hx hb dX9_wordOf_1 (by rw [e_25]; decide) (by rw [e_25]; decide) (by rw [e_25]; rfl) (by decide) ?_
    refine va_ldcS hx hb hown (hR 8 (by decide)) dX9_wordOf_88 ?_
    refine W.widen (k := 0) (n := 0) (Nat.le_of_ble_eq_true rfl) (Nat.le_of_ble_eq_true rfl) ?_
    have hP9 := hP.sub (ws' := []) [] rfl
    have hD9 := hD.sub (ws' := []) [] (by decide) rfl
    have hK9 := hK.sub (tys' := []) [] rfl
    exact W.aret (v := .ref (adK 8)) hx hb hr (Or.inl ⟨_, rfl⟩) (Or.inr ⟨_, rfl⟩) (fun t ht hW => ⟨⟨(), _, rfl, trivial, (by rw [cl_n (n := 8) (lg_X9_wordOf_8 v1 yv t_3 t_6 t_9 t_12 t_15 t_18 t_21 t_24 t_26)]), by rw [ht]; exact hP9, va_K.moved hW.alike hK9, hD9⟩, hS.F ht⟩) hS.2.2 dX9_wordOf_90
  have t_27 : ¬ v1.toInt = 8 := i_ne rfl (by decide) e_25
  by_cases e_28 : v1 = 9
  · have t_29 : v1.toInt = 9 := i_eq rfl (by decide) e_28
    refine lv_tableIn (tgt := 91) (off := 90) hx hb dX9_wordOf_1 (by rw [e_28]; decide) (by rw [e_28]; decide) (by rw [e_28]; rfl) (by decide) ?_
    refine va_ldcS hx hb hown (hR 9 (by decide)) dX9_wordOf_91 ?_
    refine W.widen (k := 0) (n := 0) (Nat.le_of_ble_eq_true rfl) (Nat.le_of_ble_eq_true rfl) ?_
    have hP9 := hP.sub (ws' := []) [] rfl
    have hD9 := hD.sub (ws' := []) [] (by decide) rfl
    have hK9 := hK.sub (tys' := []) [] rfl
    exact W.aret (v := .ref (adK 9)) hx hb hr (Or.inl ⟨_, rfl⟩) (Or.inr ⟨_, rfl⟩) (fun t ht hW => ⟨⟨(), _, rfl, trivial, (by rw [cl_n (n := 9) (lg_X9_wordOf_9 v1 yv t_3 t_6 t_9 t_12 t_15 t_18 t_21 t_24 t_27 t_29)]), by rw [ht]; exact hP9, va_K.moved hW.alike hK9, hD9⟩, hS.F ht⟩) hS.2.2 dX9_wordOf_93
  have t_30 : ¬ v1.toInt = 9 := i_ne rfl (by decide) e_28
  by_cases e_31 : v1 = 10
  · have t_32 : v1.toInt = 10 := i_eq rfl (by decide) e_31
    refine lv_tableIn (tgt := 94) (off := 93) hx hb dX9_wordOf_1 (by rw [e_31]; decide) (by rw [e_31]; decide) (by rw [e_31]; rfl) (by decide) ?_
    refine va_ldcS hx hb hown (hR 10 (by decide)) dX9_wordOf_94 ?_
    refine W.widen (k := 0) (n := 0) (Nat.le_of_ble_eq_true rfl) (Nat.le_of_ble_eq_true rfl) ?_
    have hP9 := hP.sub (ws' := []) [] rfl
    have hD9 := hD.sub (ws' := []) [] (by decide) rfl
    have hK9 := hK.sub (tys' := []) [] rfl
    exact W.aret (v := .ref (adK 10)) hx hb hr (Or.inl ⟨_, rfl⟩) (Or.inr ⟨_, rfl⟩) (fun t ht hW => ⟨⟨(), _, rfl, trivial, (by rw [cl_n (n := 10) (lg_X9_wordOf_10 v1 yv t_3 t_6 t_9 t_12 t_15 t_18 t_21 t_24 t_27 t_30 t_32)]), by rw [ht]; exact hP9, va_K.moved hW.alike hK9, hD9⟩, hS.F ht⟩) hS.2.2 dX9_wordOf_96
  have t_33 : ¬ v1.toInt = 10 := i_ne rfl (by decide) e_31
  by_cases e_34 : v1 = 11
  · have t_35 : v1.toInt = 11 := i_eq rfl (by decide) e_34
    refine lv_tableIn (tgt := 97) (off := 96) hx hb dX9_wordOf_1 (by rw [e_34]; decide) (by rw [e_34]; decide) (by rw [e_34]; rfl) (by decide) ?_
    refine va_ldcS hx hb hown (hR 11 (by decide)) dX9_wordOf_97 ?_
    refine W.widen (k := 0) (n := 0) (Nat.le_of_ble_eq_true rfl) (Nat.le_of_ble_eq_true rfl) ?_
    have hP9 := hP.sub (ws' := []) [] rfl
    have hD9 := hD.sub (ws' := []) [] (by decide) rfl
    have hK9 := hK.sub (tys' := []) [] rfl
    exact W.aret (v := .ref (adK 11)) hx hb hr (Or.inl ⟨_, rfl⟩) (Or.inr ⟨_, rfl⟩) (fun t ht hW => ⟨⟨(), _, rfl, trivial, (by rw [cl_n (n := 11) (lg_X9_wordOf_11 v1 yv t_3 t_6 t_9 t_12 t_15 t_18 t_21 t_24 t_27 t_30 t_33 t_35)]), by rw [ht]; exact hP9, va_K.moved hW.alike hK9, hD9⟩, hS.F ht⟩) hS.2.2 dX9_wordOf_99
  have t_36 : ¬ v1.toInt = 11 := i_ne rfl (by decide) e_34
  refine lv_tableOut (tgt := 100) hx hb dX9_wordOf_1 (by have := lv_neT e_1 (a := 0) (by decide); have := lv_neT e_4 (a := 1) (by decide); have := lv_neT e_7 (a := 2) (by decide); have := lv_neT e_10 (a := 3) (by decide); have := lv_neT e_13 (a := 4) (by decide); have := lv_neT e_16 (a := 5) (by decide); have := lv_neT e_19 (a := 6) (by decide); have := lv_neT e_22 (a := 7) (by decide); have := lv_neT e_25 (a := 8) (by decide); have := lv_neT e_28 (a := 9) (by decide); have := lv_neT e_31 (a := 10) (by decide); have := lv_neT e_34 (a := 11) (by decide); omega) (by decide) ?_
  refine va_ldcS hx hb hown (hR 12 (by decide)) dX9_wordOf_100 ?_
  refine W.widen (k := 0) (n := 0) (Nat.le_of_ble_eq_true rfl) (Nat.le_of_ble_eq_true rfl) ?_
  have hP9 := hP.sub (ws' := []) [] rfl
  have hD9 := hD.sub (ws' := []) [] (by decide) rfl
  have hK9 := hK.sub (tys' := []) [] rfl
  exact W.aret (v := .ref (adK 12)) hx hb hr (Or.inl ⟨_, rfl⟩) (Or.inr ⟨_, rfl⟩) (fun t ht hW => ⟨⟨(), _, rfl, trivial, (by rw [cl_n (n := 12) (lg_X9_wordOf_12 v1 yv t_3 t_6 t_9 t_12 t_15 t_18 t_21 t_24 t_27 t_30 t_33 t_36)]), by rw [ht]; exact hP9, va_K.moved hW.alike hK9, hD9⟩, hS.F ht⟩) hS.2.2 dX9_wordOf_102

theorem lg_X9_isSpeltAt_0 (n_ta : Int32) (n_to : Int32) (n_tl : Int32) (v1 : Int32) (i0 : Nat) (r_1 : Int32) (hi0 : i0 < 13) (yq : 0 ≤ n_ta.toInt ∧ n_ta.toInt ≤ 600 ∧ 0 ≤ n_to.toInt ∧ n_to.toInt ≤ 600 ∧ 0 ≤ n_tl.toInt ∧ n_tl.toInt ≤ 600) (yv : 0 ≤ v1.toInt ∧ v1.toInt < n_tl.toInt) (h_2 : r_1.toInt = ((stL.getD i0 0 : Nat) : Int) ∧ 2 ≤ ((stL.getD i0 0 : Nat) : Int) ∧ ((stL.getD i0 0 : Nat) : Int) ≤ 8) : -2147483648 ≤ v1.toInt + r_1.toInt ∧ v1.toInt + r_1.toInt < 2147483648 := by
  have := rg_rng n_ta; have := rg_rng n_to; have := rg_rng n_tl; have := rg_rng v1; have := rg_rng r_1; omega
theorem lg_X9_isSpeltAt_1 (n_ta : Int32) (n_to : Int32) (n_tl : Int32) (v1 : Int32) (i0 : Nat) (r_1 : Int32) (x_3 : Int32) (hi0 : i0 < 13) (yq : 0 ≤ n_ta.toInt ∧ n_ta.toInt ≤ 600 ∧ 0 ≤ n_to.toInt ∧ n_to.toInt ≤ 600 ∧ 0 ≤ n_tl.toInt ∧ n_tl.toInt ≤ 600) (yv : 0 ≤ v1.toInt ∧ v1.toInt < n_tl.toInt) (h_2 : r_1.toInt = ((stL.getD i0 0 : Nat) : Int) ∧ 2 ≤ ((stL.getD i0 0 : Nat) : Int) ∧ ((stL.getD i0 0 : Nat) : Int) ≤ 8) (t_5 : x_3.toInt = v1.toInt + r_1.toInt) (t_7 : v1.toInt < (0 : Int)) : 0 ≤ n_tl.toInt ∧ 0 ≤ v1.toInt ∧ n_tl.toInt < v1.toInt + ((stL.getD i0 0 : Nat) : Int) := by
  have := rg_rng n_ta; have := rg_rng n_to; have := rg_rng n_tl; have := rg_rng v1; have := rg_rng r_1; have := rg_rng x_3; omega
theorem lg_X9_isSpeltAt_2 (n_ta : Int32) (n_to : Int32) (n_tl : Int32) (v1 : Int32) (i0 : Nat) (r_1 : Int32) (x_3 : Int32) (hi0 : i0 < 13) (yq : 0 ≤ n_ta.toInt ∧ n_ta.toInt ≤ 600 ∧ 0 ≤ n_to.toInt ∧ n_to.toInt ≤ 600 ∧ 0 ≤ n_tl.toInt ∧ n_tl.toInt ≤ 600) (yv : 0 ≤ v1.toInt ∧ v1.toInt < n_tl.toInt) (h_2 : r_1.toInt = ((stL.getD i0 0 : Nat) : Int) ∧ 2 ≤ ((stL.getD i0 0 : Nat) : Int) ∧ ((stL.getD i0 0 : Nat) : Int) ≤ 8) (t_5 : x_3.toInt = v1.toInt + r_1.toInt) (t_7 : (0 : Int) ≤ v1.toInt) (t_9 : n_tl.toInt < x_3.toInt) : 0 ≤ n_tl.toInt ∧ 0 ≤ v1.toInt ∧ n_tl.toInt < v1.toInt + ((stL.getD i0 0 : Nat) : Int) := by
  have := rg_rng n_ta; have := rg_rng n_to; have := rg_rng n_tl; have := rg_rng v1; have := rg_rng r_1; have := rg_rng x_3; omega
theorem lg_X9_isSpeltAt_3 (n_ta : Int32) (n_to : Int32) (n_tl : Int32) (v1 : Int32) (i0 : Nat) (r_1 : Int32) (x_3 : Int32) (hi0 : i0 < 13) (yq : 0 ≤ n_ta.toInt ∧ n_ta.toInt ≤ 600 ∧ 0 ≤ n_to.toInt ∧ n_to.toInt ≤ 600 ∧ 0 ≤ n_tl.toInt ∧ n_tl.toInt ≤ 600) (yv : 0 ≤ v1.toInt ∧ v1.toInt < n_tl.toInt) (h_2 : r_1.toInt = ((stL.getD i0 0 : Nat) : Int) ∧ 2 ≤ ((stL.getD i0 0 : Nat) : Int) ∧ ((stL.getD i0 0 : Nat) : Int) ≤ 8) (t_5 : x_3.toInt = v1.toInt + r_1.toInt) (t_7 : (0 : Int) ≤ v1.toInt) (t_9 : x_3.toInt ≤ n_tl.toInt) : 0 ≤ v1.toInt ∧ x_3.toInt = v1.toInt + ((stL.getD i0 0 : Nat) : Int) := by
  have := rg_rng n_ta; have := rg_rng n_to; have := rg_rng n_tl; have := rg_rng v1; have := rg_rng r_1; have := rg_rng x_3; omega
theorem lg_X9_isSpeltAt_4 (n_ta : Int32) (n_to : Int32) (n_tl : Int32) (v1 : Int32) (i0 : Nat) (r_1 : Int32) (x_3 : Int32) (hi0 : i0 < 13) (yq : 0 ≤ n_ta.toInt ∧ n_ta.toInt ≤ 600 ∧ 0 ≤ n_to.toInt ∧ n_to.toInt ≤ 600 ∧ 0 ≤ n_tl.toInt ∧ n_tl.toInt ≤ 600) (yv : 0 ≤ v1.toInt ∧ v1.toInt < n_tl.toInt) (h_2 : r_1.toInt = ((stL.getD i0 0 : Nat) : Int) ∧ 2 ≤ ((stL.getD i0 0 : Nat) : Int) ∧ ((stL.getD i0 0 : Nat) : Int) ≤ 8) (t_5 : x_3.toInt = v1.toInt + r_1.toInt) (t_7 : (0 : Int) ≤ v1.toInt) (t_9 : x_3.toInt ≤ n_tl.toInt) (t_10 : (Int32.toNatClampNeg x_3) = (Int32.toNatClampNeg v1) + stL.getD i0 0) : 0 ≤ x_3.toInt := by
  have := rg_rng n_ta; have := rg_rng n_to; have := rg_rng n_tl; have := rg_rng v1; have := rg_rng r_1; have := rg_rng x_3; omega
theorem lg_X9_isSpeltAt_5 (n_ta : Int32) (n_to : Int32) (n_tl : Int32) (f_bytes : Nat → Int32) (v1 : Int32) (i0 : Nat) (r_1 : Int32) (x_3 : Int32) (r_11 : Int32) (hi0 : i0 < 13) (yq : 0 ≤ n_ta.toInt ∧ n_ta.toInt ≤ 600 ∧ 0 ≤ n_to.toInt ∧ n_to.toInt ≤ 600 ∧ 0 ≤ n_tl.toInt ∧ n_tl.toInt ≤ 600) (yv : 0 ≤ v1.toInt ∧ v1.toInt < n_tl.toInt) (h_2 : r_1.toInt = ((stL.getD i0 0 : Nat) : Int) ∧ 2 ≤ ((stL.getD i0 0 : Nat) : Int) ∧ ((stL.getD i0 0 : Nat) : Int) ≤ 8) (t_5 : x_3.toInt = v1.toInt + r_1.toInt) (t_7 : (0 : Int) ≤ v1.toInt) (t_9 : x_3.toInt ≤ n_tl.toInt) (t_10 : (Int32.toNatClampNeg x_3) = (Int32.toNatClampNeg v1) + stL.getD i0 0) (h_12 : r_11.toInt = kdN f_bytes (Int32.toNatClampNeg n_tl) (Int32.toNatClampNeg x_3) ∧ 0 ≤ r_11.toInt ∧ r_11.toInt ≤ 3) (t_14 : ¬ r_11.toInt = (0 : Int)) : (((stL.getD i0 0 : Nat) : Int) - (0 : Int)) < ((Int.toNat (((stL.getD i0 0 : Nat) : Int) - (0 : Int)) + 1 : Nat) : Int) := by
  have := rg_rng n_ta; have := rg_rng n_to; have := rg_rng n_tl; have := rg_rng v1; have := rg_rng r_1; have := rg_rng x_3; have := rg_rng r_11; omega
theorem lg_X9_isSpeltAt_6 (n_ta : Int32) (n_to : Int32) (n_tl : Int32) (f_bytes : Nat → Int32) (v1 : Int32) (i0 : Nat) (r_1 : Int32) (x_3 : Int32) (r_11 : Int32) (hi0 : i0 < 13) (yq : 0 ≤ n_ta.toInt ∧ n_ta.toInt ≤ 600 ∧ 0 ≤ n_to.toInt ∧ n_to.toInt ≤ 600 ∧ 0 ≤ n_tl.toInt ∧ n_tl.toInt ≤ 600) (yv : 0 ≤ v1.toInt ∧ v1.toInt < n_tl.toInt) (h_2 : r_1.toInt = ((stL.getD i0 0 : Nat) : Int) ∧ 2 ≤ ((stL.getD i0 0 : Nat) : Int) ∧ ((stL.getD i0 0 : Nat) : Int) ≤ 8) (t_5 : x_3.toInt = v1.toInt + r_1.toInt) (t_7 : (0 : Int) ≤ v1.toInt) (t_9 : x_3.toInt ≤ n_tl.toInt) (t_10 : (Int32.toNatClampNeg x_3) = (Int32.toNatClampNeg v1) + stL.getD i0 0) (h_12 : r_11.toInt = kdN f_bytes (Int32.toNatClampNeg n_tl) (Int32.toNatClampNeg x_3) ∧ 0 ≤ r_11.toInt ∧ r_11.toInt ≤ 3) (t_14 : ¬ r_11.toInt = (0 : Int)) : 0 ≤ (0 : Int) ∧ (0 : Int) ≤ ((stL.getD i0 0 : Nat) : Int) := by
  have := rg_rng n_ta; have := rg_rng n_to; have := rg_rng n_tl; have := rg_rng v1; have := rg_rng r_1; have := rg_rng x_3; have := rg_rng r_11; omega
theorem lg_X9_isSpeltAt_7 (n_ta : Int32) (n_to : Int32) (n_tl : Int32) (f_bytes : Nat → Int32) (v1 : Int32) (i0 : Nat) (r_1 : Int32) (x_3 : Int32) (r_11 : Int32) (i_15 : Int32) (hi0 : i0 < 13) (yq : 0 ≤ n_ta.toInt ∧ n_ta.toInt ≤ 600 ∧ 0 ≤ n_to.toInt ∧ n_to.toInt ≤ 600 ∧ 0 ≤ n_tl.toInt ∧ n_tl.toInt ≤ 600) (yv : 0 ≤ v1.toInt ∧ v1.toInt < n_tl.toInt) (h_2 : r_1.toInt = ((stL.getD i0 0 : Nat) : Int) ∧ 2 ≤ ((stL.getD i0 0 : Nat) : Int) ∧ ((stL.getD i0 0 : Nat) : Int) ≤ 8) (t_5 : x_3.toInt = v1.toInt + r_1.toInt) (t_7 : (0 : Int) ≤ v1.toInt) (t_9 : x_3.toInt ≤ n_tl.toInt) (t_10 : (Int32.toNatClampNeg x_3) = (Int32.toNatClampNeg v1) + stL.getD i0 0) (h_12 : r_11.toInt = kdN f_bytes (Int32.toNatClampNeg n_tl) (Int32.toNatClampNeg x_3) ∧ 0 ≤ r_11.toInt ∧ r_11.toInt ≤ 3) (t_14 : ¬ r_11.toInt = (0 : Int)) (hi15_0 : 0 ≤ i_15.toInt ∧ i_15.toInt ≤ ((stL.getD i0 0 : Nat) : Int)) (hmu15 : (((stL.getD i0 0 : Nat) : Int) - i_15.toInt) < ((0 : Nat) : Int)) : False := by
  have := rg_rng n_ta; have := rg_rng n_to; have := rg_rng n_tl; have := rg_rng v1; have := rg_rng r_1; have := rg_rng x_3; have := rg_rng r_11; have := rg_rng i_15; omega
theorem lg_X9_isSpeltAt_8 (n_ta : Int32) (n_to : Int32) (n_tl : Int32) (f_bytes : Nat → Int32) (v1 : Int32) (i0 : Nat) (r_1 : Int32) (x_3 : Int32) (r_11 : Int32) (i_15 : Int32) (n15 : Nat) (r_16 : Int32) (hi0 : i0 < 13) (yq : 0 ≤ n_ta.toInt ∧ n_ta.toInt ≤ 600 ∧ 0 ≤ n_to.toInt ∧ n_to.toInt ≤ 600 ∧ 0 ≤ n_tl.toInt ∧ n_tl.toInt ≤ 600) (yv : 0 ≤ v1.toInt ∧ v1.toInt < n_tl.toInt) (h_2 : r_1.toInt = ((stL.getD i0 0 : Nat) : Int) ∧ 2 ≤ ((stL.getD i0 0 : Nat) : Int) ∧ ((stL.getD i0 0 : Nat) : Int) ≤ 8) (t_5 : x_3.toInt = v1.toInt + r_1.toInt) (t_7 : (0 : Int) ≤ v1.toInt) (t_9 : x_3.toInt ≤ n_tl.toInt) (t_10 : (Int32.toNatClampNeg x_3) = (Int32.toNatClampNeg v1) + stL.getD i0 0) (h_12 : r_11.toInt = kdN f_bytes (Int32.toNatClampNeg n_tl) (Int32.toNatClampNeg x_3) ∧ 0 ≤ r_11.toInt ∧ r_11.toInt ≤ 3) (t_14 : ¬ r_11.toInt = (0 : Int)) (hi15_0 : 0 ≤ i_15.toInt ∧ i_15.toInt ≤ ((stL.getD i0 0 : Nat) : Int)) (hmu15 : (((stL.getD i0 0 : Nat) : Int) - i_15.toInt) < ((n15 + 1 : Nat) : Int)) (h_17 : r_16.toInt = ((stL.getD i0 0 : Nat) : Int) ∧ 2 ≤ ((stL.getD i0 0 : Nat) : Int) ∧ ((stL.getD i0 0 : Nat) : Int) ≤ 8) (t_19 : r_16.toInt ≤ i_15.toInt) : i_15.toInt = ((stL.getD i0 0 : Nat) : Int) := by
  have := rg_rng n_ta; have := rg_rng n_to; have := rg_rng n_tl; have := rg_rng v1; have := rg_rng r_1; have := rg_rng x_3; have := rg_rng r_11; have := rg_rng i_15; have := rg_rng r_16; omega
theorem lg_X9_isSpeltAt_9 (n_ta : Int32) (n_to : Int32) (n_tl : Int32) (f_bytes : Nat → Int32) (v1 : Int32) (i0 : Nat) (r_1 : Int32) (x_3 : Int32) (r_11 : Int32) (i_15 : Int32) (n15 : Nat) (r_16 : Int32) (hi0 : i0 < 13) (yq : 0 ≤ n_ta.toInt ∧ n_ta.toInt ≤ 600 ∧ 0 ≤ n_to.toInt ∧ n_to.toInt ≤ 600 ∧ 0 ≤ n_tl.toInt ∧ n_tl.toInt ≤ 600) (yv : 0 ≤ v1.toInt ∧ v1.toInt < n_tl.toInt) (h_2 : r_1.toInt = ((stL.getD i0 0 : Nat) : Int) ∧ 2 ≤ ((stL.getD i0 0 : Nat) : Int) ∧ ((stL.getD i0 0 : Nat) : Int) ≤ 8) (t_5 : x_3.toInt = v1.toInt + r_1.toInt) (t_7 : (0 : Int) ≤ v1.toInt) (t_9 : x_3.toInt ≤ n_tl.toInt) (t_10 : (Int32.toNatClampNeg x_3) = (Int32.toNatClampNeg v1) + stL.getD i0 0) (h_12 : r_11.toInt = kdN f_bytes (Int32.toNatClampNeg n_tl) (Int32.toNatClampNeg x_3) ∧ 0 ≤ r_11.toInt ∧ r_11.toInt ≤ 3) (t_14 : ¬ r_11.toInt = (0 : Int)) (hi15_0 : 0 ≤ i_15.toInt ∧ i_15.toInt ≤ ((stL.getD i0 0 : Nat) : Int)) (hmu15 : (((stL.getD i0 0 : Nat) : Int) - i_15.toInt) < ((n15 + 1 : Nat) : Int)) (h_17 : r_16.toInt = ((stL.getD i0 0 : Nat) : Int) ∧ 2 ≤ ((stL.getD i0 0 : Nat) : Int) ∧ ((stL.getD i0 0 : Nat) : Int) ≤ 8) (t_19 : r_16.toInt ≤ i_15.toInt) : 0 ≤ n_tl.toInt ∧ 0 ≤ x_3.toInt ∧ x_3.toInt ≤ n_tl.toInt := by
  have := rg_rng n_ta; have := rg_rng n_to; have := rg_rng n_tl; have := rg_rng v1; have := rg_rng r_1; have := rg_rng x_3; have := rg_rng r_11; have := rg_rng i_15; have := rg_rng r_16; omega
theorem lg_X9_isSpeltAt_10 (n_ta : Int32) (n_to : Int32) (n_tl : Int32) (f_bytes : Nat → Int32) (v1 : Int32) (i0 : Nat) (r_1 : Int32) (x_3 : Int32) (r_11 : Int32) (i_15 : Int32) (n15 : Nat) (r_16 : Int32) (hi0 : i0 < 13) (yq : 0 ≤ n_ta.toInt ∧ n_ta.toInt ≤ 600 ∧ 0 ≤ n_to.toInt ∧ n_to.toInt ≤ 600 ∧ 0 ≤ n_tl.toInt ∧ n_tl.toInt ≤ 600) (yv : 0 ≤ v1.toInt ∧ v1.toInt < n_tl.toInt) (h_2 : r_1.toInt = ((stL.getD i0 0 : Nat) : Int) ∧ 2 ≤ ((stL.getD i0 0 : Nat) : Int) ∧ ((stL.getD i0 0 : Nat) : Int) ≤ 8) (t_5 : x_3.toInt = v1.toInt + r_1.toInt) (t_7 : (0 : Int) ≤ v1.toInt) (t_9 : x_3.toInt ≤ n_tl.toInt) (t_10 : (Int32.toNatClampNeg x_3) = (Int32.toNatClampNeg v1) + stL.getD i0 0) (h_12 : r_11.toInt = kdN f_bytes (Int32.toNatClampNeg n_tl) (Int32.toNatClampNeg x_3) ∧ 0 ≤ r_11.toInt ∧ r_11.toInt ≤ 3) (t_14 : ¬ r_11.toInt = (0 : Int)) (hi15_0 : 0 ≤ i_15.toInt ∧ i_15.toInt ≤ ((stL.getD i0 0 : Nat) : Int)) (hmu15 : (((stL.getD i0 0 : Nat) : Int) - i_15.toInt) < ((n15 + 1 : Nat) : Int)) (h_17 : r_16.toInt = ((stL.getD i0 0 : Nat) : Int) ∧ 2 ≤ ((stL.getD i0 0 : Nat) : Int) ∧ ((stL.getD i0 0 : Nat) : Int) ≤ 8) (t_19 : r_16.toInt ≤ i_15.toInt) : ¬ kdN f_bytes (Int32.toNatClampNeg n_tl) (Int32.toNatClampNeg x_3) = 0 := by
  have := rg_rng n_ta; have := rg_rng n_to; have := rg_rng n_tl; have := rg_rng v1; have := rg_rng r_1; have := rg_rng x_3; have := rg_rng r_11; have := rg_rng i_15; have := rg_rng r_16; omega
theorem lg_X9_isSpeltAt_11 (n_ta : Int32) (n_to : Int32) (n_tl : Int32) (f_bytes : Nat → Int32) (v1 : Int32) (i0 : Nat) (r_1 : Int32) (x_3 : Int32) (r_11 : Int32) (i_15 : Int32) (n15 : Nat) (r_16 : Int32) (hi0 : i0 < 13) (yq : 0 ≤ n_ta.toInt ∧ n_ta.toInt ≤ 600 ∧ 0 ≤ n_to.toInt ∧ n_to.toInt ≤ 600 ∧ 0 ≤ n_tl.toInt ∧ n_tl.toInt ≤ 600) (yv : 0 ≤ v1.toInt ∧ v1.toInt < n_tl.toInt) (h_2 : r_1.toInt = ((stL.getD i0 0 : Nat) : Int) ∧ 2 ≤ ((stL.getD i0 0 : Nat) : Int) ∧ ((stL.getD i0 0 : Nat) : Int) ≤ 8) (t_5 : x_3.toInt = v1.toInt + r_1.toInt) (t_7 : (0 : Int) ≤ v1.toInt) (t_9 : x_3.toInt ≤ n_tl.toInt) (t_10 : (Int32.toNatClampNeg x_3) = (Int32.toNatClampNeg v1) + stL.getD i0 0) (h_12 : r_11.toInt = kdN f_bytes (Int32.toNatClampNeg n_tl) (Int32.toNatClampNeg x_3) ∧ 0 ≤ r_11.toInt ∧ r_11.toInt ≤ 3) (t_14 : ¬ r_11.toInt = (0 : Int)) (hi15_0 : 0 ≤ i_15.toInt ∧ i_15.toInt ≤ ((stL.getD i0 0 : Nat) : Int)) (hmu15 : (((stL.getD i0 0 : Nat) : Int) - i_15.toInt) < ((n15 + 1 : Nat) : Int)) (h_17 : r_16.toInt = ((stL.getD i0 0 : Nat) : Int) ∧ 2 ≤ ((stL.getD i0 0 : Nat) : Int) ∧ ((stL.getD i0 0 : Nat) : Int) ≤ 8) (t_19 : i_15.toInt < r_16.toInt) : -2147483648 ≤ v1.toInt + i_15.toInt ∧ v1.toInt + i_15.toInt < 2147483648 := by
  have := rg_rng n_ta; have := rg_rng n_to; have := rg_rng n_tl; have := rg_rng v1; have := rg_rng r_1; have := rg_rng x_3; have := rg_rng r_11; have := rg_rng i_15; have := rg_rng r_16; omega
theorem lg_X9_isSpeltAt_12 (n_ta : Int32) (n_to : Int32) (n_tl : Int32) (f_bytes : Nat → Int32) (v1 : Int32) (i0 : Nat) (r_1 : Int32) (x_3 : Int32) (r_11 : Int32) (i_15 : Int32) (n15 : Nat) (r_16 : Int32) (x_20 : Int32) (hi0 : i0 < 13) (yq : 0 ≤ n_ta.toInt ∧ n_ta.toInt ≤ 600 ∧ 0 ≤ n_to.toInt ∧ n_to.toInt ≤ 600 ∧ 0 ≤ n_tl.toInt ∧ n_tl.toInt ≤ 600) (yv : 0 ≤ v1.toInt ∧ v1.toInt < n_tl.toInt) (h_2 : r_1.toInt = ((stL.getD i0 0 : Nat) : Int) ∧ 2 ≤ ((stL.getD i0 0 : Nat) : Int) ∧ ((stL.getD i0 0 : Nat) : Int) ≤ 8) (t_5 : x_3.toInt = v1.toInt + r_1.toInt) (t_7 : (0 : Int) ≤ v1.toInt) (t_9 : x_3.toInt ≤ n_tl.toInt) (t_10 : (Int32.toNatClampNeg x_3) = (Int32.toNatClampNeg v1) + stL.getD i0 0) (h_12 : r_11.toInt = kdN f_bytes (Int32.toNatClampNeg n_tl) (Int32.toNatClampNeg x_3) ∧ 0 ≤ r_11.toInt ∧ r_11.toInt ≤ 3) (t_14 : ¬ r_11.toInt = (0 : Int)) (hi15_0 : 0 ≤ i_15.toInt ∧ i_15.toInt ≤ ((stL.getD i0 0 : Nat) : Int)) (hmu15 : (((stL.getD i0 0 : Nat) : Int) - i_15.toInt) < ((n15 + 1 : Nat) : Int)) (h_17 : r_16.toInt = ((stL.getD i0 0 : Nat) : Int) ∧ 2 ≤ ((stL.getD i0 0 : Nat) : Int) ∧ ((stL.getD i0 0 : Nat) : Int) ≤ 8) (t_19 : i_15.toInt < r_16.toInt) (t_22 : x_20.toInt = v1.toInt + i_15.toInt) : 0 ≤ x_20.toInt ∧ x_20.toInt < ((600 : Nat) : Int) := by
  have := rg_rng n_ta; have := rg_rng n_to; have := rg_rng n_tl; have := rg_rng v1; have := rg_rng r_1; have := rg_rng x_3; have := rg_rng r_11; have := rg_rng i_15; have := rg_rng r_16; have := rg_rng x_20; omega
theorem lg_X9_isSpeltAt_13 (n_ta : Int32) (n_to : Int32) (n_tl : Int32) (f_bytes : Nat → Int32) (v1 : Int32) (i0 : Nat) (r_1 : Int32) (x_3 : Int32) (r_11 : Int32) (i_15 : Int32) (n15 : Nat) (r_16 : Int32) (x_20 : Int32) (x_23 : Int32) (hi0 : i0 < 13) (yq : 0 ≤ n_ta.toInt ∧ n_ta.toInt ≤ 600 ∧ 0 ≤ n_to.toInt ∧ n_to.toInt ≤ 600 ∧ 0 ≤ n_tl.toInt ∧ n_tl.toInt ≤ 600) (yv : 0 ≤ v1.toInt ∧ v1.toInt < n_tl.toInt) (h_2 : r_1.toInt = ((stL.getD i0 0 : Nat) : Int) ∧ 2 ≤ ((stL.getD i0 0 : Nat) : Int) ∧ ((stL.getD i0 0 : Nat) : Int) ≤ 8) (t_5 : x_3.toInt = v1.toInt + r_1.toInt) (t_7 : (0 : Int) ≤ v1.toInt) (t_9 : x_3.toInt ≤ n_tl.toInt) (t_10 : (Int32.toNatClampNeg x_3) = (Int32.toNatClampNeg v1) + stL.getD i0 0) (h_12 : r_11.toInt = kdN f_bytes (Int32.toNatClampNeg n_tl) (Int32.toNatClampNeg x_3) ∧ 0 ≤ r_11.toInt ∧ r_11.toInt ≤ 3) (t_14 : ¬ r_11.toInt = (0 : Int)) (hi15_0 : 0 ≤ i_15.toInt ∧ i_15.toInt ≤ ((stL.getD i0 0 : Nat) : Int)) (hmu15 : (((stL.getD i0 0 : Nat) : Int) - i_15.toInt) < ((n15 + 1 : Nat) : Int)) (h_17 : r_16.toInt = ((stL.getD i0 0 : Nat) : Int) ∧ 2 ≤ ((stL.getD i0 0 : Nat) : Int) ∧ ((stL.getD i0 0 : Nat) : Int) ≤ 8) (t_19 : i_15.toInt < r_16.toInt) (t_22 : x_20.toInt = v1.toInt + i_15.toInt) (t_25 : x_23.toInt = (f_bytes (Int32.toNatClampNeg x_20)).toInt) : 0 ≤ i_15.toInt ∧ i_15.toInt < ((stL.getD i0 0 : Nat) : Int) := by
  have := rg_rng n_ta; have := rg_rng n_to; have := rg_rng n_tl; have := rg_rng v1; have := rg_rng r_1; have := rg_rng x_3; have := rg_rng r_11; have := rg_rng i_15; have := rg_rng r_16; have := rg_rng x_20; have := rg_rng x_23; omega
theorem lg_X9_isSpeltAt_14 (n_ta : Int32) (n_to : Int32) (n_tl : Int32) (f_bytes : Nat → Int32) (v1 : Int32) (i0 : Nat) (r_1 : Int32) (x_3 : Int32) (r_11 : Int32) (i_15 : Int32) (n15 : Nat) (r_16 : Int32) (x_20 : Int32) (x_23 : Int32) (r_26 : Int32) (hi0 : i0 < 13) (yq : 0 ≤ n_ta.toInt ∧ n_ta.toInt ≤ 600 ∧ 0 ≤ n_to.toInt ∧ n_to.toInt ≤ 600 ∧ 0 ≤ n_tl.toInt ∧ n_tl.toInt ≤ 600) (yv : 0 ≤ v1.toInt ∧ v1.toInt < n_tl.toInt) (h_2 : r_1.toInt = ((stL.getD i0 0 : Nat) : Int) ∧ 2 ≤ ((stL.getD i0 0 : Nat) : Int) ∧ ((stL.getD i0 0 : Nat) : Int) ≤ 8) (t_5 : x_3.toInt = v1.toInt + r_1.toInt) (t_7 : (0 : Int) ≤ v1.toInt) (t_9 : x_3.toInt ≤ n_tl.toInt) (t_10 : (Int32.toNatClampNeg x_3) = (Int32.toNatClampNeg v1) + stL.getD i0 0) (h_12 : r_11.toInt = kdN f_bytes (Int32.toNatClampNeg n_tl) (Int32.toNatClampNeg x_3) ∧ 0 ≤ r_11.toInt ∧ r_11.toInt ≤ 3) (t_14 : ¬ r_11.toInt = (0 : Int)) (hi15_0 : 0 ≤ i_15.toInt ∧ i_15.toInt ≤ ((stL.getD i0 0 : Nat) : Int)) (hmu15 : (((stL.getD i0 0 : Nat) : Int) - i_15.toInt) < ((n15 + 1 : Nat) : Int)) (h_17 : r_16.toInt = ((stL.getD i0 0 : Nat) : Int) ∧ 2 ≤ ((stL.getD i0 0 : Nat) : Int) ∧ ((stL.getD i0 0 : Nat) : Int) ≤ 8) (t_19 : i_15.toInt < r_16.toInt) (t_22 : x_20.toInt = v1.toInt + i_15.toInt) (t_25 : x_23.toInt = (f_bytes (Int32.toNatClampNeg x_20)).toInt) (h_27 : r_26 = stC i0 (Int32.toNatClampNeg i_15) &&& 255) (t_29 : x_23.toInt = r_26.toInt) : -2147483648 ≤ i_15.toInt + 1 ∧ i_15.toInt + 1 < 2147483648 := by
  have := rg_rng n_ta; have := rg_rng n_to; have := rg_rng n_tl; have := rg_rng v1; have := rg_rng r_1; have := rg_rng x_3; have := rg_rng r_11; have := rg_rng i_15; have := rg_rng r_16; have := rg_rng x_20; have := rg_rng x_23; have := rg_rng r_26; omega
theorem lg_X9_isSpeltAt_15 (n_ta : Int32) (n_to : Int32) (n_tl : Int32) (f_bytes : Nat → Int32) (v1 : Int32) (i0 : Nat) (r_1 : Int32) (x_3 : Int32) (r_11 : Int32) (i_15 : Int32) (n15 : Nat) (r_16 : Int32) (x_20 : Int32) (x_23 : Int32) (r_26 : Int32) (x_30 : Int32) (hi0 : i0 < 13) (yq : 0 ≤ n_ta.toInt ∧ n_ta.toInt ≤ 600 ∧ 0 ≤ n_to.toInt ∧ n_to.toInt ≤ 600 ∧ 0 ≤ n_tl.toInt ∧ n_tl.toInt ≤ 600) (yv : 0 ≤ v1.toInt ∧ v1.toInt < n_tl.toInt) (h_2 : r_1.toInt = ((stL.getD i0 0 : Nat) : Int) ∧ 2 ≤ ((stL.getD i0 0 : Nat) : Int) ∧ ((stL.getD i0 0 : Nat) : Int) ≤ 8) (t_5 : x_3.toInt = v1.toInt + r_1.toInt) (t_7 : (0 : Int) ≤ v1.toInt) (t_9 : x_3.toInt ≤ n_tl.toInt) (t_10 : (Int32.toNatClampNeg x_3) = (Int32.toNatClampNeg v1) + stL.getD i0 0) (h_12 : r_11.toInt = kdN f_bytes (Int32.toNatClampNeg n_tl) (Int32.toNatClampNeg x_3) ∧ 0 ≤ r_11.toInt ∧ r_11.toInt ≤ 3) (t_14 : ¬ r_11.toInt = (0 : Int)) (hi15_0 : 0 ≤ i_15.toInt ∧ i_15.toInt ≤ ((stL.getD i0 0 : Nat) : Int)) (hmu15 : (((stL.getD i0 0 : Nat) : Int) - i_15.toInt) < ((n15 + 1 : Nat) : Int)) (h_17 : r_16.toInt = ((stL.getD i0 0 : Nat) : Int) ∧ 2 ≤ ((stL.getD i0 0 : Nat) : Int) ∧ ((stL.getD i0 0 : Nat) : Int) ≤ 8) (t_19 : i_15.toInt < r_16.toInt) (t_22 : x_20.toInt = v1.toInt + i_15.toInt) (t_25 : x_23.toInt = (f_bytes (Int32.toNatClampNeg x_20)).toInt) (h_27 : r_26 = stC i0 (Int32.toNatClampNeg i_15) &&& 255) (t_29 : x_23.toInt = r_26.toInt) (t_32 : x_30.toInt = i_15.toInt + 1) : (((stL.getD i0 0 : Nat) : Int) - x_30.toInt) < (n15 : Int) := by
  have := rg_rng n_ta; have := rg_rng n_to; have := rg_rng n_tl; have := rg_rng v1; have := rg_rng r_1; have := rg_rng x_3; have := rg_rng r_11; have := rg_rng i_15; have := rg_rng r_16; have := rg_rng x_20; have := rg_rng x_23; have := rg_rng r_26; have := rg_rng x_30; omega
theorem lg_X9_isSpeltAt_16 (n_ta : Int32) (n_to : Int32) (n_tl : Int32) (f_bytes : Nat → Int32) (v1 : Int32) (i0 : Nat) (r_1 : Int32) (x_3 : Int32) (r_11 : Int32) (i_15 : Int32) (n15 : Nat) (r_16 : Int32) (x_20 : Int32) (x_23 : Int32) (r_26 : Int32) (x_30 : Int32) (hi0 : i0 < 13) (yq : 0 ≤ n_ta.toInt ∧ n_ta.toInt ≤ 600 ∧ 0 ≤ n_to.toInt ∧ n_to.toInt ≤ 600 ∧ 0 ≤ n_tl.toInt ∧ n_tl.toInt ≤ 600) (yv : 0 ≤ v1.toInt ∧ v1.toInt < n_tl.toInt) (h_2 : r_1.toInt = ((stL.getD i0 0 : Nat) : Int) ∧ 2 ≤ ((stL.getD i0 0 : Nat) : Int) ∧ ((stL.getD i0 0 : Nat) : Int) ≤ 8) (t_5 : x_3.toInt = v1.toInt + r_1.toInt) (t_7 : (0 : Int) ≤ v1.toInt) (t_9 : x_3.toInt ≤ n_tl.toInt) (t_10 : (Int32.toNatClampNeg x_3) = (Int32.toNatClampNeg v1) + stL.getD i0 0) (h_12 : r_11.toInt = kdN f_bytes (Int32.toNatClampNeg n_tl) (Int32.toNatClampNeg x_3) ∧ 0 ≤ r_11.toInt ∧ r_11.toInt ≤ 3) (t_14 : ¬ r_11.toInt = (0 : Int)) (hi15_0 : 0 ≤ i_15.toInt ∧ i_15.toInt ≤ ((stL.getD i0 0 : Nat) : Int)) (hmu15 : (((stL.getD i0 0 : Nat) : Int) - i_15.toInt) < ((n15 + 1 : Nat) : Int)) (h_17 : r_16.toInt = ((stL.getD i0 0 : Nat) : Int) ∧ 2 ≤ ((stL.getD i0 0 : Nat) : Int) ∧ ((stL.getD i0 0 : Nat) : Int) ≤ 8) (t_19 : i_15.toInt < r_16.toInt) (t_22 : x_20.toInt = v1.toInt + i_15.toInt) (t_25 : x_23.toInt = (f_bytes (Int32.toNatClampNeg x_20)).toInt) (h_27 : r_26 = stC i0 (Int32.toNatClampNeg i_15) &&& 255) (t_29 : x_23.toInt = r_26.toInt) (t_32 : x_30.toInt = i_15.toInt + 1) : 0 ≤ x_30.toInt ∧ x_30.toInt ≤ ((stL.getD i0 0 : Nat) : Int) := by
  have := rg_rng n_ta; have := rg_rng n_to; have := rg_rng n_tl; have := rg_rng v1; have := rg_rng r_1; have := rg_rng x_3; have := rg_rng r_11; have := rg_rng i_15; have := rg_rng r_16; have := rg_rng x_20; have := rg_rng x_23; have := rg_rng r_26; have := rg_rng x_30; omega
theorem lg_X9_isSpeltAt_17 (n_ta : Int32) (n_to : Int32) (n_tl : Int32) (f_bytes : Nat → Int32) (v1 : Int32) (i0 : Nat) (r_1 : Int32) (x_3 : Int32) (r_11 : Int32) (i_15 : Int32) (n15 : Nat) (r_16 : Int32) (x_20 : Int32) (x_23 : Int32) (r_26 : Int32) (x_30 : Int32) (hi0 : i0 < 13) (yq : 0 ≤ n_ta.toInt ∧ n_ta.toInt ≤ 600 ∧ 0 ≤ n_to.toInt ∧ n_to.toInt ≤ 600 ∧ 0 ≤ n_tl.toInt ∧ n_tl.toInt ≤ 600) (yv : 0 ≤ v1.toInt ∧ v1.toInt < n_tl.toInt) (h_2 : r_1.toInt = ((stL.getD i0 0 : Nat) : Int) ∧ 2 ≤ ((stL.getD i0 0 : Nat) : Int) ∧ ((stL.getD i0 0 : Nat) : Int) ≤ 8) (t_5 : x_3.toInt = v1.toInt + r_1.toInt) (t_7 : (0 : Int) ≤ v1.toInt) (t_9 : x_3.toInt ≤ n_tl.toInt) (t_10 : (Int32.toNatClampNeg x_3) = (Int32.toNatClampNeg v1) + stL.getD i0 0) (h_12 : r_11.toInt = kdN f_bytes (Int32.toNatClampNeg n_tl) (Int32.toNatClampNeg x_3) ∧ 0 ≤ r_11.toInt ∧ r_11.toInt ≤ 3) (t_14 : ¬ r_11.toInt = (0 : Int)) (hi15_0 : 0 ≤ i_15.toInt ∧ i_15.toInt ≤ ((stL.getD i0 0 : Nat) : Int)) (hmu15 : (((stL.getD i0 0 : Nat) : Int) - i_15.toInt) < ((n15 + 1 : Nat) : Int)) (h_17 : r_16.toInt = ((stL.getD i0 0 : Nat) : Int) ∧ 2 ≤ ((stL.getD i0 0 : Nat) : Int) ∧ ((stL.getD i0 0 : Nat) : Int) ≤ 8) (t_19 : i_15.toInt < r_16.toInt) (t_22 : x_20.toInt = v1.toInt + i_15.toInt) (t_25 : x_23.toInt = (f_bytes (Int32.toNatClampNeg x_20)).toInt) (h_27 : r_26 = stC i0 (Int32.toNatClampNeg i_15) &&& 255) (t_29 : x_23.toInt = r_26.toInt) (t_32 : x_30.toInt = i_15.toInt + 1) : 0 ≤ i_15.toInt ∧ i_15.toInt < ((stL.getD i0 0 : Nat) : Int) ∧ 0 ≤ v1.toInt ∧ x_20.toInt = v1.toInt + i_15.toInt := by
  have := rg_rng n_ta; have := rg_rng n_to; have := rg_rng n_tl; have := rg_rng v1; have := rg_rng r_1; have := rg_rng x_3; have := rg_rng r_11; have := rg_rng i_15; have := rg_rng r_16; have := rg_rng x_20; have := rg_rng x_23; have := rg_rng r_26; have := rg_rng x_30; omega
theorem lg_X9_isSpeltAt_18 (n_ta : Int32) (n_to : Int32) (n_tl : Int32) (f_bytes : Nat → Int32) (v1 : Int32) (i0 : Nat) (r_1 : Int32) (x_3 : Int32) (r_11 : Int32) (i_15 : Int32) (n15 : Nat) (r_16 : Int32) (x_20 : Int32) (x_23 : Int32) (r_26 : Int32) (x_30 : Int32) (hi0 : i0 < 13) (yq : 0 ≤ n_ta.toInt ∧ n_ta.toInt ≤ 600 ∧ 0 ≤ n_to.toInt ∧ n_to.toInt ≤ 600 ∧ 0 ≤ n_tl.toInt ∧ n_tl.toInt ≤ 600) (yv : 0 ≤ v1.toInt ∧ v1.toInt < n_tl.toInt) (h_2 : r_1.toInt = ((stL.getD i0 0 : Nat) : Int) ∧ 2 ≤ ((stL.getD i0 0 : Nat) : Int) ∧ ((stL.getD i0 0 : Nat) : Int) ≤ 8) (t_5 : x_3.toInt = v1.toInt + r_1.toInt) (t_7 : (0 : Int) ≤ v1.toInt) (t_9 : x_3.toInt ≤ n_tl.toInt) (t_10 : (Int32.toNatClampNeg x_3) = (Int32.toNatClampNeg v1) + stL.getD i0 0) (h_12 : r_11.toInt = kdN f_bytes (Int32.toNatClampNeg n_tl) (Int32.toNatClampNeg x_3) ∧ 0 ≤ r_11.toInt ∧ r_11.toInt ≤ 3) (t_14 : ¬ r_11.toInt = (0 : Int)) (hi15_0 : 0 ≤ i_15.toInt ∧ i_15.toInt ≤ ((stL.getD i0 0 : Nat) : Int)) (hmu15 : (((stL.getD i0 0 : Nat) : Int) - i_15.toInt) < ((n15 + 1 : Nat) : Int)) (h_17 : r_16.toInt = ((stL.getD i0 0 : Nat) : Int) ∧ 2 ≤ ((stL.getD i0 0 : Nat) : Int) ∧ ((stL.getD i0 0 : Nat) : Int) ≤ 8) (t_19 : i_15.toInt < r_16.toInt) (t_22 : x_20.toInt = v1.toInt + i_15.toInt) (t_25 : x_23.toInt = (f_bytes (Int32.toNatClampNeg x_20)).toInt) (h_27 : r_26 = stC i0 (Int32.toNatClampNeg i_15) &&& 255) (t_29 : x_23.toInt = r_26.toInt) (t_32 : x_30.toInt = i_15.toInt + 1) : x_23.toInt = r_26.toInt := by
  have := rg_rng n_ta; have := rg_rng n_to; have := rg_rng n_tl; have := rg_rng v1; have := rg_rng r_1; have := rg_rng x_3; have := rg_rng r_11; have := rg_rng i_15; have := rg_rng r_16; have := rg_rng x_20; have := rg_rng x_23; have := rg_rng r_26; have := rg_rng x_30; omega
theorem lg_X9_isSpeltAt_19 (n_ta : Int32) (n_to : Int32) (n_tl : Int32) (f_bytes : Nat → Int32) (v1 : Int32) (i0 : Nat) (r_1 : Int32) (x_3 : Int32) (r_11 : Int32) (i_15 : Int32) (n15 : Nat) (r_16 : Int32) (x_20 : Int32) (x_23 : Int32) (r_26 : Int32) (x_30 : Int32) (hi0 : i0 < 13) (yq : 0 ≤ n_ta.toInt ∧ n_ta.toInt ≤ 600 ∧ 0 ≤ n_to.toInt ∧ n_to.toInt ≤ 600 ∧ 0 ≤ n_tl.toInt ∧ n_tl.toInt ≤ 600) (yv : 0 ≤ v1.toInt ∧ v1.toInt < n_tl.toInt) (h_2 : r_1.toInt = ((stL.getD i0 0 : Nat) : Int) ∧ 2 ≤ ((stL.getD i0 0 : Nat) : Int) ∧ ((stL.getD i0 0 : Nat) : Int) ≤ 8) (t_5 : x_3.toInt = v1.toInt + r_1.toInt) (t_7 : (0 : Int) ≤ v1.toInt) (t_9 : x_3.toInt ≤ n_tl.toInt) (t_10 : (Int32.toNatClampNeg x_3) = (Int32.toNatClampNeg v1) + stL.getD i0 0) (h_12 : r_11.toInt = kdN f_bytes (Int32.toNatClampNeg n_tl) (Int32.toNatClampNeg x_3) ∧ 0 ≤ r_11.toInt ∧ r_11.toInt ≤ 3) (t_14 : ¬ r_11.toInt = (0 : Int)) (hi15_0 : 0 ≤ i_15.toInt ∧ i_15.toInt ≤ ((stL.getD i0 0 : Nat) : Int)) (hmu15 : (((stL.getD i0 0 : Nat) : Int) - i_15.toInt) < ((n15 + 1 : Nat) : Int)) (h_17 : r_16.toInt = ((stL.getD i0 0 : Nat) : Int) ∧ 2 ≤ ((stL.getD i0 0 : Nat) : Int) ∧ ((stL.getD i0 0 : Nat) : Int) ≤ 8) (t_19 : i_15.toInt < r_16.toInt) (t_22 : x_20.toInt = v1.toInt + i_15.toInt) (t_25 : x_23.toInt = (f_bytes (Int32.toNatClampNeg x_20)).toInt) (h_27 : r_26 = stC i0 (Int32.toNatClampNeg i_15) &&& 255) (t_29 : x_23.toInt = r_26.toInt) (t_32 : x_30.toInt = i_15.toInt + 1) : x_30.toInt = i_15.toInt + 1 := by
  have := rg_rng n_ta; have := rg_rng n_to; have := rg_rng n_tl; have := rg_rng v1; have := rg_rng r_1; have := rg_rng x_3; have := rg_rng r_11; have := rg_rng i_15; have := rg_rng r_16; have := rg_rng x_20; have := rg_rng x_23; have := rg_rng r_26; have := rg_rng x_30; omega
theorem lg_X9_isSpeltAt_20 (n_ta : Int32) (n_to : Int32) (n_tl : Int32) (f_bytes : Nat → Int32) (v1 : Int32) (i0 : Nat) (r_1 : Int32) (x_3 : Int32) (r_11 : Int32) (i_15 : Int32) (n15 : Nat) (r_16 : Int32) (x_20 : Int32) (x_23 : Int32) (r_26 : Int32) (hi0 : i0 < 13) (yq : 0 ≤ n_ta.toInt ∧ n_ta.toInt ≤ 600 ∧ 0 ≤ n_to.toInt ∧ n_to.toInt ≤ 600 ∧ 0 ≤ n_tl.toInt ∧ n_tl.toInt ≤ 600) (yv : 0 ≤ v1.toInt ∧ v1.toInt < n_tl.toInt) (h_2 : r_1.toInt = ((stL.getD i0 0 : Nat) : Int) ∧ 2 ≤ ((stL.getD i0 0 : Nat) : Int) ∧ ((stL.getD i0 0 : Nat) : Int) ≤ 8) (t_5 : x_3.toInt = v1.toInt + r_1.toInt) (t_7 : (0 : Int) ≤ v1.toInt) (t_9 : x_3.toInt ≤ n_tl.toInt) (t_10 : (Int32.toNatClampNeg x_3) = (Int32.toNatClampNeg v1) + stL.getD i0 0) (h_12 : r_11.toInt = kdN f_bytes (Int32.toNatClampNeg n_tl) (Int32.toNatClampNeg x_3) ∧ 0 ≤ r_11.toInt ∧ r_11.toInt ≤ 3) (t_14 : ¬ r_11.toInt = (0 : Int)) (hi15_0 : 0 ≤ i_15.toInt ∧ i_15.toInt ≤ ((stL.getD i0 0 : Nat) : Int)) (hmu15 : (((stL.getD i0 0 : Nat) : Int) - i_15.toInt) < ((n15 + 1 : Nat) : Int)) (h_17 : r_16.toInt = ((stL.getD i0 0 : Nat) : Int) ∧ 2 ≤ ((stL.getD i0 0 : Nat) : Int) ∧ ((stL.getD i0 0 : Nat) : Int) ≤ 8) (t_19 : i_15.toInt < r_16.toInt) (t_22 : x_20.toInt = v1.toInt + i_15.toInt) (t_25 : x_23.toInt = (f_bytes (Int32.toNatClampNeg x_20)).toInt) (h_27 : r_26 = stC i0 (Int32.toNatClampNeg i_15) &&& 255) (t_29 : ¬ x_23.toInt = r_26.toInt) : 0 ≤ i_15.toInt ∧ i_15.toInt < ((stL.getD i0 0 : Nat) : Int) ∧ 0 ≤ v1.toInt ∧ x_20.toInt = v1.toInt + i_15.toInt := by
  have := rg_rng n_ta; have := rg_rng n_to; have := rg_rng n_tl; have := rg_rng v1; have := rg_rng r_1; have := rg_rng x_3; have := rg_rng r_11; have := rg_rng i_15; have := rg_rng r_16; have := rg_rng x_20; have := rg_rng x_23; have := rg_rng r_26; omega
theorem lg_X9_isSpeltAt_21 (n_ta : Int32) (n_to : Int32) (n_tl : Int32) (f_bytes : Nat → Int32) (v1 : Int32) (i0 : Nat) (r_1 : Int32) (x_3 : Int32) (r_11 : Int32) (i_15 : Int32) (n15 : Nat) (r_16 : Int32) (x_20 : Int32) (x_23 : Int32) (r_26 : Int32) (hi0 : i0 < 13) (yq : 0 ≤ n_ta.toInt ∧ n_ta.toInt ≤ 600 ∧ 0 ≤ n_to.toInt ∧ n_to.toInt ≤ 600 ∧ 0 ≤ n_tl.toInt ∧ n_tl.toInt ≤ 600) (yv : 0 ≤ v1.toInt ∧ v1.toInt < n_tl.toInt) (h_2 : r_1.toInt = ((stL.getD i0 0 : Nat) : Int) ∧ 2 ≤ ((stL.getD i0 0 : Nat) : Int) ∧ ((stL.getD i0 0 : Nat) : Int) ≤ 8) (t_5 : x_3.toInt = v1.toInt + r_1.toInt) (t_7 : (0 : Int) ≤ v1.toInt) (t_9 : x_3.toInt ≤ n_tl.toInt) (t_10 : (Int32.toNatClampNeg x_3) = (Int32.toNatClampNeg v1) + stL.getD i0 0) (h_12 : r_11.toInt = kdN f_bytes (Int32.toNatClampNeg n_tl) (Int32.toNatClampNeg x_3) ∧ 0 ≤ r_11.toInt ∧ r_11.toInt ≤ 3) (t_14 : ¬ r_11.toInt = (0 : Int)) (hi15_0 : 0 ≤ i_15.toInt ∧ i_15.toInt ≤ ((stL.getD i0 0 : Nat) : Int)) (hmu15 : (((stL.getD i0 0 : Nat) : Int) - i_15.toInt) < ((n15 + 1 : Nat) : Int)) (h_17 : r_16.toInt = ((stL.getD i0 0 : Nat) : Int) ∧ 2 ≤ ((stL.getD i0 0 : Nat) : Int) ∧ ((stL.getD i0 0 : Nat) : Int) ≤ 8) (t_19 : i_15.toInt < r_16.toInt) (t_22 : x_20.toInt = v1.toInt + i_15.toInt) (t_25 : x_23.toInt = (f_bytes (Int32.toNatClampNeg x_20)).toInt) (h_27 : r_26 = stC i0 (Int32.toNatClampNeg i_15) &&& 255) (t_29 : ¬ x_23.toInt = r_26.toInt) : ¬ x_23.toInt = r_26.toInt := by
  have := rg_rng n_ta; have := rg_rng n_to; have := rg_rng n_tl; have := rg_rng v1; have := rg_rng r_1; have := rg_rng x_3; have := rg_rng r_11; have := rg_rng i_15; have := rg_rng r_16; have := rg_rng x_20; have := rg_rng x_23; have := rg_rng r_26; omega
theorem lg_X9_isSpeltAt_22 (n_ta : Int32) (n_to : Int32) (n_tl : Int32) (f_bytes : Nat → Int32) (v1 : Int32) (i0 : Nat) (r_1 : Int32) (x_3 : Int32) (r_11 : Int32) (hi0 : i0 < 13) (yq : 0 ≤ n_ta.toInt ∧ n_ta.toInt ≤ 600 ∧ 0 ≤ n_to.toInt ∧ n_to.toInt ≤ 600 ∧ 0 ≤ n_tl.toInt ∧ n_tl.toInt ≤ 600) (yv : 0 ≤ v1.toInt ∧ v1.toInt < n_tl.toInt) (h_2 : r_1.toInt = ((stL.getD i0 0 : Nat) : Int) ∧ 2 ≤ ((stL.getD i0 0 : Nat) : Int) ∧ ((stL.getD i0 0 : Nat) : Int) ≤ 8) (t_5 : x_3.toInt = v1.toInt + r_1.toInt) (t_7 : (0 : Int) ≤ v1.toInt) (t_9 : x_3.toInt ≤ n_tl.toInt) (t_10 : (Int32.toNatClampNeg x_3) = (Int32.toNatClampNeg v1) + stL.getD i0 0) (h_12 : r_11.toInt = kdN f_bytes (Int32.toNatClampNeg n_tl) (Int32.toNatClampNeg x_3) ∧ 0 ≤ r_11.toInt ∧ r_11.toInt ≤ 3) (t_14 : r_11.toInt = (0 : Int)) : kdN f_bytes (Int32.toNatClampNeg n_tl) (Int32.toNatClampNeg x_3) = 0 := by
  have := rg_rng n_ta; have := rg_rng n_to; have := rg_rng n_tl; have := rg_rng v1; have := rg_rng r_1; have := rg_rng x_3; have := rg_rng r_11; omega
set_option maxHeartbeats 4000000 in
set_option maxRecDepth 100000 in
theorem kX9_isSpeltAt (l : Launch) (dC : Nat → ClassId) (dI : Nat → Nat → Nat) (sz : Nat) (adK adV : Nat → Nat) (fm : Option Nat) (h0 : Nat) (p_bytes : Nat) (p_ts : Nat) (p_tc : Nat) (n_ta : Int32) (n_to : Int32) (n_tl : Int32) (k_bytes : ClassId) (f_bytes : Nat → Int32) (v1 : Int32) (i0 : Nat) (hi0 : i0 < 13) (yq : 0 ≤ n_ta.toInt ∧ n_ta.toInt ≤ 600 ∧ 0 ≤ n_to.toInt ∧ n_to.toInt ≤ 600 ∧ 0 ≤ n_tl.toInt ∧ n_tl.toInt ≤ 600) (yv : 0 ≤ v1.toInt ∧ v1.toInt < n_tl.toInt) : Met l yX9_isSpeltAt (Cond.code yX9_isSpeltAt cX9_isSpeltAt 5 (some .boolean) :: bg) ({ frames := 4, cells := 0, slots := 0, locals := 85 }) (pcS dC dI [.ref h0, .int v1, .ref (adK i0)] sz [(h0, .inr (9, [.ref p_bytes, .ref p_ts, .ref p_tc, .int n_ta, .int n_to, .int n_tl])), (p_bytes, .inl (k_bytes, 600, .inl f_bytes))] [(k_bytes, .byte)] adK adV fm) (va_Qi (fun (r : Int32) (u : Unit) => (r = 1 ∧ spN f_bytes (Int32.toNatClampNeg n_tl) (Int32.toNatClampNeg v1) i0) ∨ (r = 0 ∧ ¬ spN f_bytes (Int32.toNatClampNeg n_tl) (Int32.toNatClampNeg v1) i0)) (fun (u : Unit) (t : State) => va_P (dC, dI) vwCl [(h0, .inr (9, [.ref p_bytes, .ref p_ts, .ref p_tc, .int n_ta, .int n_to, .int n_tl])), (p_bytes, .inl (k_bytes, 600, .inl f_bytes))] t.heap ∧ va_K (dC, dI) vwCl [(k_bytes, .byte)] t ∧ va_D (va_A [(h0, .inr (9, [.ref p_bytes, .ref p_ts, .ref p_tc, .int n_ta, .int n_to, .int n_tl])), (p_bytes, .inl (k_bytes, 600, .inl f_bytes))] sz) [(h0, .inr (9, [.ref p_bytes, .ref p_ts, .ref p_tc, .int n_ta, .int n_to, .int n_tl])), (p_bytes, .inl (k_bytes, 600, .inl f_bytes))]) (va_A [(h0, .inr (9, [.ref p_bytes, .ref p_ts, .ref p_tc, .int n_ta, .int n_to, .int n_tl])), (p_bytes, .inl (k_bytes, 600, .inl f_bytes))] sz)) 0 0 (va_A [(h0, .inr (9, [.ref p_bytes, .ref p_ts, .ref p_tc, .int n_ta, .int n_to, .int n_tl])), (p_bytes, .inl (k_bytes, 600, .inl f_bytes))] sz) := by
  refine Met.ofW (cc := cX9_isSpeltAt) (maxL := 5) (ret := (some .boolean)) pnX9 rfl ?_
  intro p e s m args below meth c s₁ B hml hv
  obtain ⟨rfl, hsz, hP, hK, hD0, hN, hE, hR⟩ := hv
  have hx := B.exec
  have hb := B.bytes
  have hr := B.returns
  have htb : ∀ w ∈ bg, w.before [.ref h0, .int v1, .ref (adK i0)].toArray s = true := fun w h => atoms_spec (ws := Cond.code yX9_isSpeltAt cX9_isSpeltAt 5 (some .boolean) :: bg) B.pre w (List.mem_cons_of_mem _ h)
  have hown : s.vm.findClass RX9 = some m.cls := findClass_of_methodNamed B.named
  have hlocks := B.notSynchronized
  subst hsz
  have hD := hD0.self (sz := s.heap.size)
  generalize hAe : va_A [(h0, .inr (9, [.ref p_bytes, .ref p_ts, .ref p_tc, .int n_ta, .int n_to, .int n_tl])), (p_bytes, .inl (k_bytes, 600, .inl f_bytes))] s.heap.size = A at hD hE ⊢
  have hA : ∀ q : Nat, s.heap.size ≤ q → A q := fun q h => by rw [← hAe]; exact Or.inr h
  have hS : va_S A s.heap s.heap [] := va_S.rf
  have hl := lv_entry ([.ref h0, .int v1, .ref (adK i0)]) (n := 5) (Nat.le_of_ble_eq_true rfl)
  rw [lg_entry_eq]
  generalize (lg_sl ([.ref h0, .int v1, .ref (adK i0)]) ++ List.replicate (5 - (lg_sl ([.ref h0, .int v1, .ref (adK i0)])).length) Slot.unset).toArray = ls at hl ⊢
  change lv_has ls 5 [(0, .ref h0), (1, .int v1), (2, .ref (adK i0))] at hl
  clear hD0 hAe
  refine go0 (wsP := fun H => va_P (dC, dI) vwCl [(h0, .inr (9, [.ref p_bytes, .ref p_ts, .ref p_tc, .int n_ta, .int n_to, .int n_tl])), (p_bytes, .inl (k_bytes, 600, .inl f_bytes))] H) hP hS ?_
  clear hP hS; intro H locs hP hS
  change va_P (dC, dI) vwCl [(h0, .inr (9, [.ref p_bytes, .ref p_ts, .ref p_tc, .int n_ta, .int n_to, .int n_tl])), (p_bytes, .inl (k_bytes, 600, .inl f_bytes))] H at hP
  refine lv_iload_n hx hb dX9_isSpeltAt_0 rfl (lv_at hl 1 rfl) ?_
  refine lv_aload_n hx hb dX9_isSpeltAt_1 rfl (lv_at hl 2 rfl) ?_
  have hPc := hP.sub (ws' := []) [] rfl
  have hDc := hD.sub (ws' := []) [] (by decide) rfl
  have hKc := hK.sub (tys' := []) [] rfl
  have hFc := va_free (wc := []) hD hS hA [] rfl
  refine va_calli (va_runV (C := "java/lang/String") (As := []) (rest := [.int v1]) ⟨hx, hb, hml, hown, htb⟩ (kJ0_length_8abf5 l dC dI H.size adK adV fm i0 hi0) ⟨callB_of 0 htb (gd_c m_853) rfl rfl rfl (htb _ m_16) (htb _ m_850) hdJ0_length_8abf5 ⟨(Nat.le_of_ble_eq_true rfl), (Nat.le_of_ble_eq_true rfl)⟩, htb _ m_851, htb _ m_852⟩ ⟨pcS_blind, vk_recv hE.1 hi0 hS, pcS_at hPc hKc hDc hN hE hR hS hFc⟩ rfl rfl hl.1 rfl (lv_room (Nat.le_of_ble_eq_true rfl)) dX9_isSpeltAt_2 ⟨(Nat.le_of_ble_eq_true rfl), (Nat.le_of_ble_eq_true rfl)⟩) hS (fun q _ h => hFc q h) hFc (fun r_1 u t H1 locs1 ht hvm h_2 hB hz1 hk1 hS1 => ?_)
  obtain ⟨hP1, hK1, hD1⟩ := hB
  rw [ht] at hP1
  obtain ⟨hPn, hDn⟩ := va_join (wr := [(h0, .inr (9, [.ref p_bytes, .ref p_ts, .ref p_tc, .int n_ta, .int n_to, .int n_tl])), (p_bytes, .inl (k_bytes, 600, .inl f_bytes))]) (w1 := []) hP hD [] [0, 1] rfl rfl (by decide) (by decide) hk1 hFc hP1 hD1
  clear hP1 hD1 hK1
  clear hP hD hS hPc hDc hKc hFc hk1 hz1 ht hvm
  clear t
  revert hS1 hPn hDn; generalize H1 = H; generalize locs1 = locs; intro hS hP hD
  change va_P (dC, dI) vwCl [(h0, .inr (9, [.ref p_bytes, .ref p_ts, .ref p_tc, .int n_ta, .int n_to, .int n_tl])), (p_bytes, .inl (k_bytes, 600, .inl f_bytes))] H at hP
  change va_D A [(h0, .inr (9, [.ref p_bytes, .ref p_ts, .ref p_tc, .int n_ta, .int n_to, .int n_tl])), (p_bytes, .inl (k_bytes, 600, .inl f_bytes))] at hD
  refine lv_iadd hx hb dX9_isSpeltAt_5 ?_
  refine lv_topi (fun x_3 ex_4 => ?_)
  have t_5 : x_3.toInt = v1.toInt + r_1.toInt := i_add rfl rfl (lg_X9_isSpeltAt_0 n_ta n_to n_tl v1 i0 r_1 hi0 yq yv h_2) ex_4
  refine lv_istore_n (lv' := [(3, .int x_3), (0, .ref h0), (1, .int v1), (2, .ref (adK i0))]) hx hb dX9_isSpeltAt_6 rfl hl (by decide) rfl ?_
  clear hl; intro ls hl
  refine lv_iload_n hx hb dX9_isSpeltAt_7 rfl (lv_at hl 2 rfl) ?_
  refine lv_if_lt (tgt := 27) hx hb dX9_isSpeltAt_8 (by decide) (fun c_6 => ?_) (fun c_6 => ?_)
  · have t_7 : v1.toInt < (0 : Int) := i_lt rfl (by decide) c_6
    refine lv_iconst (v := 0) hx hb dX9_isSpeltAt_27 (by decide) ?_
    refine W.widen (k := 0) (n := 0) (Nat.le_of_ble_eq_true rfl) (Nat.le_of_ble_eq_true rfl) ?_
    have hP9 := hP.sub (ws' := [(h0, .inr (9, [.ref p_bytes, .ref p_ts, .ref p_tc, .int n_ta, .int n_to, .int n_tl])), (p_bytes, .inl (k_bytes, 600, .inl f_bytes))]) [0, 1] rfl
    have hD9 := hD.sub (ws' := [(h0, .inr (9, [.ref p_bytes, .ref p_ts, .ref p_tc, .int n_ta, .int n_to, .int n_tl])), (p_bytes, .inl (k_bytes, 600, .inl f_bytes))]) [0, 1] (by decide) rfl
    have hK9 := hK.sub (tys' := [(k_bytes, .byte)]) [0] rfl
    exact W.zret (ty := .boolean) (v := 0) hx hb hr rfl (fun t ht hW => ⟨⟨0, (), rfl, (Or.inr (⟨rfl, (sp_nl (lg_X9_isSpeltAt_1 n_ta n_to n_tl v1 i0 r_1 x_3 hi0 yq yv h_2 t_5 t_7))⟩)), ⟨by rw [ht]; exact hP9, va_K.moved hW.alike hK9, hD9⟩⟩, hS.F ht⟩) hS.2.2 dX9_isSpeltAt_28
  · have t_7 : (0 : Int) ≤ v1.toInt := i_nlt rfl (by decide) c_6
    refine lv_iload_n hx hb dX9_isSpeltAt_11 rfl (lv_at hl 0 rfl) ?_
    refine lv_aload_n hx hb dX9_isSpeltAt_12 rfl (lv_at hl 1 rfl) ?_
    refine va_get (D := (dC, dI)) (ci := 9) (v := .int n_tl) (C := RX9) (T := TX9) (N := 6) hx hb htb iX9 hown hK hP 0 rfl rfl 5 (Nat.le_of_ble_eq_true rfl) (htb _ m_242) (fun _ h9 => h9) rfl dX9_isSpeltAt_13 ?_
    refine lv_icmp_gt (tgt := 27) hx hb dX9_isSpeltAt_16 (by decide) (fun c_8 => ?_) (fun c_8 => ?_)
    · have t_9 : n_tl.toInt < x_3.toInt := i_lt rfl rfl c_8
      refine lv_iconst (v := 0) hx hb dX9_isSpeltAt_27 (by decide) ?_
      refine W.widen (k := 0) (n := 0) (Nat.le_of_ble_eq_true rfl) (Nat.le_of_ble_eq_true rfl) ?_
      have hP9 := hP.sub (ws' := [(h0, .inr (9, [.ref p_bytes, .ref p_ts, .ref p_tc, .int n_ta, .int n_to, .int n_tl])), (p_bytes, .inl (k_bytes, 600, .inl f_bytes))]) [0, 1] rfl
      have hD9 := hD.sub (ws' := [(h0, .inr (9, [.ref p_bytes, .ref p_ts, .ref p_tc, .int n_ta, .int n_to, .int n_tl])), (p_bytes, .inl (k_bytes, 600, .inl f_bytes))]) [0, 1] (by decide) rfl
      have hK9 := hK.sub (tys' := [(k_bytes, .byte)]) [0] rfl
      exact W.zret (ty := .boolean) (v := 0) hx hb hr rfl (fun t ht hW => ⟨⟨0, (), rfl, (Or.inr (⟨rfl, (sp_nl (lg_X9_isSpeltAt_2 n_ta n_to n_tl v1 i0 r_1 x_3 hi0 yq yv h_2 t_5 t_7 t_9))⟩)), ⟨by rw [ht]; exact hP9, va_K.moved hW.alike hK9, hD9⟩⟩, hS.F ht⟩) hS.2.2 dX9_isSpeltAt_28
    · have t_9 : x_3.toInt ≤ n_tl.toInt := i_nlt rfl rfl c_8
      have t_10 : (Int32.toNatClampNeg x_3) = (Int32.toNatClampNeg v1) + stL.getD i0 0 := cl_end (lg_X9_isSpeltAt_3 n_ta n_to n_tl v1 i0 r_1 x_3 hi0 yq yv h_2 t_5 t_7 t_9)
      refine lv_aload_n hx hb dX9_isSpeltAt_19 rfl (lv_at hl 1 rfl) ?_
      refine lv_iload_n hx hb dX9_isSpeltAt_20 rfl (lv_at hl 0 rfl) ?_
      have hPc := hP.sub (ws' := [(h0, .inr (9, [.ref p_bytes, .ref p_ts, .ref p_tc, .int n_ta, .int n_to, .int n_tl])), (p_bytes, .inl (k_bytes, 600, .inl f_bytes))]) [0, 1] rfl
      have hDc := hD.sub (ws' := [(h0, .inr (9, [.ref p_bytes, .ref p_ts, .ref p_tc, .int n_ta, .int n_to, .int n_tl])), (p_bytes, .inl (k_bytes, 600, .inl f_bytes))]) [0, 1] (by decide) rfl
      have hKc := hK.sub (tys' := [(k_bytes, .byte)]) [0] rfl
      have hFc := va_free (wc := [(h0, .inr (9, [.ref p_bytes, .ref p_ts, .ref p_tc, .int n_ta, .int n_to, .int n_tl])), (p_bytes, .inl (k_bytes, 600, .inl f_bytes))]) hD hS hA [0, 1] rfl
      refine va_calli (va_runV (C := RX9) (As := [.int x_3]) (rest := []) ⟨hx, hb, hml, hown, htb⟩ (kX9_kindAt l dC dI H.size h0 p_bytes p_ts p_tc n_ta n_to n_tl k_bytes f_bytes x_3 yq (lg_X9_isSpeltAt_4 n_ta n_to n_tl v1 i0 r_1 x_3 hi0 yq yv h_2 t_5 t_7 t_9 t_10)) ⟨callB_of 1 htb (gd_c m_821) rfl rfl rfl (htb _ m_10) (htb _ m_818) hdX9_kindAt ⟨(Nat.le_of_ble_eq_true rfl), (Nat.le_of_ble_eq_true rfl)⟩, htb _ m_820, htb _ ms_17⟩ ⟨pcW_blind, va_recv hKc hPc (ci := 9) (q0 := 0) rfl rfl, pcW_at hPc hKc hDc hN⟩ rfl rfl hl.1 rfl (lv_room (Nat.le_of_ble_eq_true rfl)) dX9_isSpeltAt_21 ⟨(Nat.le_of_ble_eq_true rfl), (Nat.le_of_ble_eq_true rfl)⟩) hS (fun q _ h => hFc q h) hFc (fun r_11 u t H1 locs1 ht hvm h_12 hB hz1 hk1 hS1 => ?_)
      obtain ⟨hP1, hK1, hD1⟩ := hB
      rw [ht] at hP1
      obtain ⟨hPn, hDn⟩ := va_join (wr := []) (w1 := [(h0, .inr (9, [.ref p_bytes, .ref p_ts, .ref p_tc, .int n_ta, .int n_to, .int n_tl])), (p_bytes, .inl (k_bytes, 600, .inl f_bytes))]) hP hD [0, 1] [] rfl rfl (by decide) (by decide) hk1 hFc hP1 hD1
      clear hP1 hD1 hK1
      clear hP hD hS hPc hDc hKc hFc hk1 hz1 ht hvm
      clear t
      revert hS1 hPn hDn; generalize H1 = H; generalize locs1 = locs; intro hS hP hD
      change va_P (dC, dI) vwCl [(h0, .inr (9, [.ref p_bytes, .ref p_ts, .ref p_tc, .int n_ta, .int n_to, .int n_tl])), (p_bytes, .inl (k_bytes, 600, .inl f_bytes))] H at hP
      change va_D A [(h0, .inr (9, [.ref p_bytes, .ref p_ts, .ref p_tc, .int n_ta, .int n_to, .int n_tl])), (p_bytes, .inl (k_bytes, 600, .inl f_bytes))] at hD
      refine lv_if_ne (tgt := 29) hx hb dX9_isSpeltAt_24 (by decide) (fun c_13 => ?_) (fun c_13 => ?_)
      · have t_14 : ¬ r_11.toInt = (0 : Int) := i_ne rfl (by decide) c_13
        refine lv_iconst (v := 0) hx hb dX9_isSpeltAt_29 (by decide) ?_
        refine lv_istore (lv' := [(4, .int 0), (3, .int x_3), (0, .ref h0), (1, .int v1), (2, .ref (adK i0))]) hx hb dX9_isSpeltAt_30 hl (by decide) rfl ?_
        clear hl; intro ls hl
        refine (fun (lp : ∀ (n15 : Nat) (i_15 : Int32) (H : Heap) (locs : List Loc) (ls : Array Slot), (((stL.getD i0 0 : Nat) : Int) - i_15.toInt) < (n15 : Int) → (0 ≤ i_15.toInt ∧ i_15.toInt ≤ ((stL.getD i0 0 : Nat) : Int)) → (Sw f_bytes v1 i0 i_15) → lv_has ls 5 [(4, .int i_15), (3, .int x_3), (0, .ref h0), (1, .int v1), (2, .ref (adK i0))] → va_P (dC, dI) vwCl [(h0, .inr (9, [.ref p_bytes, .ref p_ts, .ref p_tc, .int n_ta, .int n_to, .int n_tl])), (p_bytes, .inl (k_bytes, 600, .inl f_bytes))] H → va_D A [(h0, .inr (9, [.ref p_bytes, .ref p_ts, .ref p_tc, .int n_ta, .int n_to, .int n_tl])), (p_bytes, .inl (k_bytes, 600, .inl f_bytes))] → va_S A s.heap H locs → W p l e _ s m _ below meth c H locs _ _ _ (F0 m 32 ls [])) => lp (Int.toNat (((stL.getD i0 0 : Nat) : Int) - (0 : Int)) + 1) 0   H locs ls ((lg_X9_isSpeltAt_5 n_ta n_to n_tl f_bytes v1 i0 r_1 x_3 r_11 hi0 yq yv h_2 t_5 t_7 t_9 t_10 h_12 t_14)) (lg_X9_isSpeltAt_6 n_ta n_to n_tl f_bytes v1 i0 r_1 x_3 r_11 hi0 yq yv h_2 t_5 t_7 t_9 t_10 h_12 t_14)  Sw_0 hl hP hD hS) ?_
        clear hP hD hS hl
        intro n15
        induction n15 with
        | zero =>
          intro i_15 H locs ls hmu15 hi15_0  hp15_0 hl hP hD hS
          exact False.elim (lg_X9_isSpeltAt_7 n_ta n_to n_tl f_bytes v1 i0 r_1 x_3 r_11 i_15 hi0 yq yv h_2 t_5 t_7 t_9 t_10 h_12 t_14 hi15_0 hmu15)
        | succ n15 ih15 =>
          intro i_15 H locs ls hmu15 hi15_0  hp15_0 hl hP hD hS
          refine lv_iload hx hb dX9_isSpeltAt_32 (lv_at hl 0 rfl) ?_
          refine lv_aload_n hx hb dX9_isSpeltAt_34 rfl (lv_at hl 4 rfl) ?_
          have hPc := hP.sub (ws' := []) [] rfl
          have hDc := hD.sub (ws' := []) [] (by decide) rfl
          have hKc := hK.sub (tys' := []) [] rfl
          have hFc := va_free (wc := []) hD hS hA [] rfl
          refine va_calli (va_runV (C := "java/lang/String") (As := []) (rest := [.int i_15]) ⟨hx, hb, hml, hown, htb⟩ (kJ0_length_8abf5 l dC dI H.size adK adV fm i0 hi0) ⟨callB_of 0 htb (gd_c m_853) rfl rfl rfl (htb _ m_16) (htb _ m_850) hdJ0_length_8abf5 ⟨(Nat.le_of_ble_eq_true rfl), (Nat.le_of_ble_eq_true rfl)⟩, htb _ m_851, htb _ m_852⟩ ⟨pcS_blind, vk_recv hE.1 hi0 hS, pcS_at hPc hKc hDc hN hE hR hS hFc⟩ rfl rfl hl.1 rfl (lv_room (Nat.le_of_ble_eq_true rfl)) dX9_isSpeltAt_35 ⟨(Nat.le_of_ble_eq_true rfl), (Nat.le_of_ble_eq_true rfl)⟩) hS (fun q _ h => hFc q h) hFc (fun r_16 u t H1 locs1 ht hvm h_17 hB hz1 hk1 hS1 => ?_)
          obtain ⟨hP1, hK1, hD1⟩ := hB
          rw [ht] at hP1
          obtain ⟨hPn, hDn⟩ := va_join (wr := [(h0, .inr (9, [.ref p_bytes, .ref p_ts, .ref p_tc, .int n_ta, .int n_to, .int n_tl])), (p_bytes, .inl (k_bytes, 600, .inl f_bytes))]) (w1 := []) hP hD [] [0, 1] rfl rfl (by decide) (by decide) hk1 hFc hP1 hD1
          clear hP1 hD1 hK1
          clear hP hD hS hPc hDc hKc hFc hk1 hz1 ht hvm
          clear t
          revert hS1 hPn hDn; generalize H1 = H; generalize locs1 = locs; intro hS hP hD
          change va_P (dC, dI) vwCl [(h0, .inr (9, [.ref p_bytes, .ref p_ts, .ref p_tc, .int n_ta, .int n_to, .int n_tl])), (p_bytes, .inl (k_bytes, 600, .inl f_bytes))] H at hP
          change va_D A [(h0, .inr (9, [.ref p_bytes, .ref p_ts, .ref p_tc, .int n_ta, .int n_to, .int n_tl])), (p_bytes, .inl (k_bytes, 600, .inl f_bytes))] at hD
          refine lv_icmp_ge (tgt := 67) hx hb dX9_isSpeltAt_38 (by decide) (fun c_18 => ?_) (fun c_18 => ?_)
          · have t_19 : r_16.toInt ≤ i_15.toInt := i_le rfl rfl c_18
            refine lv_iconst (v := 1) hx hb dX9_isSpeltAt_67 (by decide) ?_
            refine W.widen (k := 0) (n := 0) (Nat.le_of_ble_eq_true rfl) (Nat.le_of_ble_eq_true rfl) ?_
            have hP9 := hP.sub (ws' := [(h0, .inr (9, [.ref p_bytes, .ref p_ts, .ref p_tc, .int n_ta, .int n_to, .int n_tl])), (p_bytes, .inl (k_bytes, 600, .inl f_bytes))]) [0, 1] rfl
            have hD9 := hD.sub (ws' := [(h0, .inr (9, [.ref p_bytes, .ref p_ts, .ref p_tc, .int n_ta, .int n_to, .int n_tl])), (p_bytes, .inl (k_bytes, 600, .inl f_bytes))]) [0, 1] (by decide) rfl
            have hK9 := hK.sub (tys' := [(k_bytes, .byte)]) [0] rfl
            exact W.zret (ty := .boolean) (v := 1) hx hb hr rfl (fun t ht hW => ⟨⟨1, (), rfl, (Or.inl ⟨rfl, (Sw_yes hp15_0 (lg_X9_isSpeltAt_8 n_ta n_to n_tl f_bytes v1 i0 r_1 x_3 r_11 i_15 n15 r_16 hi0 yq yv h_2 t_5 t_7 t_9 t_10 h_12 t_14 hi15_0 hmu15 h_17 t_19) t_10 (lg_X9_isSpeltAt_9 n_ta n_to n_tl f_bytes v1 i0 r_1 x_3 r_11 i_15 n15 r_16 hi0 yq yv h_2 t_5 t_7 t_9 t_10 h_12 t_14 hi15_0 hmu15 h_17 t_19) (lg_X9_isSpeltAt_10 n_ta n_to n_tl f_bytes v1 i0 r_1 x_3 r_11 i_15 n15 r_16 hi0 yq yv h_2 t_5 t_7 t_9 t_10 h_12 t_14 hi15_0 hmu15 h_17 t_19))⟩), ⟨by rw [ht]; exact hP9, va_K.moved hW.alike hK9, hD9⟩⟩, hS.F ht⟩) hS.2.2 dX9_isSpeltAt_68
          · have t_19 : i_15.toInt < r_16.toInt := i_nle rfl rfl c_18
            refine lv_aload_n hx hb dX9_isSpeltAt_41 rfl (lv_at hl 2 rfl) ?_
            refine va_get (D := (dC, dI)) (ci := 9) (v := .ref p_bytes) (C := RX9) (T := TX9) (N := 6) hx hb htb iX9 hown hK hP 0 rfl rfl 0 (Nat.le_of_ble_eq_true rfl) (htb _ m_236) (fun _ h9 => h9) rfl dX9_isSpeltAt_42 ?_
            refine lv_iload_n hx hb dX9_isSpeltAt_45 rfl (lv_at hl 3 rfl) ?_
            refine lv_iload hx hb dX9_isSpeltAt_46 (lv_at hl 0 rfl) ?_
            refine lv_iadd hx hb dX9_isSpeltAt_48 ?_
            refine lv_topi (fun x_20 ex_21 => ?_)
            have t_22 : x_20.toInt = v1.toInt + i_15.toInt := i_add rfl rfl (lg_X9_isSpeltAt_11 n_ta n_to n_tl f_bytes v1 i0 r_1 x_3 r_11 i_15 n15 r_16 hi0 yq yv h_2 t_5 t_7 t_9 t_10 h_12 t_14 hi15_0 hmu15 h_17 t_19) ex_21
            refine va_bald hx hb hK hP 1 0 rfl rfl (i_in rfl (lg_X9_isSpeltAt_12 n_ta n_to n_tl f_bytes v1 i0 r_1 x_3 r_11 i_15 n15 r_16 x_20 hi0 yq yv h_2 t_5 t_7 t_9 t_10 h_12 t_14 hi15_0 hmu15 h_17 t_19 t_22)) dX9_isSpeltAt_49 ?_
            refine lv_topi (fun x_23 ex_24 => ?_)
            have t_25 : x_23.toInt = (f_bytes (Int32.toNatClampNeg x_20)).toInt := by rw [ex_24]
            refine lv_aload_n hx hb dX9_isSpeltAt_50 rfl (lv_at hl 4 rfl) ?_
            refine lv_iload hx hb dX9_isSpeltAt_51 (lv_at hl 0 rfl) ?_
            have hPc := hP.sub (ws' := []) [] rfl
            have hDc := hD.sub (ws' := []) [] (by decide) rfl
            have hKc := hK.sub (tys' := []) [] rfl
            have hFc := va_free (wc := []) hD hS hA [] rfl
            refine va_calli (va_runV (C := "java/lang/String") (As := [.int i_15]) (rest := [.int x_23]) ⟨hx, hb, hml, hown, htb⟩ (kJ0_charAt_5068e l dC dI H.size adK adV fm i0 i_15 hi0 (lg_X9_isSpeltAt_13 n_ta n_to n_tl f_bytes v1 i0 r_1 x_3 r_11 i_15 n15 r_16 x_20 x_23 hi0 yq yv h_2 t_5 t_7 t_9 t_10 h_12 t_14 hi15_0 hmu15 h_17 t_19 t_22 t_25)) ⟨callB_of 1 htb (gd_c m_863) rfl rfl rfl (htb _ m_16) (htb _ m_860) hdJ0_charAt_5068e ⟨(Nat.le_of_ble_eq_true rfl), (Nat.le_of_ble_eq_true rfl)⟩, htb _ m_861, htb _ m_862⟩ ⟨pcS_blind, vk_recv hE.1 hi0 hS, pcS_at hPc hKc hDc hN hE hR hS hFc⟩ rfl rfl hl.1 rfl (lv_room (Nat.le_of_ble_eq_true rfl)) dX9_isSpeltAt_53 ⟨(Nat.le_of_ble_eq_true rfl), (Nat.le_of_ble_eq_true rfl)⟩) hS (fun q _ h => hFc q h) hFc (fun r_26 u t H1 locs1 ht hvm h_27 hB hz1 hk1 hS1 => ?_)
            obtain ⟨hP1, hK1, hD1⟩ := hB
            rw [ht] at hP1
            obtain ⟨hPn, hDn⟩ := va_join (wr := [(h0, .inr (9, [.ref p_bytes, .ref p_ts, .ref p_tc, .int n_ta, .int n_to, .int n_tl])), (p_bytes, .inl (k_bytes, 600, .inl f_bytes))]) (w1 := []) hP hD [] [0, 1] rfl rfl (by decide) (by decide) hk1 hFc hP1 hD1
            clear hP1 hD1 hK1
            clear hP hD hS hPc hDc hKc hFc hk1 hz1 ht hvm
            clear t
            revert hS1 hPn hDn; generalize H1 = H; generalize locs1 = locs; intro hS hP hD
            change va_P (dC, dI) vwCl [(h0, .inr (9, [.ref p_bytes, .ref p_ts, .ref p_tc, .int n_ta, .int n_to, .int n_tl])), (p_bytes, .inl (k_bytes, 600, .inl f_bytes))] H at hP
            change va_D A [(h0, .inr (9, [.ref p_bytes, .ref p_ts, .ref p_tc, .int n_ta, .int n_to, .int n_tl])), (p_bytes, .inl (k_bytes, 600, .inl f_bytes))] at hD
            refine lv_icmp_eq (tgt := 61) hx hb dX9_isSpeltAt_56 (by decide) (fun c_28 => ?_) (fun c_28 => ?_)
            · have t_29 : x_23.toInt = r_26.toInt := i_eq rfl rfl c_28
              obtain ⟨x_30, ex_31⟩ : ∃ y : Int32, y = i_15 + Int32.ofInt 1 := ⟨_, rfl⟩
              have t_32 : x_30.toInt = i_15.toInt + 1 := i_add rfl (by decide) (lg_X9_isSpeltAt_14 n_ta n_to n_tl f_bytes v1 i0 r_1 x_3 r_11 i_15 n15 r_16 x_20 x_23 r_26 hi0 yq yv h_2 t_5 t_7 t_9 t_10 h_12 t_14 hi15_0 hmu15 h_17 t_19 t_22 t_25 h_27 t_29) ex_31
              refine lv_iinc (v := x_30) (lv' := [(4, .int x_30), (3, .int x_3), (0, .ref h0), (1, .int v1), (2, .ref (adK i0))]) hx hb dX9_isSpeltAt_61 hl (k := 0) rfl ex_31.symm (by decide) rfl ?_
              clear hl; intro ls hl
              refine lv_goto (tgt := 32) hx hb dX9_isSpeltAt_64 (by decide) ?_
              exact ih15 x_30  H locs ls (lg_X9_isSpeltAt_15 n_ta n_to n_tl f_bytes v1 i0 r_1 x_3 r_11 i_15 n15 r_16 x_20 x_23 r_26 x_30 hi0 yq yv h_2 t_5 t_7 t_9 t_10 h_12 t_14 hi15_0 hmu15 h_17 t_19 t_22 t_25 h_27 t_29 t_32) (lg_X9_isSpeltAt_16 n_ta n_to n_tl f_bytes v1 i0 r_1 x_3 r_11 i_15 n15 r_16 x_20 x_23 r_26 x_30 hi0 yq yv h_2 t_5 t_7 t_9 t_10 h_12 t_14 hi15_0 hmu15 h_17 t_19 t_22 t_25 h_27 t_29 t_32)  (Sw_s hp15_0 hi0 (lg_X9_isSpeltAt_17 n_ta n_to n_tl f_bytes v1 i0 r_1 x_3 r_11 i_15 n15 r_16 x_20 x_23 r_26 x_30 hi0 yq yv h_2 t_5 t_7 t_9 t_10 h_12 t_14 hi15_0 hmu15 h_17 t_19 t_22 t_25 h_27 t_29 t_32) ex_24 h_27 (lg_X9_isSpeltAt_18 n_ta n_to n_tl f_bytes v1 i0 r_1 x_3 r_11 i_15 n15 r_16 x_20 x_23 r_26 x_30 hi0 yq yv h_2 t_5 t_7 t_9 t_10 h_12 t_14 hi15_0 hmu15 h_17 t_19 t_22 t_25 h_27 t_29 t_32) (lg_X9_isSpeltAt_19 n_ta n_to n_tl f_bytes v1 i0 r_1 x_3 r_11 i_15 n15 r_16 x_20 x_23 r_26 x_30 hi0 yq yv h_2 t_5 t_7 t_9 t_10 h_12 t_14 hi15_0 hmu15 h_17 t_19 t_22 t_25 h_27 t_29 t_32) rfl) (lv_sub hl [0, 1, 2, 3, 4] rfl) (hP.sub [0, 1] rfl) (hD.sub [0, 1] (by decide) rfl) hS
            · have t_29 : ¬ x_23.toInt = r_26.toInt := i_ne rfl rfl c_28
              refine lv_iconst (v := 0) hx hb dX9_isSpeltAt_59 (by decide) ?_
              refine W.widen (k := 0) (n := 0) (Nat.le_of_ble_eq_true rfl) (Nat.le_of_ble_eq_true rfl) ?_
              have hP9 := hP.sub (ws' := [(h0, .inr (9, [.ref p_bytes, .ref p_ts, .ref p_tc, .int n_ta, .int n_to, .int n_tl])), (p_bytes, .inl (k_bytes, 600, .inl f_bytes))]) [0, 1] rfl
              have hD9 := hD.sub (ws' := [(h0, .inr (9, [.ref p_bytes, .ref p_ts, .ref p_tc, .int n_ta, .int n_to, .int n_tl])), (p_bytes, .inl (k_bytes, 600, .inl f_bytes))]) [0, 1] (by decide) rfl
              have hK9 := hK.sub (tys' := [(k_bytes, .byte)]) [0] rfl
              exact W.zret (ty := .boolean) (v := 0) hx hb hr rfl (fun t ht hW => ⟨⟨0, (), rfl, (Or.inr (⟨rfl, (Sw_no hi0 (lg_X9_isSpeltAt_20 n_ta n_to n_tl f_bytes v1 i0 r_1 x_3 r_11 i_15 n15 r_16 x_20 x_23 r_26 hi0 yq yv h_2 t_5 t_7 t_9 t_10 h_12 t_14 hi15_0 hmu15 h_17 t_19 t_22 t_25 h_27 t_29) ex_24 h_27 (lg_X9_isSpeltAt_21 n_ta n_to n_tl f_bytes v1 i0 r_1 x_3 r_11 i_15 n15 r_16 x_20 x_23 r_26 hi0 yq yv h_2 t_5 t_7 t_9 t_10 h_12 t_14 hi15_0 hmu15 h_17 t_19 t_22 t_25 h_27 t_29))⟩)), ⟨by rw [ht]; exact hP9, va_K.moved hW.alike hK9, hD9⟩⟩, hS.F ht⟩) hS.2.2 dX9_isSpeltAt_60
      · have t_14 : r_11.toInt = (0 : Int) := i_eq rfl (by decide) c_13
        refine lv_iconst (v := 0) hx hb dX9_isSpeltAt_27 (by decide) ?_
        refine W.widen (k := 0) (n := 0) (Nat.le_of_ble_eq_true rfl) (Nat.le_of_ble_eq_true rfl) ?_
        have hP9 := hP.sub (ws' := [(h0, .inr (9, [.ref p_bytes, .ref p_ts, .ref p_tc, .int n_ta, .int n_to, .int n_tl])), (p_bytes, .inl (k_bytes, 600, .inl f_bytes))]) [0, 1] rfl
        have hD9 := hD.sub (ws' := [(h0, .inr (9, [.ref p_bytes, .ref p_ts, .ref p_tc, .int n_ta, .int n_to, .int n_tl])), (p_bytes, .inl (k_bytes, 600, .inl f_bytes))]) [0, 1] (by decide) rfl
        have hK9 := hK.sub (tys' := [(k_bytes, .byte)]) [0] rfl
        exact W.zret (ty := .boolean) (v := 0) hx hb hr rfl (fun t ht hW => ⟨⟨0, (), rfl, (Or.inr (⟨rfl, (sp_nk t_10 (lg_X9_isSpeltAt_22 n_ta n_to n_tl f_bytes v1 i0 r_1 x_3 r_11 hi0 yq yv h_2 t_5 t_7 t_9 t_10 h_12 t_14))⟩)), ⟨by rw [ht]; exact hP9, va_K.moved hW.alike hK9, hD9⟩⟩, hS.F ht⟩) hS.2.2 dX9_isSpeltAt_28

theorem lg_X9_codeOfWord_0 (n_ta : Int32) (n_to : Int32) (n_tl : Int32) (v1 : Int32) (yq : 0 ≤ n_ta.toInt ∧ n_ta.toInt ≤ 600 ∧ 0 ≤ n_to.toInt ∧ n_to.toInt ≤ 600 ∧ 0 ≤ n_tl.toInt ∧ n_tl.toInt ≤ 600) (yv : 0 ≤ v1.toInt ∧ v1.toInt < n_tl.toInt) : (13 - (0 : Int)) < ((Int.toNat (13 - (0 : Int)) + 1 : Nat) : Int) := by
  have := rg_rng n_ta; have := rg_rng n_to; have := rg_rng n_tl; have := rg_rng v1; omega
theorem lg_X9_codeOfWord_1 (n_ta : Int32) (n_to : Int32) (n_tl : Int32) (v1 : Int32) (yq : 0 ≤ n_ta.toInt ∧ n_ta.toInt ≤ 600 ∧ 0 ≤ n_to.toInt ∧ n_to.toInt ≤ 600 ∧ 0 ≤ n_tl.toInt ∧ n_tl.toInt ≤ 600) (yv : 0 ≤ v1.toInt ∧ v1.toInt < n_tl.toInt) : 0 ≤ (0 : Int) ∧ (0 : Int) ≤ 13 := by
  have := rg_rng n_ta; have := rg_rng n_to; have := rg_rng n_tl; have := rg_rng v1; omega
theorem lg_X9_codeOfWord_2 (n_ta : Int32) (n_to : Int32) (n_tl : Int32) (v1 : Int32) (c_1 : Int32) (yq : 0 ≤ n_ta.toInt ∧ n_ta.toInt ≤ 600 ∧ 0 ≤ n_to.toInt ∧ n_to.toInt ≤ 600 ∧ 0 ≤ n_tl.toInt ∧ n_tl.toInt ≤ 600) (yv : 0 ≤ v1.toInt ∧ v1.toInt < n_tl.toInt) (hi1_0 : 0 ≤ c_1.toInt ∧ c_1.toInt ≤ 13) (hmu1 : (13 - c_1.toInt) < ((0 : Nat) : Int)) : False := by
  have := rg_rng n_ta; have := rg_rng n_to; have := rg_rng n_tl; have := rg_rng v1; have := rg_rng c_1; omega
theorem lg_X9_codeOfWord_3 (n_ta : Int32) (n_to : Int32) (n_tl : Int32) (v1 : Int32) (c_1 : Int32) (n1 : Nat) (yq : 0 ≤ n_ta.toInt ∧ n_ta.toInt ≤ 600 ∧ 0 ≤ n_to.toInt ∧ n_to.toInt ≤ 600 ∧ 0 ≤ n_tl.toInt ∧ n_tl.toInt ≤ 600) (yv : 0 ≤ v1.toInt ∧ v1.toInt < n_tl.toInt) (hi1_0 : 0 ≤ c_1.toInt ∧ c_1.toInt ≤ 13) (hmu1 : (13 - c_1.toInt) < ((n1 + 1 : Nat) : Int)) (t_3 : (13 : Int) ≤ c_1.toInt) : c_1.toInt = 13 := by
  have := rg_rng n_ta; have := rg_rng n_to; have := rg_rng n_tl; have := rg_rng v1; have := rg_rng c_1; omega
theorem lg_X9_codeOfWord_4 (n_ta : Int32) (n_to : Int32) (n_tl : Int32) (f_bytes : Nat → Int32) (v1 : Int32) (c_1 : Int32) (n1 : Nat) (yq : 0 ≤ n_ta.toInt ∧ n_ta.toInt ≤ 600 ∧ 0 ≤ n_to.toInt ∧ n_to.toInt ≤ 600 ∧ 0 ≤ n_tl.toInt ∧ n_tl.toInt ≤ 600) (yv : 0 ≤ v1.toInt ∧ v1.toInt < n_tl.toInt) (hi1_0 : 0 ≤ c_1.toInt ∧ c_1.toInt ≤ 13) (hmu1 : (13 - c_1.toInt) < ((n1 + 1 : Nat) : Int)) (t_3 : (13 : Int) ≤ c_1.toInt) (t_4 : fwN f_bytes (Int32.toNatClampNeg n_tl) (Int32.toNatClampNeg v1) 13 = -1) : (-1 : Int) = fwN f_bytes (Int32.toNatClampNeg n_tl) (Int32.toNatClampNeg v1) 13 ∧ (-1) ≤ (-1 : Int) ∧ (-1 : Int) ≤ 12 := by
  have := rg_rng n_ta; have := rg_rng n_to; have := rg_rng n_tl; have := rg_rng v1; have := rg_rng c_1; omega
theorem lg_X9_codeOfWord_5 (n_ta : Int32) (n_to : Int32) (n_tl : Int32) (v1 : Int32) (c_1 : Int32) (n1 : Nat) (yq : 0 ≤ n_ta.toInt ∧ n_ta.toInt ≤ 600 ∧ 0 ≤ n_to.toInt ∧ n_to.toInt ≤ 600 ∧ 0 ≤ n_tl.toInt ∧ n_tl.toInt ≤ 600) (yv : 0 ≤ v1.toInt ∧ v1.toInt < n_tl.toInt) (hi1_0 : 0 ≤ c_1.toInt ∧ c_1.toInt ≤ 13) (hmu1 : (13 - c_1.toInt) < ((n1 + 1 : Nat) : Int)) (t_3 : c_1.toInt < (13 : Int)) : 0 ≤ c_1.toInt ∧ c_1.toInt ≤ 12 := by
  have := rg_rng n_ta; have := rg_rng n_to; have := rg_rng n_tl; have := rg_rng v1; have := rg_rng c_1; omega
theorem lg_X9_codeOfWord_6 (n_ta : Int32) (n_to : Int32) (n_tl : Int32) (v1 : Int32) (c_1 : Int32) (n1 : Nat) (yq : 0 ≤ n_ta.toInt ∧ n_ta.toInt ≤ 600 ∧ 0 ≤ n_to.toInt ∧ n_to.toInt ≤ 600 ∧ 0 ≤ n_tl.toInt ∧ n_tl.toInt ≤ 600) (yv : 0 ≤ v1.toInt ∧ v1.toInt < n_tl.toInt) (hi1_0 : 0 ≤ c_1.toInt ∧ c_1.toInt ≤ 13) (hmu1 : (13 - c_1.toInt) < ((n1 + 1 : Nat) : Int)) (t_3 : c_1.toInt < (13 : Int)) : 0 ≤ c_1.toInt ∧ c_1.toInt < ((13 : Nat) : Int) := by
  have := rg_rng n_ta; have := rg_rng n_to; have := rg_rng n_tl; have := rg_rng v1; have := rg_rng c_1; omega
theorem lg_X9_codeOfWord_7 (n_ta : Int32) (n_to : Int32) (n_tl : Int32) (f_bytes : Nat → Int32) (v1 : Int32) (c_1 : Int32) (n1 : Nat) (yq : 0 ≤ n_ta.toInt ∧ n_ta.toInt ≤ 600 ∧ 0 ≤ n_to.toInt ∧ n_to.toInt ≤ 600 ∧ 0 ≤ n_tl.toInt ∧ n_tl.toInt ≤ 600) (yv : 0 ≤ v1.toInt ∧ v1.toInt < n_tl.toInt) (hi1_0 : 0 ≤ c_1.toInt ∧ c_1.toInt ≤ 13) (hmu1 : (13 - c_1.toInt) < ((n1 + 1 : Nat) : Int)) (t_3 : c_1.toInt < (13 : Int)) (h_8 : spN f_bytes (Int32.toNatClampNeg n_tl) (Int32.toNatClampNeg v1) (Int32.toNatClampNeg c_1)) : c_1.toInt < 13 := by
  have := rg_rng n_ta; have := rg_rng n_to; have := rg_rng n_tl; have := rg_rng v1; have := rg_rng c_1; omega
theorem lg_X9_codeOfWord_8 (n_ta : Int32) (n_to : Int32) (n_tl : Int32) (f_bytes : Nat → Int32) (v1 : Int32) (c_1 : Int32) (n1 : Nat) (yq : 0 ≤ n_ta.toInt ∧ n_ta.toInt ≤ 600 ∧ 0 ≤ n_to.toInt ∧ n_to.toInt ≤ 600 ∧ 0 ≤ n_tl.toInt ∧ n_tl.toInt ≤ 600) (yv : 0 ≤ v1.toInt ∧ v1.toInt < n_tl.toInt) (hi1_0 : 0 ≤ c_1.toInt ∧ c_1.toInt ≤ 13) (hmu1 : (13 - c_1.toInt) < ((n1 + 1 : Nat) : Int)) (t_3 : c_1.toInt < (13 : Int)) (h_8 : spN f_bytes (Int32.toNatClampNeg n_tl) (Int32.toNatClampNeg v1) (Int32.toNatClampNeg c_1)) (t_10 : fwN f_bytes (Int32.toNatClampNeg n_tl) (Int32.toNatClampNeg v1) 13 = c_1.toInt) : c_1.toInt = fwN f_bytes (Int32.toNatClampNeg n_tl) (Int32.toNatClampNeg v1) 13 ∧ (-1) ≤ c_1.toInt ∧ c_1.toInt ≤ 12 := by
  have := rg_rng n_ta; have := rg_rng n_to; have := rg_rng n_tl; have := rg_rng v1; have := rg_rng c_1; omega
theorem lg_X9_codeOfWord_9 (n_ta : Int32) (n_to : Int32) (n_tl : Int32) (f_bytes : Nat → Int32) (v1 : Int32) (c_1 : Int32) (n1 : Nat) (yq : 0 ≤ n_ta.toInt ∧ n_ta.toInt ≤ 600 ∧ 0 ≤ n_to.toInt ∧ n_to.toInt ≤ 600 ∧ 0 ≤ n_tl.toInt ∧ n_tl.toInt ≤ 600) (yv : 0 ≤ v1.toInt ∧ v1.toInt < n_tl.toInt) (hi1_0 : 0 ≤ c_1.toInt ∧ c_1.toInt ≤ 13) (hmu1 : (13 - c_1.toInt) < ((n1 + 1 : Nat) : Int)) (t_3 : c_1.toInt < (13 : Int)) (h_8 : ¬ spN f_bytes (Int32.toNatClampNeg n_tl) (Int32.toNatClampNeg v1) (Int32.toNatClampNeg c_1)) : -2147483648 ≤ c_1.toInt + 1 ∧ c_1.toInt + 1 < 2147483648 := by
  have := rg_rng n_ta; have := rg_rng n_to; have := rg_rng n_tl; have := rg_rng v1; have := rg_rng c_1; omega
theorem lg_X9_codeOfWord_10 (n_ta : Int32) (n_to : Int32) (n_tl : Int32) (f_bytes : Nat → Int32) (v1 : Int32) (c_1 : Int32) (n1 : Nat) (x_12 : Int32) (yq : 0 ≤ n_ta.toInt ∧ n_ta.toInt ≤ 600 ∧ 0 ≤ n_to.toInt ∧ n_to.toInt ≤ 600 ∧ 0 ≤ n_tl.toInt ∧ n_tl.toInt ≤ 600) (yv : 0 ≤ v1.toInt ∧ v1.toInt < n_tl.toInt) (hi1_0 : 0 ≤ c_1.toInt ∧ c_1.toInt ≤ 13) (hmu1 : (13 - c_1.toInt) < ((n1 + 1 : Nat) : Int)) (t_3 : c_1.toInt < (13 : Int)) (h_8 : ¬ spN f_bytes (Int32.toNatClampNeg n_tl) (Int32.toNatClampNeg v1) (Int32.toNatClampNeg c_1)) (t_14 : x_12.toInt = c_1.toInt + 1) : (13 - x_12.toInt) < (n1 : Int) := by
  have := rg_rng n_ta; have := rg_rng n_to; have := rg_rng n_tl; have := rg_rng v1; have := rg_rng c_1; have := rg_rng x_12; omega
theorem lg_X9_codeOfWord_11 (n_ta : Int32) (n_to : Int32) (n_tl : Int32) (f_bytes : Nat → Int32) (v1 : Int32) (c_1 : Int32) (n1 : Nat) (x_12 : Int32) (yq : 0 ≤ n_ta.toInt ∧ n_ta.toInt ≤ 600 ∧ 0 ≤ n_to.toInt ∧ n_to.toInt ≤ 600 ∧ 0 ≤ n_tl.toInt ∧ n_tl.toInt ≤ 600) (yv : 0 ≤ v1.toInt ∧ v1.toInt < n_tl.toInt) (hi1_0 : 0 ≤ c_1.toInt ∧ c_1.toInt ≤ 13) (hmu1 : (13 - c_1.toInt) < ((n1 + 1 : Nat) : Int)) (t_3 : c_1.toInt < (13 : Int)) (h_8 : ¬ spN f_bytes (Int32.toNatClampNeg n_tl) (Int32.toNatClampNeg v1) (Int32.toNatClampNeg c_1)) (t_14 : x_12.toInt = c_1.toInt + 1) : 0 ≤ x_12.toInt ∧ x_12.toInt ≤ 13 := by
  have := rg_rng n_ta; have := rg_rng n_to; have := rg_rng n_tl; have := rg_rng v1; have := rg_rng c_1; have := rg_rng x_12; omega
theorem lg_X9_codeOfWord_12 (n_ta : Int32) (n_to : Int32) (n_tl : Int32) (f_bytes : Nat → Int32) (v1 : Int32) (c_1 : Int32) (n1 : Nat) (x_12 : Int32) (yq : 0 ≤ n_ta.toInt ∧ n_ta.toInt ≤ 600 ∧ 0 ≤ n_to.toInt ∧ n_to.toInt ≤ 600 ∧ 0 ≤ n_tl.toInt ∧ n_tl.toInt ≤ 600) (yv : 0 ≤ v1.toInt ∧ v1.toInt < n_tl.toInt) (hi1_0 : 0 ≤ c_1.toInt ∧ c_1.toInt ≤ 13) (hmu1 : (13 - c_1.toInt) < ((n1 + 1 : Nat) : Int)) (t_3 : c_1.toInt < (13 : Int)) (h_8 : ¬ spN f_bytes (Int32.toNatClampNeg n_tl) (Int32.toNatClampNeg v1) (Int32.toNatClampNeg c_1)) (t_14 : x_12.toInt = c_1.toInt + 1) : x_12.toInt = c_1.toInt + 1 := by
  have := rg_rng n_ta; have := rg_rng n_to; have := rg_rng n_tl; have := rg_rng v1; have := rg_rng c_1; have := rg_rng x_12; omega
set_option maxHeartbeats 4000000 in
set_option maxRecDepth 100000 in
theorem kX9_codeOfWord (l : Launch) (dC : Nat → ClassId) (dI : Nat → Nat → Nat) (sz : Nat) (adK adV : Nat → Nat) (fm : Option Nat) (h0 : Nat) (p_bytes : Nat) (p_ts : Nat) (p_tc : Nat) (n_ta : Int32) (n_to : Int32) (n_tl : Int32) (k_bytes : ClassId) (f_bytes : Nat → Int32) (v1 : Int32) (yq : 0 ≤ n_ta.toInt ∧ n_ta.toInt ≤ 600 ∧ 0 ≤ n_to.toInt ∧ n_to.toInt ≤ 600 ∧ 0 ≤ n_tl.toInt ∧ n_tl.toInt ≤ 600) (yv : 0 ≤ v1.toInt ∧ v1.toInt < n_tl.toInt) : Met l yX9_codeOfWord (Cond.code yX9_codeOfWord cX9_codeOfWord 3 (some .int) :: bg) ({ frames := 5, cells := 0, slots := 0, locals := 109 }) (pcS dC dI [.ref h0, .int v1] sz [(h0, .inr (9, [.ref p_bytes, .ref p_ts, .ref p_tc, .int n_ta, .int n_to, .int n_tl])), (p_bytes, .inl (k_bytes, 600, .inl f_bytes))] [(k_bytes, .byte)] adK adV fm) (va_Qi (fun (r : Int32) (u : Unit) => r.toInt = fwN f_bytes (Int32.toNatClampNeg n_tl) (Int32.toNatClampNeg v1) 13 ∧ (-1) ≤ r.toInt ∧ r.toInt ≤ 12) (fun (u : Unit) (t : State) => va_P (dC, dI) vwCl [(h0, .inr (9, [.ref p_bytes, .ref p_ts, .ref p_tc, .int n_ta, .int n_to, .int n_tl])), (p_bytes, .inl (k_bytes, 600, .inl f_bytes))] t.heap ∧ va_K (dC, dI) vwCl [(k_bytes, .byte)] t ∧ va_D (va_A [(h0, .inr (9, [.ref p_bytes, .ref p_ts, .ref p_tc, .int n_ta, .int n_to, .int n_tl])), (p_bytes, .inl (k_bytes, 600, .inl f_bytes))] sz) [(h0, .inr (9, [.ref p_bytes, .ref p_ts, .ref p_tc, .int n_ta, .int n_to, .int n_tl])), (p_bytes, .inl (k_bytes, 600, .inl f_bytes))]) (va_A [(h0, .inr (9, [.ref p_bytes, .ref p_ts, .ref p_tc, .int n_ta, .int n_to, .int n_tl])), (p_bytes, .inl (k_bytes, 600, .inl f_bytes))] sz)) 0 0 (va_A [(h0, .inr (9, [.ref p_bytes, .ref p_ts, .ref p_tc, .int n_ta, .int n_to, .int n_tl])), (p_bytes, .inl (k_bytes, 600, .inl f_bytes))] sz) := by
  refine Met.ofW (cc := cX9_codeOfWord) (maxL := 3) (ret := (some .int)) pnX9 rfl ?_
  intro p e s m args below meth c s₁ B hml hv
  obtain ⟨rfl, hsz, hP, hK, hD0, hN, hE, hR⟩ := hv
  have hx := B.exec
  have hb := B.bytes
  have hr := B.returns
  have htb : ∀ w ∈ bg, w.before [.ref h0, .int v1].toArray s = true := fun w h => atoms_spec (ws := Cond.code yX9_codeOfWord cX9_codeOfWord 3 (some .int) :: bg) B.pre w (List.mem_cons_of_mem _ h)
  have hown : s.vm.findClass RX9 = some m.cls := findClass_of_methodNamed B.named
  have hlocks := B.notSynchronized
  subst hsz
  have hD := hD0.self (sz := s.heap.size)
  generalize hAe : va_A [(h0, .inr (9, [.ref p_bytes, .ref p_ts, .ref p_tc, .int n_ta, .int n_to, .int n_tl])), (p_bytes, .inl (k_bytes, 600, .inl f_bytes))] s.heap.size = A at hD hE ⊢
  have hA : ∀ q : Nat, s.heap.size ≤ q → A q := fun q h => by rw [← hAe]; exact Or.inr h
  have hS : va_S A s.heap s.heap [] := va_S.rf
  have hl := lv_entry ([.ref h0, .int v1]) (n := 3) (Nat.le_of_ble_eq_true rfl)
  rw [lg_entry_eq]
  generalize (lg_sl ([.ref h0, .int v1]) ++ List.replicate (3 - (lg_sl ([.ref h0, .int v1])).length) Slot.unset).toArray = ls at hl ⊢
  change lv_has ls 3 [(0, .ref h0), (1, .int v1)] at hl
  clear hD0 hAe
  refine go0 (wsP := fun H => va_P (dC, dI) vwCl [(h0, .inr (9, [.ref p_bytes, .ref p_ts, .ref p_tc, .int n_ta, .int n_to, .int n_tl])), (p_bytes, .inl (k_bytes, 600, .inl f_bytes))] H) hP hS ?_
  clear hP hS; intro H locs hP hS
  change va_P (dC, dI) vwCl [(h0, .inr (9, [.ref p_bytes, .ref p_ts, .ref p_tc, .int n_ta, .int n_to, .int n_tl])), (p_bytes, .inl (k_bytes, 600, .inl f_bytes))] H at hP
  refine lv_iconst (v := 0) hx hb dX9_codeOfWord_0 (by decide) ?_
  refine lv_istore_n (lv' := [(2, .int 0), (0, .ref h0), (1, .int v1)]) hx hb dX9_codeOfWord_1 rfl hl (by decide) rfl ?_
  clear hl; intro ls hl
  refine (fun (lp : ∀ (n1 : Nat) (c_1 : Int32) (H : Heap) (locs : List Loc) (ls : Array Slot), (13 - c_1.toInt) < (n1 : Int) → (0 ≤ c_1.toInt ∧ c_1.toInt ≤ 13) → (Fw f_bytes n_tl v1 c_1) → lv_has ls 3 [(2, .int c_1), (0, .ref h0), (1, .int v1)] → va_P (dC, dI) vwCl [(h0, .inr (9, [.ref p_bytes, .ref p_ts, .ref p_tc, .int n_ta, .int n_to, .int n_tl])), (p_bytes, .inl (k_bytes, 600, .inl f_bytes))] H → va_D A [(h0, .inr (9, [.ref p_bytes, .ref p_ts, .ref p_tc, .int n_ta, .int n_to, .int n_tl])), (p_bytes, .inl (k_bytes, 600, .inl f_bytes))] → va_S A s.heap H locs → W p l e _ s m _ below meth c H locs _ _ _ (F0 m 2 ls [])) => lp (Int.toNat (13 - (0 : Int)) + 1) 0   H locs ls ((lg_X9_codeOfWord_0 n_ta n_to n_tl v1 yq yv)) (lg_X9_codeOfWord_1 n_ta n_to n_tl v1 yq yv)  Fw_0 hl hP hD hS) ?_
  clear hP hD hS hl
  intro n1
  induction n1 with
  | zero =>
    intro c_1 H locs ls hmu1 hi1_0  hp1_0 hl hP hD hS
    exact False.elim (lg_X9_codeOfWord_2 n_ta n_to n_tl v1 c_1 yq yv hi1_0 hmu1)
  | succ n1 ih1 =>
    intro c_1 H locs ls hmu1 hi1_0  hp1_0 hl hP hD hS
    refine lv_iload_n hx hb dX9_codeOfWord_2 rfl (lv_at hl 0 rfl) ?_
    refine lv_bipush (v := 13) hx hb dX9_codeOfWord_3 (by decide) ?_
    refine lv_icmp_ge (tgt := 28) hx hb dX9_codeOfWord_5 (by decide) (fun c_2 => ?_) (fun c_2 => ?_)
    · have t_3 : (13 : Int) ≤ c_1.toInt := i_le (by decide) rfl c_2
      have t_4 : fwN f_bytes (Int32.toNatClampNeg n_tl) (Int32.toNatClampNeg v1) 13 = -1 := Fw_e hp1_0 (lg_X9_codeOfWord_3 n_ta n_to n_tl v1 c_1 n1 yq yv hi1_0 hmu1 t_3)
      refine lv_iconst (v := (-1)) hx hb dX9_codeOfWord_28 (by decide) ?_
      refine W.widen (k := 0) (n := 0) (Nat.le_of_ble_eq_true rfl) (Nat.le_of_ble_eq_true rfl) ?_
      have hP9 := hP.sub (ws' := [(h0, .inr (9, [.ref p_bytes, .ref p_ts, .ref p_tc, .int n_ta, .int n_to, .int n_tl])), (p_bytes, .inl (k_bytes, 600, .inl f_bytes))]) [0, 1] rfl
      have hD9 := hD.sub (ws' := [(h0, .inr (9, [.ref p_bytes, .ref p_ts, .ref p_tc, .int n_ta, .int n_to, .int n_tl])), (p_bytes, .inl (k_bytes, 600, .inl f_bytes))]) [0, 1] (by decide) rfl
      have hK9 := hK.sub (tys' := [(k_bytes, .byte)]) [0] rfl
      exact W.iret (v := (-1)) hx hb hr (fun t ht hW => ⟨⟨(-1), (), rfl, (lg_X9_codeOfWord_4 n_ta n_to n_tl f_bytes v1 c_1 n1 yq yv hi1_0 hmu1 t_3 t_4), ⟨by rw [ht]; exact hP9, va_K.moved hW.alike hK9, hD9⟩⟩, hS.F ht⟩) hS.2.2 dX9_codeOfWord_29
    · have t_3 : c_1.toInt < (13 : Int) := i_nle (by decide) rfl c_2
      refine lv_aload_n hx hb dX9_codeOfWord_8 rfl (lv_at hl 1 rfl) ?_
      refine lv_iload_n hx hb dX9_codeOfWord_9 rfl (lv_at hl 2 rfl) ?_
      refine lv_iload_n hx hb dX9_codeOfWord_10 rfl (lv_at hl 0 rfl) ?_
      have hPc := hP.sub (ws' := []) [] rfl
      have hDc := hD.sub (ws' := []) [] (by decide) rfl
      have hKc := hK.sub (tys' := []) [] rfl
      have hFc := va_free (wc := []) hD hS hA [] rfl
      refine va_callr (va_runS (As := [.int c_1]) (rest := [.int v1, .ref h0]) ⟨hx, hb, hml, hown, htb⟩ (kX9_wordOf l dC dI H.size adK adV fm c_1 (lg_X9_codeOfWord_5 n_ta n_to n_tl v1 c_1 n1 yq yv hi1_0 hmu1 t_3)) ⟨callB_of 1 htb (gd_c m_832) rfl rfl rfl (htb _ m_10) (htb _ m_830) hdX9_wordOf ⟨(Nat.le_of_ble_eq_true rfl), (Nat.le_of_ble_eq_true rfl)⟩, htb _ m_831⟩ ⟨pcS_blind, pcS_at hPc hKc hDc hN hE hR hS hFc⟩ rfl rfl hl.1 rfl (lv_room (Nat.le_of_ble_eq_true rfl)) dX9_codeOfWord_11 ⟨(Nat.le_of_ble_eq_true rfl), (Nat.le_of_ble_eq_true rfl)⟩) hS (fun q _ h => hFc q h) hFc (fun u ra t H1 locs1 ht hvm h_6 hB hz1 hk1 hS1 => ?_)
      obtain ⟨hra, hP1, hK1, hD1⟩ := hB
      rw [ht] at hP1
      obtain ⟨hPn, hDn⟩ := va_join (wr := [(h0, .inr (9, [.ref p_bytes, .ref p_ts, .ref p_tc, .int n_ta, .int n_to, .int n_tl])), (p_bytes, .inl (k_bytes, 600, .inl f_bytes))]) (w1 := []) hP hD [] [0, 1] rfl rfl (by decide) (by decide) hk1 hFc hP1 hD1
      clear hP1 hD1 hK1
      clear hP hD hS hPc hDc hKc hFc hk1 hz1 ht hvm
      clear t
      revert hS1 hPn hDn; generalize H1 = H; generalize locs1 = locs; intro hS hP hD
      change va_P (dC, dI) vwCl [(h0, .inr (9, [.ref p_bytes, .ref p_ts, .ref p_tc, .int n_ta, .int n_to, .int n_tl])), (p_bytes, .inl (k_bytes, 600, .inl f_bytes))] H at hP
      change va_D A [(h0, .inr (9, [.ref p_bytes, .ref p_ts, .ref p_tc, .int n_ta, .int n_to, .int n_tl])), (p_bytes, .inl (k_bytes, 600, .inl f_bytes))] at hD
      subst hra
      have hPc := hP.sub (ws' := [(h0, .inr (9, [.ref p_bytes, .ref p_ts, .ref p_tc, .int n_ta, .int n_to, .int n_tl])), (p_bytes, .inl (k_bytes, 600, .inl f_bytes))]) [0, 1] rfl
      have hDc := hD.sub (ws' := [(h0, .inr (9, [.ref p_bytes, .ref p_ts, .ref p_tc, .int n_ta, .int n_to, .int n_tl])), (p_bytes, .inl (k_bytes, 600, .inl f_bytes))]) [0, 1] (by decide) rfl
      have hKc := hK.sub (tys' := [(k_bytes, .byte)]) [0] rfl
      have hFc := va_free (wc := [(h0, .inr (9, [.ref p_bytes, .ref p_ts, .ref p_tc, .int n_ta, .int n_to, .int n_tl])), (p_bytes, .inl (k_bytes, 600, .inl f_bytes))]) hD hS hA [0, 1] rfl
      refine va_calli (va_runV (C := RX9) (As := [.int v1, .ref (adK (Int32.toNatClampNeg c_1))]) (rest := []) ⟨hx, hb, hml, hown, htb⟩ (kX9_isSpeltAt l dC dI H.size adK adV fm h0 p_bytes p_ts p_tc n_ta n_to n_tl k_bytes f_bytes v1 (Int32.toNatClampNeg c_1) (cl_lt (lg_X9_codeOfWord_6 n_ta n_to n_tl v1 c_1 n1 yq yv hi1_0 hmu1 t_3)) yq yv) ⟨callB_of 2 htb (gd_c m_849) rfl rfl rfl (htb _ m_10) (htb _ m_846) hdX9_isSpeltAt ⟨(Nat.le_of_ble_eq_true rfl), (Nat.le_of_ble_eq_true rfl)⟩, htb _ m_848, htb _ ms_20⟩ ⟨pcS_blind, va_recv hKc hPc (ci := 9) (q0 := 0) rfl rfl, pcS_at hPc hKc hDc hN hE hR hS hFc⟩ rfl rfl hl.1 rfl (lv_room (Nat.le_of_ble_eq_true rfl)) dX9_codeOfWord_14 ⟨(Nat.le_of_ble_eq_true rfl), (Nat.le_of_ble_eq_true rfl)⟩) hS (fun q _ h => hFc q h) hFc (fun r_7 u t H1 locs1 ht hvm h_8 hB hz1 hk1 hS1 => ?_)
      obtain ⟨hP1, hK1, hD1⟩ := hB
      rw [ht] at hP1
      obtain ⟨hPn, hDn⟩ := va_join (wr := []) (w1 := [(h0, .inr (9, [.ref p_bytes, .ref p_ts, .ref p_tc, .int n_ta, .int n_to, .int n_tl])), (p_bytes, .inl (k_bytes, 600, .inl f_bytes))]) hP hD [0, 1] [] rfl rfl (by decide) (by decide) hk1 hFc hP1 hD1
      clear hP1 hD1 hK1
      clear hP hD hS hPc hDc hKc hFc hk1 hz1 ht hvm
      clear t
      revert hS1 hPn hDn; generalize H1 = H; generalize locs1 = locs; intro hS hP hD
      change va_P (dC, dI) vwCl [(h0, .inr (9, [.ref p_bytes, .ref p_ts, .ref p_tc, .int n_ta, .int n_to, .int n_tl])), (p_bytes, .inl (k_bytes, 600, .inl f_bytes))] H at hP
      change va_D A [(h0, .inr (9, [.ref p_bytes, .ref p_ts, .ref p_tc, .int n_ta, .int n_to, .int n_tl])), (p_bytes, .inl (k_bytes, 600, .inl f_bytes))] at hD
      rcases h_8 with ⟨rfl, h_8⟩ | ⟨rfl, h_8⟩
      · refine lv_if_eq (tgt := 22) hx hb dX9_codeOfWord_17 (by decide) (fun c_9 => absurd c_9 (by decide)) ?_
        intro _
        have t_10 : fwN f_bytes (Int32.toNatClampNeg n_tl) (Int32.toNatClampNeg v1) 13 = c_1.toInt := Fw_t hp1_0 h_8 (lg_X9_codeOfWord_7 n_ta n_to n_tl f_bytes v1 c_1 n1 yq yv hi1_0 hmu1 t_3 h_8)
        refine lv_iload_n hx hb dX9_codeOfWord_20 rfl (lv_at hl 0 rfl) ?_
        refine W.widen (k := 0) (n := 0) (Nat.le_of_ble_eq_true rfl) (Nat.le_of_ble_eq_true rfl) ?_
        have hP9 := hP.sub (ws' := [(h0, .inr (9, [.ref p_bytes, .ref p_ts, .ref p_tc, .int n_ta, .int n_to, .int n_tl])), (p_bytes, .inl (k_bytes, 600, .inl f_bytes))]) [0, 1] rfl
        have hD9 := hD.sub (ws' := [(h0, .inr (9, [.ref p_bytes, .ref p_ts, .ref p_tc, .int n_ta, .int n_to, .int n_tl])), (p_bytes, .inl (k_bytes, 600, .inl f_bytes))]) [0, 1] (by decide) rfl
        have hK9 := hK.sub (tys' := [(k_bytes, .byte)]) [0] rfl
        exact W.iret (v := c_1) hx hb hr (fun t ht hW => ⟨⟨c_1, (), rfl, (lg_X9_codeOfWord_8 n_ta n_to n_tl f_bytes v1 c_1 n1 yq yv hi1_0 hmu1 t_3 h_8 t_10), ⟨by rw [ht]; exact hP9, va_K.moved hW.alike hK9, hD9⟩⟩, hS.F ht⟩) hS.2.2 dX9_codeOfWord_21
      · refine lv_if_eq (tgt := 22) hx hb dX9_codeOfWord_17 (by decide) ?_ (fun c_11 => absurd (by decide) c_11)
        intro _
        obtain ⟨x_12, ex_13⟩ : ∃ y : Int32, y = c_1 + Int32.ofInt 1 := ⟨_, rfl⟩
        have t_14 : x_12.toInt = c_1.toInt + 1 := i_add rfl (by decide) (lg_X9_codeOfWord_9 n_ta n_to n_tl f_bytes v1 c_1 n1 yq yv hi1_0 hmu1 t_3 h_8) ex_13
        refine lv_iinc (v := x_12) (lv' := [(2, .int x_12), (0, .ref h0), (1, .int v1)]) hx hb dX9_codeOfWord_22 hl (k := 0) rfl ex_13.symm (by decide) rfl ?_
        clear hl; intro ls hl
        refine lv_goto (tgt := 2) hx hb dX9_codeOfWord_25 (by decide) ?_
        exact ih1 x_12  H locs ls (lg_X9_codeOfWord_10 n_ta n_to n_tl f_bytes v1 c_1 n1 x_12 yq yv hi1_0 hmu1 t_3 h_8 t_14) (lg_X9_codeOfWord_11 n_ta n_to n_tl f_bytes v1 c_1 n1 x_12 yq yv hi1_0 hmu1 t_3 h_8 t_14)  (Fw_s hp1_0 h_8 (lg_X9_codeOfWord_12 n_ta n_to n_tl f_bytes v1 c_1 n1 x_12 yq yv hi1_0 hmu1 t_3 h_8 t_14)) (lv_sub hl [0, 1, 2] rfl) (hP.sub [0, 1] rfl) (hD.sub [0, 1] (by decide) rfl) hS

theorem lg_X9_codeAt_0 (n_ta : Int32) (n_to : Int32) (n_tl : Int32) (f_bytes : Nat → Int32) (v1 : Int32) (yq : 0 ≤ n_ta.toInt ∧ n_ta.toInt ≤ 600 ∧ 0 ≤ n_to.toInt ∧ n_to.toInt ≤ 600 ∧ 0 ≤ n_tl.toInt ∧ n_tl.toInt ≤ 600) (yv : 0 ≤ v1.toInt ∧ v1.toInt < n_tl.toInt) (yk : ¬ kdN f_bytes (Int32.toNatClampNeg n_tl) (Int32.toNatClampNeg v1) = 3) : 0 ≤ v1.toInt := by
  have := rg_rng n_ta; have := rg_rng n_to; have := rg_rng n_tl; have := rg_rng v1; omega
theorem lg_X9_codeAt_1 (n_ta : Int32) (n_to : Int32) (n_tl : Int32) (f_bytes : Nat → Int32) (v1 : Int32) (r_1 : Int32) (r_5 : Int32) (yq : 0 ≤ n_ta.toInt ∧ n_ta.toInt ≤ 600 ∧ 0 ≤ n_to.toInt ∧ n_to.toInt ≤ 600 ∧ 0 ≤ n_tl.toInt ∧ n_tl.toInt ≤ 600) (yv : 0 ≤ v1.toInt ∧ v1.toInt < n_tl.toInt) (yk : ¬ kdN f_bytes (Int32.toNatClampNeg n_tl) (Int32.toNatClampNeg v1) = 3) (h_2 : r_1.toInt = kdN f_bytes (Int32.toNatClampNeg n_tl) (Int32.toNatClampNeg v1) ∧ 0 ≤ r_1.toInt ∧ r_1.toInt ≤ 3) (t_4 : r_1.toInt = 0) (h_6 : r_5.toInt = fwN f_bytes (Int32.toNatClampNeg n_tl) (Int32.toNatClampNeg v1) 13 ∧ (-1) ≤ r_5.toInt ∧ r_5.toInt ≤ 12) : r_5.toInt = cdN f_bytes (Int32.toNatClampNeg n_tl) (Int32.toNatClampNeg v1) := by
  have := rg_rng n_ta; have := rg_rng n_to; have := rg_rng n_tl; have := rg_rng v1; have := rg_rng r_1; have := rg_rng r_5; unfold cdN; (repeat' split) <;> omega
theorem lg_X9_codeAt_2 (n_ta : Int32) (n_to : Int32) (n_tl : Int32) (f_bytes : Nat → Int32) (v1 : Int32) (r_1 : Int32) (r_10 : Int32) (yq : 0 ≤ n_ta.toInt ∧ n_ta.toInt ≤ 600 ∧ 0 ≤ n_to.toInt ∧ n_to.toInt ≤ 600 ∧ 0 ≤ n_tl.toInt ∧ n_tl.toInt ≤ 600) (yv : 0 ≤ v1.toInt ∧ v1.toInt < n_tl.toInt) (yk : ¬ kdN f_bytes (Int32.toNatClampNeg n_tl) (Int32.toNatClampNeg v1) = 3) (h_2 : r_1.toInt = kdN f_bytes (Int32.toNatClampNeg n_tl) (Int32.toNatClampNeg v1) ∧ 0 ≤ r_1.toInt ∧ r_1.toInt ≤ 3) (t_7 : ¬ r_1.toInt = 0) (t_9 : r_1.toInt = 1) (h_11 : r_10.toInt = cnN f_bytes (Int32.toNatClampNeg n_tl) (Int32.toNatClampNeg v1)) : r_10.toInt = cdN f_bytes (Int32.toNatClampNeg n_tl) (Int32.toNatClampNeg v1) := by
  have := rg_rng n_ta; have := rg_rng n_to; have := rg_rng n_tl; have := rg_rng v1; have := rg_rng r_1; have := rg_rng r_10; unfold cdN; (repeat' split) <;> omega
theorem lg_X9_codeAt_3 (n_ta : Int32) (n_to : Int32) (n_tl : Int32) (f_bytes : Nat → Int32) (v1 : Int32) (r_1 : Int32) (r_13 : Int32) (yq : 0 ≤ n_ta.toInt ∧ n_ta.toInt ≤ 600 ∧ 0 ≤ n_to.toInt ∧ n_to.toInt ≤ 600 ∧ 0 ≤ n_tl.toInt ∧ n_tl.toInt ≤ 600) (yv : 0 ≤ v1.toInt ∧ v1.toInt < n_tl.toInt) (yk : ¬ kdN f_bytes (Int32.toNatClampNeg n_tl) (Int32.toNatClampNeg v1) = 3) (h_2 : r_1.toInt = kdN f_bytes (Int32.toNatClampNeg n_tl) (Int32.toNatClampNeg v1) ∧ 0 ≤ r_1.toInt ∧ r_1.toInt ≤ 3) (t_7 : ¬ r_1.toInt = 0) (t_12 : ¬ r_1.toInt = 1) (h_14 : r_13.toInt = csN (f_bytes (Int32.toNatClampNeg v1)).toInt) : r_13.toInt = cdN f_bytes (Int32.toNatClampNeg n_tl) (Int32.toNatClampNeg v1) := by
  have := rg_rng n_ta; have := rg_rng n_to; have := rg_rng n_tl; have := rg_rng v1; have := rg_rng r_1; have := rg_rng r_13; unfold cdN; (repeat' split) <;> omega
set_option maxHeartbeats 4000000 in
set_option maxRecDepth 100000 in
theorem kX9_codeAt (l : Launch) (dC : Nat → ClassId) (dI : Nat → Nat → Nat) (sz : Nat) (adK adV : Nat → Nat) (fm : Option Nat) (h0 : Nat) (p_bytes : Nat) (p_ts : Nat) (p_tc : Nat) (n_ta : Int32) (n_to : Int32) (n_tl : Int32) (k_bytes : ClassId) (f_bytes : Nat → Int32) (v1 : Int32) (yq : 0 ≤ n_ta.toInt ∧ n_ta.toInt ≤ 600 ∧ 0 ≤ n_to.toInt ∧ n_to.toInt ≤ 600 ∧ 0 ≤ n_tl.toInt ∧ n_tl.toInt ≤ 600) (yv : 0 ≤ v1.toInt ∧ v1.toInt < n_tl.toInt) (yk : ¬ kdN f_bytes (Int32.toNatClampNeg n_tl) (Int32.toNatClampNeg v1) = 3) : Met l yX9_codeAt (Cond.code yX9_codeAt cX9_codeAt 2 (some .int) :: bg) ({ frames := 6, cells := 0, slots := 0, locals := 131 }) (pcS dC dI [.ref h0, .int v1] sz [(h0, .inr (9, [.ref p_bytes, .ref p_ts, .ref p_tc, .int n_ta, .int n_to, .int n_tl])), (p_bytes, .inl (k_bytes, 600, .inl f_bytes))] [(k_bytes, .byte)] adK adV fm) (va_Qi (fun (r : Int32) (u : Unit) => r.toInt = cdN f_bytes (Int32.toNatClampNeg n_tl) (Int32.toNatClampNeg v1)) (fun (u : Unit) (t : State) => va_P (dC, dI) vwCl [(h0, .inr (9, [.ref p_bytes, .ref p_ts, .ref p_tc, .int n_ta, .int n_to, .int n_tl])), (p_bytes, .inl (k_bytes, 600, .inl f_bytes))] t.heap ∧ va_K (dC, dI) vwCl [(k_bytes, .byte)] t ∧ va_D (va_A [(h0, .inr (9, [.ref p_bytes, .ref p_ts, .ref p_tc, .int n_ta, .int n_to, .int n_tl])), (p_bytes, .inl (k_bytes, 600, .inl f_bytes))] sz) [(h0, .inr (9, [.ref p_bytes, .ref p_ts, .ref p_tc, .int n_ta, .int n_to, .int n_tl])), (p_bytes, .inl (k_bytes, 600, .inl f_bytes))]) (va_A [(h0, .inr (9, [.ref p_bytes, .ref p_ts, .ref p_tc, .int n_ta, .int n_to, .int n_tl])), (p_bytes, .inl (k_bytes, 600, .inl f_bytes))] sz)) 0 0 (va_A [(h0, .inr (9, [.ref p_bytes, .ref p_ts, .ref p_tc, .int n_ta, .int n_to, .int n_tl])), (p_bytes, .inl (k_bytes, 600, .inl f_bytes))] sz) := by
  refine Met.ofW (cc := cX9_codeAt) (maxL := 2) (ret := (some .int)) pnX9 rfl ?_
  intro p e s m args below meth c s₁ B hml hv
  obtain ⟨rfl, hsz, hP, hK, hD0, hN, hE, hR⟩ := hv
  have hx := B.exec
  have hb := B.bytes
  have hr := B.returns
  have htb : ∀ w ∈ bg, w.before [.ref h0, .int v1].toArray s = true := fun w h => atoms_spec (ws := Cond.code yX9_codeAt cX9_codeAt 2 (some .int) :: bg) B.pre w (List.mem_cons_of_mem _ h)
  have hown : s.vm.findClass RX9 = some m.cls := findClass_of_methodNamed B.named
  have hlocks := B.notSynchronized
  subst hsz
  have hD := hD0.self (sz := s.heap.size)
  generalize hAe : va_A [(h0, .inr (9, [.ref p_bytes, .ref p_ts, .ref p_tc, .int n_ta, .int n_to, .int n_tl])), (p_bytes, .inl (k_bytes, 600, .inl f_bytes))] s.heap.size = A at hD hE ⊢
  have hA : ∀ q : Nat, s.heap.size ≤ q → A q := fun q h => by rw [← hAe]; exact Or.inr h
  have hS : va_S A s.heap s.heap [] := va_S.rf
  have hl := lv_entry ([.ref h0, .int v1]) (n := 2) (Nat.le_of_ble_eq_true rfl)
  rw [lg_entry_eq]
  generalize (lg_sl ([.ref h0, .int v1]) ++ List.replicate (2 - (lg_sl ([.ref h0, .int v1])).length) Slot.unset).toArray = ls at hl ⊢
  change lv_has ls 2 [(0, .ref h0), (1, .int v1)] at hl
  clear hD0 hAe
  refine go0 (wsP := fun H => va_P (dC, dI) vwCl [(h0, .inr (9, [.ref p_bytes, .ref p_ts, .ref p_tc, .int n_ta, .int n_to, .int n_tl])), (p_bytes, .inl (k_bytes, 600, .inl f_bytes))] H) hP hS ?_
  clear hP hS; intro H locs hP hS
  change va_P (dC, dI) vwCl [(h0, .inr (9, [.ref p_bytes, .ref p_ts, .ref p_tc, .int n_ta, .int n_to, .int n_tl])), (p_bytes, .inl (k_bytes, 600, .inl f_bytes))] H at hP
  refine lv_aload_n hx hb dX9_codeAt_0 rfl (lv_at hl 0 rfl) ?_
  refine lv_iload_n hx hb dX9_codeAt_1 rfl (lv_at hl 1 rfl) ?_
  have hPc := hP.sub (ws' := [(h0, .inr (9, [.ref p_bytes, .ref p_ts, .ref p_tc, .int n_ta, .int n_to, .int n_tl])), (p_bytes, .inl (k_bytes, 600, .inl f_bytes))]) [0, 1] rfl
  have hDc := hD.sub (ws' := [(h0, .inr (9, [.ref p_bytes, .ref p_ts, .ref p_tc, .int n_ta, .int n_to, .int n_tl])), (p_bytes, .inl (k_bytes, 600, .inl f_bytes))]) [0, 1] (by decide) rfl
  have hKc := hK.sub (tys' := [(k_bytes, .byte)]) [0] rfl
  have hFc := va_free (wc := [(h0, .inr (9, [.ref p_bytes, .ref p_ts, .ref p_tc, .int n_ta, .int n_to, .int n_tl])), (p_bytes, .inl (k_bytes, 600, .inl f_bytes))]) hD hS hA [0, 1] rfl
  refine va_calli (va_runV (C := RX9) (As := [.int v1]) (rest := []) ⟨hx, hb, hml, hown, htb⟩ (kX9_kindAt l dC dI H.size h0 p_bytes p_ts p_tc n_ta n_to n_tl k_bytes f_bytes v1 yq (lg_X9_codeAt_0 n_ta n_to n_tl f_bytes v1 yq yv yk)) ⟨callB_of 1 htb (gd_c m_821) rfl rfl rfl (htb _ m_10) (htb _ m_818) hdX9_kindAt ⟨(Nat.le_of_ble_eq_true rfl), (Nat.le_of_ble_eq_true rfl)⟩, htb _ m_820, htb _ ms_17⟩ ⟨pcW_blind, va_recv hKc hPc (ci := 9) (q0 := 0) rfl rfl, pcW_at hPc hKc hDc hN⟩ rfl rfl hl.1 rfl (lv_room (Nat.le_of_ble_eq_true rfl)) dX9_codeAt_2 ⟨(Nat.le_of_ble_eq_true rfl), (Nat.le_of_ble_eq_true rfl)⟩) hS (fun q _ h => hFc q h) hFc (fun r_1 u t H1 locs1 ht hvm h_2 hB hz1 hk1 hS1 => ?_)
  obtain ⟨hP1, hK1, hD1⟩ := hB
  rw [ht] at hP1
  obtain ⟨hPn, hDn⟩ := va_join (wr := []) (w1 := [(h0, .inr (9, [.ref p_bytes, .ref p_ts, .ref p_tc, .int n_ta, .int n_to, .int n_tl])), (p_bytes, .inl (k_bytes, 600, .inl f_bytes))]) hP hD [0, 1] [] rfl rfl (by decide) (by decide) hk1 hFc hP1 hD1
  clear hP1 hD1 hK1
  clear hP hD hS hPc hDc hKc hFc hk1 hz1 ht hvm
  clear t
  revert hS1 hPn hDn; generalize H1 = H; generalize locs1 = locs; intro hS hP hD
  change va_P (dC, dI) vwCl [(h0, .inr (9, [.ref p_bytes, .ref p_ts, .ref p_tc, .int n_ta, .int n_to, .int n_tl])), (p_bytes, .inl (k_bytes, 600, .inl f_bytes))] H at hP
  change va_D A [(h0, .inr (9, [.ref p_bytes, .ref p_ts, .ref p_tc, .int n_ta, .int n_to, .int n_tl])), (p_bytes, .inl (k_bytes, 600, .inl f_bytes))] at hD
  by_cases e_3 : r_1 = 0
  · have t_4 : r_1.toInt = 0 := i_eq rfl (by decide) e_3
    refine lv_lookup (off := 27) (tgt := 32) hx hb dX9_codeAt_5 (by decide) (by rw [e_3]; decide) (by decide) ?_
    refine lv_aload_n hx hb dX9_codeAt_32 rfl (lv_at hl 0 rfl) ?_
    refine lv_iload_n hx hb dX9_codeAt_33 rfl (lv_at hl 1 rfl) ?_
    have hPc := hP.sub (ws' := [(h0, .inr (9, [.ref p_bytes, .ref p_ts, .ref p_tc, .int n_ta, .int n_to, .int n_tl])), (p_bytes, .inl (k_bytes, 600, .inl f_bytes))]) [0, 1] rfl
    have hDc := hD.sub (ws' := [(h0, .inr (9, [.ref p_bytes, .ref p_ts, .ref p_tc, .int n_ta, .int n_to, .int n_tl])), (p_bytes, .inl (k_bytes, 600, .inl f_bytes))]) [0, 1] (by decide) rfl
    have hKc := hK.sub (tys' := [(k_bytes, .byte)]) [0] rfl
    have hFc := va_free (wc := [(h0, .inr (9, [.ref p_bytes, .ref p_ts, .ref p_tc, .int n_ta, .int n_to, .int n_tl])), (p_bytes, .inl (k_bytes, 600, .inl f_bytes))]) hD hS hA [0, 1] rfl
    refine va_calli (va_runV (C := RX9) (As := [.int v1]) (rest := []) ⟨hx, hb, hml, hown, htb⟩ (kX9_codeOfWord l dC dI H.size adK adV fm h0 p_bytes p_ts p_tc n_ta n_to n_tl k_bytes f_bytes v1 yq yv) ⟨callB_of 1 htb (gd_c m_829) rfl rfl rfl (htb _ m_10) (htb _ m_826) hdX9_codeOfWord ⟨(Nat.le_of_ble_eq_true rfl), (Nat.le_of_ble_eq_true rfl)⟩, htb _ m_828, htb _ ms_19⟩ ⟨pcS_blind, va_recv hKc hPc (ci := 9) (q0 := 0) rfl rfl, pcS_at hPc hKc hDc hN hE hR hS hFc⟩ rfl rfl hl.1 rfl (lv_room (Nat.le_of_ble_eq_true rfl)) dX9_codeAt_34 ⟨(Nat.le_of_ble_eq_true rfl), (Nat.le_of_ble_eq_true rfl)⟩) hS (fun q _ h => hFc q h) hFc (fun r_5 u t H1 locs1 ht hvm h_6 hB hz1 hk1 hS1 => ?_)
    obtain ⟨hP1, hK1, hD1⟩ := hB
    rw [ht] at hP1
    obtain ⟨hPn, hDn⟩ := va_join (wr := []) (w1 := [(h0, .inr (9, [.ref p_bytes, .ref p_ts, .ref p_tc, .int n_ta, .int n_to, .int n_tl])), (p_bytes, .inl (k_bytes, 600, .inl f_bytes))]) hP hD [0, 1] [] rfl rfl (by decide) (by decide) hk1 hFc hP1 hD1
    clear hP1 hD1 hK1
    clear hP hD hS hPc hDc hKc hFc hk1 hz1 ht hvm
    clear t
    revert hS1 hPn hDn; generalize H1 = H; generalize locs1 = locs; intro hS hP hD
    change va_P (dC, dI) vwCl [(h0, .inr (9, [.ref p_bytes, .ref p_ts, .ref p_tc, .int n_ta, .int n_to, .int n_tl])), (p_bytes, .inl (k_bytes, 600, .inl f_bytes))] H at hP
    change va_D A [(h0, .inr (9, [.ref p_bytes, .ref p_ts, .ref p_tc, .int n_ta, .int n_to, .int n_tl])), (p_bytes, .inl (k_bytes, 600, .inl f_bytes))] at hD
    refine W.widen (k := 0) (n := 0) (Nat.le_of_ble_eq_true rfl) (Nat.le_of_ble_eq_true rfl) ?_
    have hP9 := hP.sub (ws' := [(h0, .inr (9, [.ref p_bytes, .ref p_ts, .ref p_tc, .int n_ta, .int n_to, .int n_tl])), (p_bytes, .inl (k_bytes, 600, .inl f_bytes))]) [0, 1] rfl
    have hD9 := hD.sub (ws' := [(h0, .inr (9, [.ref p_bytes, .ref p_ts, .ref p_tc, .int n_ta, .int n_to, .int n_tl])), (p_bytes, .inl (k_bytes, 600, .inl f_bytes))]) [0, 1] (by decide) rfl
    have hK9 := hK.sub (tys' := [(k_bytes, .byte)]) [0] rfl
    exact W.iret (v := r_5) hx hb hr (fun t ht hW => ⟨⟨r_5, (), rfl, (lg_X9_codeAt_1 n_ta n_to n_tl f_bytes v1 r_1 r_5 yq yv yk h_2 t_4 h_6), ⟨by rw [ht]; exact hP9, va_K.moved hW.alike hK9, hD9⟩⟩, hS.F ht⟩) hS.2.2 dX9_codeAt_37
  have t_7 : ¬ r_1.toInt = 0 := i_ne rfl (by decide) e_3
  by_cases e_8 : r_1 = 1
  · have t_9 : r_1.toInt = 1 := i_eq rfl (by decide) e_8
    refine lv_lookup (off := 33) (tgt := 38) hx hb dX9_codeAt_5 (by decide) (by rw [e_8]; decide) (by decide) ?_
    refine lv_aload_n hx hb dX9_codeAt_38 rfl (lv_at hl 0 rfl) ?_
    refine lv_iload_n hx hb dX9_codeAt_39 rfl (lv_at hl 1 rfl) ?_
    have hPc := hP.sub (ws' := [(h0, .inr (9, [.ref p_bytes, .ref p_ts, .ref p_tc, .int n_ta, .int n_to, .int n_tl])), (p_bytes, .inl (k_bytes, 600, .inl f_bytes))]) [0, 1] rfl
    have hDc := hD.sub (ws' := [(h0, .inr (9, [.ref p_bytes, .ref p_ts, .ref p_tc, .int n_ta, .int n_to, .int n_tl])), (p_bytes, .inl (k_bytes, 600, .inl f_bytes))]) [0, 1] (by decide) rfl
    have hKc := hK.sub (tys' := [(k_bytes, .byte)]) [0] rfl
    have hFc := va_free (wc := [(h0, .inr (9, [.ref p_bytes, .ref p_ts, .ref p_tc, .int n_ta, .int n_to, .int n_tl])), (p_bytes, .inl (k_bytes, 600, .inl f_bytes))]) hD hS hA [0, 1] rfl
    refine va_calli (va_runV (C := RX9) (As := [.int v1]) (rest := []) ⟨hx, hb, hml, hown, htb⟩ (kX9_codeOfNumber l dC dI H.size h0 p_bytes p_ts p_tc n_ta n_to n_tl k_bytes f_bytes v1 yq yv) ⟨callB_of 1 htb (gd_c m_901) rfl rfl rfl (htb _ m_10) (htb _ m_898) hdX9_codeOfNumber ⟨(Nat.le_of_ble_eq_true rfl), (Nat.le_of_ble_eq_true rfl)⟩, htb _ m_900, htb _ ms_21⟩ ⟨pcW_blind, va_recv hKc hPc (ci := 9) (q0 := 0) rfl rfl, pcW_at hPc hKc hDc hN⟩ rfl rfl hl.1 rfl (lv_room (Nat.le_of_ble_eq_true rfl)) dX9_codeAt_40 ⟨(Nat.le_of_ble_eq_true rfl), (Nat.le_of_ble_eq_true rfl)⟩) hS (fun q _ h => hFc q h) hFc (fun r_10 u t H1 locs1 ht hvm h_11 hB hz1 hk1 hS1 => ?_)
    obtain ⟨hP1, hK1, hD1⟩ := hB
    rw [ht] at hP1
    obtain ⟨hPn, hDn⟩ := va_join (wr := []) (w1 := [(h0, .inr (9, [.ref p_bytes, .ref p_ts, .ref p_tc, .int n_ta, .int n_to, .int n_tl])), (p_bytes, .inl (k_bytes, 600, .inl f_bytes))]) hP hD [0, 1] [] rfl rfl (by decide) (by decide) hk1 hFc hP1 hD1
    clear hP1 hD1 hK1
    clear hP hD hS hPc hDc hKc hFc hk1 hz1 ht hvm
    clear t
    revert hS1 hPn hDn; generalize H1 = H; generalize locs1 = locs; intro hS hP hD
    change va_P (dC, dI) vwCl [(h0, .inr (9, [.ref p_bytes, .ref p_ts, .ref p_tc, .int n_ta, .int n_to, .int n_tl])), (p_bytes, .inl (k_bytes, 600, .inl f_bytes))] H at hP
    change va_D A [(h0, .inr (9, [.ref p_bytes, .ref p_ts, .ref p_tc, .int n_ta, .int n_to, .int n_tl])), (p_bytes, .inl (k_bytes, 600, .inl f_bytes))] at hD
    refine W.widen (k := 0) (n := 0) (Nat.le_of_ble_eq_true rfl) (Nat.le_of_ble_eq_true rfl) ?_
    have hP9 := hP.sub (ws' := [(h0, .inr (9, [.ref p_bytes, .ref p_ts, .ref p_tc, .int n_ta, .int n_to, .int n_tl])), (p_bytes, .inl (k_bytes, 600, .inl f_bytes))]) [0, 1] rfl
    have hD9 := hD.sub (ws' := [(h0, .inr (9, [.ref p_bytes, .ref p_ts, .ref p_tc, .int n_ta, .int n_to, .int n_tl])), (p_bytes, .inl (k_bytes, 600, .inl f_bytes))]) [0, 1] (by decide) rfl
    have hK9 := hK.sub (tys' := [(k_bytes, .byte)]) [0] rfl
    exact W.iret (v := r_10) hx hb hr (fun t ht hW => ⟨⟨r_10, (), rfl, (lg_X9_codeAt_2 n_ta n_to n_tl f_bytes v1 r_1 r_10 yq yv yk h_2 t_7 t_9 h_11), ⟨by rw [ht]; exact hP9, va_K.moved hW.alike hK9, hD9⟩⟩, hS.F ht⟩) hS.2.2 dX9_codeAt_43
  have t_12 : ¬ r_1.toInt = 1 := i_ne rfl (by decide) e_8
  refine lv_lookup (off := 39) (tgt := 44) hx hb dX9_codeAt_5 (by decide) ((lv_osw e_3 (by decide)).trans ((lv_osw e_8 (by decide)).trans rfl)) (by decide) ?_
  refine lv_aload_n hx hb dX9_codeAt_44 rfl (lv_at hl 0 rfl) ?_
  refine lv_iload_n hx hb dX9_codeAt_45 rfl (lv_at hl 1 rfl) ?_
  have hPc := hP.sub (ws' := [(h0, .inr (9, [.ref p_bytes, .ref p_ts, .ref p_tc, .int n_ta, .int n_to, .int n_tl])), (p_bytes, .inl (k_bytes, 600, .inl f_bytes))]) [0, 1] rfl
  have hDc := hD.sub (ws' := [(h0, .inr (9, [.ref p_bytes, .ref p_ts, .ref p_tc, .int n_ta, .int n_to, .int n_tl])), (p_bytes, .inl (k_bytes, 600, .inl f_bytes))]) [0, 1] (by decide) rfl
  have hKc := hK.sub (tys' := [(k_bytes, .byte)]) [0] rfl
  have hFc := va_free (wc := [(h0, .inr (9, [.ref p_bytes, .ref p_ts, .ref p_tc, .int n_ta, .int n_to, .int n_tl])), (p_bytes, .inl (k_bytes, 600, .inl f_bytes))]) hD hS hA [0, 1] rfl
  refine va_calli (va_runV (C := RX9) (As := [.int v1]) (rest := []) ⟨hx, hb, hml, hown, htb⟩ (kX9_codeOfSign l dC dI H.size h0 p_bytes p_ts p_tc n_ta n_to n_tl k_bytes f_bytes v1 yq yv) ⟨callB_of 1 htb (gd_c m_905) rfl rfl rfl (htb _ m_10) (htb _ m_902) hdX9_codeOfSign ⟨(Nat.le_of_ble_eq_true rfl), (Nat.le_of_ble_eq_true rfl)⟩, htb _ m_904, htb _ ms_22⟩ ⟨pcW_blind, va_recv hKc hPc (ci := 9) (q0 := 0) rfl rfl, pcW_at hPc hKc hDc hN⟩ rfl rfl hl.1 rfl (lv_room (Nat.le_of_ble_eq_true rfl)) dX9_codeAt_46 ⟨(Nat.le_of_ble_eq_true rfl), (Nat.le_of_ble_eq_true rfl)⟩) hS (fun q _ h => hFc q h) hFc (fun r_13 u t H1 locs1 ht hvm h_14 hB hz1 hk1 hS1 => ?_)
  obtain ⟨hP1, hK1, hD1⟩ := hB
  rw [ht] at hP1
  obtain ⟨hPn, hDn⟩ := va_join (wr := []) (w1 := [(h0, .inr (9, [.ref p_bytes, .ref p_ts, .ref p_tc, .int n_ta, .int n_to, .int n_tl])), (p_bytes, .inl (k_bytes, 600, .inl f_bytes))]) hP hD [0, 1] [] rfl rfl (by decide) (by decide) hk1 hFc hP1 hD1
  clear hP1 hD1 hK1
  clear hP hD hS hPc hDc hKc hFc hk1 hz1 ht hvm
  clear t
  revert hS1 hPn hDn; generalize H1 = H; generalize locs1 = locs; intro hS hP hD
  change va_P (dC, dI) vwCl [(h0, .inr (9, [.ref p_bytes, .ref p_ts, .ref p_tc, .int n_ta, .int n_to, .int n_tl])), (p_bytes, .inl (k_bytes, 600, .inl f_bytes))] H at hP
  change va_D A [(h0, .inr (9, [.ref p_bytes, .ref p_ts, .ref p_tc, .int n_ta, .int n_to, .int n_tl])), (p_bytes, .inl (k_bytes, 600, .inl f_bytes))] at hD
  refine W.widen (k := 0) (n := 0) (Nat.le_of_ble_eq_true rfl) (Nat.le_of_ble_eq_true rfl) ?_
  have hP9 := hP.sub (ws' := [(h0, .inr (9, [.ref p_bytes, .ref p_ts, .ref p_tc, .int n_ta, .int n_to, .int n_tl])), (p_bytes, .inl (k_bytes, 600, .inl f_bytes))]) [0, 1] rfl
  have hD9 := hD.sub (ws' := [(h0, .inr (9, [.ref p_bytes, .ref p_ts, .ref p_tc, .int n_ta, .int n_to, .int n_tl])), (p_bytes, .inl (k_bytes, 600, .inl f_bytes))]) [0, 1] (by decide) rfl
  have hK9 := hK.sub (tys' := [(k_bytes, .byte)]) [0] rfl
  exact W.iret (v := r_13) hx hb hr (fun t ht hW => ⟨⟨r_13, (), rfl, (lg_X9_codeAt_3 n_ta n_to n_tl f_bytes v1 r_1 r_13 yq yv yk h_2 t_7 t_12 h_14), ⟨by rw [ht]; exact hP9, va_K.moved hW.alike hK9, hD9⟩⟩, hS.F ht⟩) hS.2.2 dX9_codeAt_49

theorem lg_X9_splitFirst_0 (n_ta : Int32) (v1 : Int32) (x_1 : Int32) (x_4 : Int32) (yq : 0 ≤ n_ta.toInt ∧ n_ta.toInt ≤ 600) (t_3 : (n_ta.toInt < v1.toInt ∧ x_1.toInt = n_ta.toInt) ∨ (v1.toInt ≤ n_ta.toInt ∧ x_1.toInt = v1.toInt)) (t_6 : ((0 : Int) < x_1.toInt ∧ x_4.toInt = x_1.toInt) ∨ (x_1.toInt ≤ (0 : Int) ∧ x_4.toInt = (0 : Int))) : (x_4.toInt - (0 : Int)) < ((Int.toNat (x_4.toInt - (0 : Int)) + 1 : Nat) : Int) := by
  have := rg_rng n_ta; have := rg_rng v1; have := rg_rng x_1; have := rg_rng x_4; omega
theorem lg_X9_splitFirst_1 (n_ta : Int32) (v1 : Int32) (x_1 : Int32) (x_4 : Int32) (yq : 0 ≤ n_ta.toInt ∧ n_ta.toInt ≤ 600) (t_3 : (n_ta.toInt < v1.toInt ∧ x_1.toInt = n_ta.toInt) ∨ (v1.toInt ≤ n_ta.toInt ∧ x_1.toInt = v1.toInt)) (t_6 : ((0 : Int) < x_1.toInt ∧ x_4.toInt = x_1.toInt) ∨ (x_1.toInt ≤ (0 : Int) ∧ x_4.toInt = (0 : Int))) : 0 ≤ (0 : Int) ∧ (0 : Int) ≤ x_4.toInt := by
  have := rg_rng n_ta; have := rg_rng v1; have := rg_rng x_1; have := rg_rng x_4; omega
theorem lg_X9_splitFirst_2 (n_ta : Int32) (v1 : Int32) (x_1 : Int32) (x_4 : Int32) (yq : 0 ≤ n_ta.toInt ∧ n_ta.toInt ≤ 600) (t_3 : (n_ta.toInt < v1.toInt ∧ x_1.toInt = n_ta.toInt) ∨ (v1.toInt ≤ n_ta.toInt ∧ x_1.toInt = v1.toInt)) (t_6 : ((0 : Int) < x_1.toInt ∧ x_4.toInt = x_1.toInt) ∨ (x_1.toInt ≤ (0 : Int) ∧ x_4.toInt = (0 : Int))) : 0 ≤ (0 : Int) ∧ (0 : Int) ≤ (0 : Int) := by
  have := rg_rng n_ta; have := rg_rng v1; have := rg_rng x_1; have := rg_rng x_4; omega
theorem lg_X9_splitFirst_3 (n_ta : Int32) (v1 : Int32) (x_1 : Int32) (x_4 : Int32) (yq : 0 ≤ n_ta.toInt ∧ n_ta.toInt ≤ 600) (t_3 : (n_ta.toInt < v1.toInt ∧ x_1.toInt = n_ta.toInt) ∨ (v1.toInt ≤ n_ta.toInt ∧ x_1.toInt = v1.toInt)) (t_6 : ((0 : Int) < x_1.toInt ∧ x_4.toInt = x_1.toInt) ∨ (x_1.toInt ≤ (0 : Int) ∧ x_4.toInt = (0 : Int))) : 0 ≤ x_4.toInt := by
  have := rg_rng n_ta; have := rg_rng v1; have := rg_rng x_1; have := rg_rng x_4; omega
theorem lg_X9_splitFirst_4 (n_ta : Int32) (v1 : Int32) (x_1 : Int32) (x_4 : Int32) (i_7 : Int32) (to_7 : Int32) (yq : 0 ≤ n_ta.toInt ∧ n_ta.toInt ≤ 600) (t_3 : (n_ta.toInt < v1.toInt ∧ x_1.toInt = n_ta.toInt) ∨ (v1.toInt ≤ n_ta.toInt ∧ x_1.toInt = v1.toInt)) (t_6 : ((0 : Int) < x_1.toInt ∧ x_4.toInt = x_1.toInt) ∨ (x_1.toInt ≤ (0 : Int) ∧ x_4.toInt = (0 : Int))) (hi7_0 : 0 ≤ i_7.toInt ∧ i_7.toInt ≤ x_4.toInt) (hi7_1 : 0 ≤ to_7.toInt ∧ to_7.toInt ≤ i_7.toInt) (hmu7 : (x_4.toInt - i_7.toInt) < ((0 : Nat) : Int)) : False := by
  have := rg_rng n_ta; have := rg_rng v1; have := rg_rng x_1; have := rg_rng x_4; have := rg_rng i_7; have := rg_rng to_7; omega
theorem lg_X9_splitFirst_5 (n_ta : Int32) (v1 : Int32) (x_1 : Int32) (x_4 : Int32) (i_7 : Int32) (to_7 : Int32) (n7 : Nat) (yq : 0 ≤ n_ta.toInt ∧ n_ta.toInt ≤ 600) (t_3 : (n_ta.toInt < v1.toInt ∧ x_1.toInt = n_ta.toInt) ∨ (v1.toInt ≤ n_ta.toInt ∧ x_1.toInt = v1.toInt)) (t_6 : ((0 : Int) < x_1.toInt ∧ x_4.toInt = x_1.toInt) ∨ (x_1.toInt ≤ (0 : Int) ∧ x_4.toInt = (0 : Int))) (hi7_0 : 0 ≤ i_7.toInt ∧ i_7.toInt ≤ x_4.toInt) (hi7_1 : 0 ≤ to_7.toInt ∧ to_7.toInt ≤ i_7.toInt) (hmu7 : (x_4.toInt - i_7.toInt) < ((n7 + 1 : Nat) : Int)) (t_9 : x_4.toInt ≤ i_7.toInt) : 0 ≤ to_7.toInt ∧ to_7.toInt ≤ 600 ∧ 0 ≤ x_4.toInt ∧ x_4.toInt ≤ 600 := by
  have := rg_rng n_ta; have := rg_rng v1; have := rg_rng x_1; have := rg_rng x_4; have := rg_rng i_7; have := rg_rng to_7; omega
theorem lg_X9_splitFirst_6 (n_ta : Int32) (v1 : Int32) (x_1 : Int32) (x_4 : Int32) (i_7 : Int32) (to_7 : Int32) (n7 : Nat) (yq : 0 ≤ n_ta.toInt ∧ n_ta.toInt ≤ 600) (t_3 : (n_ta.toInt < v1.toInt ∧ x_1.toInt = n_ta.toInt) ∨ (v1.toInt ≤ n_ta.toInt ∧ x_1.toInt = v1.toInt)) (t_6 : ((0 : Int) < x_1.toInt ∧ x_4.toInt = x_1.toInt) ∨ (x_1.toInt ≤ (0 : Int) ∧ x_4.toInt = (0 : Int))) (hi7_0 : 0 ≤ i_7.toInt ∧ i_7.toInt ≤ x_4.toInt) (hi7_1 : 0 ≤ to_7.toInt ∧ to_7.toInt ≤ i_7.toInt) (hmu7 : (x_4.toInt - i_7.toInt) < ((n7 + 1 : Nat) : Int)) (t_9 : x_4.toInt ≤ i_7.toInt) : i_7.toInt = x_4.toInt := by
  have := rg_rng n_ta; have := rg_rng v1; have := rg_rng x_1; have := rg_rng x_4; have := rg_rng i_7; have := rg_rng to_7; omega
theorem lg_X9_splitFirst_7 (n_ta : Int32) (v1 : Int32) (x_1 : Int32) (x_4 : Int32) (i_7 : Int32) (to_7 : Int32) (n7 : Nat) (yq : 0 ≤ n_ta.toInt ∧ n_ta.toInt ≤ 600) (t_3 : (n_ta.toInt < v1.toInt ∧ x_1.toInt = n_ta.toInt) ∨ (v1.toInt ≤ n_ta.toInt ∧ x_1.toInt = v1.toInt)) (t_6 : ((0 : Int) < x_1.toInt ∧ x_4.toInt = x_1.toInt) ∨ (x_1.toInt ≤ (0 : Int) ∧ x_4.toInt = (0 : Int))) (hi7_0 : 0 ≤ i_7.toInt ∧ i_7.toInt ≤ x_4.toInt) (hi7_1 : 0 ≤ to_7.toInt ∧ to_7.toInt ≤ i_7.toInt) (hmu7 : (x_4.toInt - i_7.toInt) < ((n7 + 1 : Nat) : Int)) (t_9 : x_4.toInt ≤ i_7.toInt) : (0 ≤ v1.toInt ∧ v1.toInt ≤ n_ta.toInt ∧ x_4.toInt = v1.toInt) ∨ ¬ (0 ≤ v1.toInt ∧ v1.toInt ≤ n_ta.toInt) := by
  have := rg_rng n_ta; have := rg_rng v1; have := rg_rng x_1; have := rg_rng x_4; have := rg_rng i_7; have := rg_rng to_7; omega
theorem lg_X9_splitFirst_8 (n_ta : Int32) (v1 : Int32) (x_1 : Int32) (x_4 : Int32) (i_7 : Int32) (to_7 : Int32) (n7 : Nat) (yq : 0 ≤ n_ta.toInt ∧ n_ta.toInt ≤ 600) (t_3 : (n_ta.toInt < v1.toInt ∧ x_1.toInt = n_ta.toInt) ∨ (v1.toInt ≤ n_ta.toInt ∧ x_1.toInt = v1.toInt)) (t_6 : ((0 : Int) < x_1.toInt ∧ x_4.toInt = x_1.toInt) ∨ (x_1.toInt ≤ (0 : Int) ∧ x_4.toInt = (0 : Int))) (hi7_0 : 0 ≤ i_7.toInt ∧ i_7.toInt ≤ x_4.toInt) (hi7_1 : 0 ≤ to_7.toInt ∧ to_7.toInt ≤ i_7.toInt) (hmu7 : (x_4.toInt - i_7.toInt) < ((n7 + 1 : Nat) : Int)) (t_9 : i_7.toInt < x_4.toInt) : 0 ≤ n_ta.toInt ∧ n_ta.toInt ≤ 600 ∧ 0 ≤ to_7.toInt ∧ to_7.toInt ≤ 600 ∧ 0 ≤ x_4.toInt ∧ x_4.toInt ≤ 600 := by
  have := rg_rng n_ta; have := rg_rng v1; have := rg_rng x_1; have := rg_rng x_4; have := rg_rng i_7; have := rg_rng to_7; omega
theorem lg_X9_splitFirst_9 (n_ta : Int32) (v1 : Int32) (x_1 : Int32) (x_4 : Int32) (i_7 : Int32) (to_7 : Int32) (n7 : Nat) (yq : 0 ≤ n_ta.toInt ∧ n_ta.toInt ≤ 600) (t_3 : (n_ta.toInt < v1.toInt ∧ x_1.toInt = n_ta.toInt) ∨ (v1.toInt ≤ n_ta.toInt ∧ x_1.toInt = v1.toInt)) (t_6 : ((0 : Int) < x_1.toInt ∧ x_4.toInt = x_1.toInt) ∨ (x_1.toInt ≤ (0 : Int) ∧ x_4.toInt = (0 : Int))) (hi7_0 : 0 ≤ i_7.toInt ∧ i_7.toInt ≤ x_4.toInt) (hi7_1 : 0 ≤ to_7.toInt ∧ to_7.toInt ≤ i_7.toInt) (hmu7 : (x_4.toInt - i_7.toInt) < ((n7 + 1 : Nat) : Int)) (t_9 : i_7.toInt < x_4.toInt) : 0 ≤ i_7.toInt ∧ i_7.toInt < x_4.toInt := by
  have := rg_rng n_ta; have := rg_rng v1; have := rg_rng x_1; have := rg_rng x_4; have := rg_rng i_7; have := rg_rng to_7; omega
theorem lg_X9_splitFirst_10 (n_ta : Int32) (f_bytes : Nat → Int32) (v1 : Int32) (x_1 : Int32) (x_4 : Int32) (i_7 : Int32) (to_7 : Int32) (n7 : Nat) (yq : 0 ≤ n_ta.toInt ∧ n_ta.toInt ≤ 600) (t_3 : (n_ta.toInt < v1.toInt ∧ x_1.toInt = n_ta.toInt) ∨ (v1.toInt ≤ n_ta.toInt ∧ x_1.toInt = v1.toInt)) (t_6 : ((0 : Int) < x_1.toInt ∧ x_4.toInt = x_1.toInt) ∨ (x_1.toInt ≤ (0 : Int) ∧ x_4.toInt = (0 : Int))) (hi7_0 : 0 ≤ i_7.toInt ∧ i_7.toInt ≤ x_4.toInt) (hi7_1 : 0 ≤ to_7.toInt ∧ to_7.toInt ≤ i_7.toInt) (hmu7 : (x_4.toInt - i_7.toInt) < ((n7 + 1 : Nat) : Int)) (t_9 : i_7.toInt < x_4.toInt) (h_11 : bgN f_bytes (Int32.toNatClampNeg x_4) (Int32.toNatClampNeg i_7) = true) : 0 ≤ to_7.toInt ∧ to_7.toInt < ((600 : Nat) : Int) := by
  have := rg_rng n_ta; have := rg_rng v1; have := rg_rng x_1; have := rg_rng x_4; have := rg_rng i_7; have := rg_rng to_7; omega
theorem lg_X9_splitFirst_11 (n_ta : Int32) (f_bytes : Nat → Int32) (v1 : Int32) (x_1 : Int32) (x_4 : Int32) (i_7 : Int32) (to_7 : Int32) (n7 : Nat) (yq : 0 ≤ n_ta.toInt ∧ n_ta.toInt ≤ 600) (t_3 : (n_ta.toInt < v1.toInt ∧ x_1.toInt = n_ta.toInt) ∨ (v1.toInt ≤ n_ta.toInt ∧ x_1.toInt = v1.toInt)) (t_6 : ((0 : Int) < x_1.toInt ∧ x_4.toInt = x_1.toInt) ∨ (x_1.toInt ≤ (0 : Int) ∧ x_4.toInt = (0 : Int))) (hi7_0 : 0 ≤ i_7.toInt ∧ i_7.toInt ≤ x_4.toInt) (hi7_1 : 0 ≤ to_7.toInt ∧ to_7.toInt ≤ i_7.toInt) (hmu7 : (x_4.toInt - i_7.toInt) < ((n7 + 1 : Nat) : Int)) (t_9 : i_7.toInt < x_4.toInt) (h_11 : bgN f_bytes (Int32.toNatClampNeg x_4) (Int32.toNatClampNeg i_7) = true) (t_15 : ¬ kdN f_bytes (Int32.toNatClampNeg x_4) (Int32.toNatClampNeg i_7) = 3) : 0 ≤ n_ta.toInt ∧ n_ta.toInt ≤ 600 ∧ 0 ≤ to_7.toInt ∧ to_7.toInt ≤ 600 ∧ 0 ≤ x_4.toInt ∧ x_4.toInt ≤ 600 := by
  have := rg_rng n_ta; have := rg_rng v1; have := rg_rng x_1; have := rg_rng x_4; have := rg_rng i_7; have := rg_rng to_7; omega
theorem lg_X9_splitFirst_12 (n_ta : Int32) (f_bytes : Nat → Int32) (v1 : Int32) (x_1 : Int32) (x_4 : Int32) (i_7 : Int32) (to_7 : Int32) (n7 : Nat) (yq : 0 ≤ n_ta.toInt ∧ n_ta.toInt ≤ 600) (t_3 : (n_ta.toInt < v1.toInt ∧ x_1.toInt = n_ta.toInt) ∨ (v1.toInt ≤ n_ta.toInt ∧ x_1.toInt = v1.toInt)) (t_6 : ((0 : Int) < x_1.toInt ∧ x_4.toInt = x_1.toInt) ∨ (x_1.toInt ≤ (0 : Int) ∧ x_4.toInt = (0 : Int))) (hi7_0 : 0 ≤ i_7.toInt ∧ i_7.toInt ≤ x_4.toInt) (hi7_1 : 0 ≤ to_7.toInt ∧ to_7.toInt ≤ i_7.toInt) (hmu7 : (x_4.toInt - i_7.toInt) < ((n7 + 1 : Nat) : Int)) (t_9 : i_7.toInt < x_4.toInt) (h_11 : bgN f_bytes (Int32.toNatClampNeg x_4) (Int32.toNatClampNeg i_7) = true) (t_15 : ¬ kdN f_bytes (Int32.toNatClampNeg x_4) (Int32.toNatClampNeg i_7) = 3) : 0 ≤ i_7.toInt ∧ i_7.toInt < x_4.toInt := by
  have := rg_rng n_ta; have := rg_rng v1; have := rg_rng x_1; have := rg_rng x_4; have := rg_rng i_7; have := rg_rng to_7; omega
theorem lg_X9_splitFirst_13 (n_ta : Int32) (f_bytes : Nat → Int32) (v1 : Int32) (x_1 : Int32) (x_4 : Int32) (i_7 : Int32) (to_7 : Int32) (n7 : Nat) (r_16 : Int32) (yq : 0 ≤ n_ta.toInt ∧ n_ta.toInt ≤ 600) (t_3 : (n_ta.toInt < v1.toInt ∧ x_1.toInt = n_ta.toInt) ∨ (v1.toInt ≤ n_ta.toInt ∧ x_1.toInt = v1.toInt)) (t_6 : ((0 : Int) < x_1.toInt ∧ x_4.toInt = x_1.toInt) ∨ (x_1.toInt ≤ (0 : Int) ∧ x_4.toInt = (0 : Int))) (hi7_0 : 0 ≤ i_7.toInt ∧ i_7.toInt ≤ x_4.toInt) (hi7_1 : 0 ≤ to_7.toInt ∧ to_7.toInt ≤ i_7.toInt) (hmu7 : (x_4.toInt - i_7.toInt) < ((n7 + 1 : Nat) : Int)) (t_9 : i_7.toInt < x_4.toInt) (h_11 : bgN f_bytes (Int32.toNatClampNeg x_4) (Int32.toNatClampNeg i_7) = true) (t_15 : ¬ kdN f_bytes (Int32.toNatClampNeg x_4) (Int32.toNatClampNeg i_7) = 3) (h_17 : r_16.toInt = cdN f_bytes (Int32.toNatClampNeg x_4) (Int32.toNatClampNeg i_7)) : 0 ≤ to_7.toInt ∧ to_7.toInt < ((600 : Nat) : Int) := by
  have := rg_rng n_ta; have := rg_rng v1; have := rg_rng x_1; have := rg_rng x_4; have := rg_rng i_7; have := rg_rng to_7; have := rg_rng r_16; omega
theorem lg_X9_splitFirst_14 (n_ta : Int32) (f_bytes : Nat → Int32) (v1 : Int32) (x_1 : Int32) (x_4 : Int32) (i_7 : Int32) (to_7 : Int32) (n7 : Nat) (r_16 : Int32) (yq : 0 ≤ n_ta.toInt ∧ n_ta.toInt ≤ 600) (t_3 : (n_ta.toInt < v1.toInt ∧ x_1.toInt = n_ta.toInt) ∨ (v1.toInt ≤ n_ta.toInt ∧ x_1.toInt = v1.toInt)) (t_6 : ((0 : Int) < x_1.toInt ∧ x_4.toInt = x_1.toInt) ∨ (x_1.toInt ≤ (0 : Int) ∧ x_4.toInt = (0 : Int))) (hi7_0 : 0 ≤ i_7.toInt ∧ i_7.toInt ≤ x_4.toInt) (hi7_1 : 0 ≤ to_7.toInt ∧ to_7.toInt ≤ i_7.toInt) (hmu7 : (x_4.toInt - i_7.toInt) < ((n7 + 1 : Nat) : Int)) (t_9 : i_7.toInt < x_4.toInt) (h_11 : bgN f_bytes (Int32.toNatClampNeg x_4) (Int32.toNatClampNeg i_7) = true) (t_15 : ¬ kdN f_bytes (Int32.toNatClampNeg x_4) (Int32.toNatClampNeg i_7) = 3) (h_17 : r_16.toInt = cdN f_bytes (Int32.toNatClampNeg x_4) (Int32.toNatClampNeg i_7)) : -2147483648 ≤ to_7.toInt + (1 : Int) ∧ to_7.toInt + (1 : Int) < 2147483648 := by
  have := rg_rng n_ta; have := rg_rng v1; have := rg_rng x_1; have := rg_rng x_4; have := rg_rng i_7; have := rg_rng to_7; have := rg_rng r_16; omega
theorem lg_X9_splitFirst_15 (n_ta : Int32) (f_bytes : Nat → Int32) (v1 : Int32) (x_1 : Int32) (x_4 : Int32) (i_7 : Int32) (to_7 : Int32) (n7 : Nat) (r_16 : Int32) (x_20 : Int32) (yq : 0 ≤ n_ta.toInt ∧ n_ta.toInt ≤ 600) (t_3 : (n_ta.toInt < v1.toInt ∧ x_1.toInt = n_ta.toInt) ∨ (v1.toInt ≤ n_ta.toInt ∧ x_1.toInt = v1.toInt)) (t_6 : ((0 : Int) < x_1.toInt ∧ x_4.toInt = x_1.toInt) ∨ (x_1.toInt ≤ (0 : Int) ∧ x_4.toInt = (0 : Int))) (hi7_0 : 0 ≤ i_7.toInt ∧ i_7.toInt ≤ x_4.toInt) (hi7_1 : 0 ≤ to_7.toInt ∧ to_7.toInt ≤ i_7.toInt) (hmu7 : (x_4.toInt - i_7.toInt) < ((n7 + 1 : Nat) : Int)) (t_9 : i_7.toInt < x_4.toInt) (h_11 : bgN f_bytes (Int32.toNatClampNeg x_4) (Int32.toNatClampNeg i_7) = true) (t_15 : ¬ kdN f_bytes (Int32.toNatClampNeg x_4) (Int32.toNatClampNeg i_7) = 3) (h_17 : r_16.toInt = cdN f_bytes (Int32.toNatClampNeg x_4) (Int32.toNatClampNeg i_7)) (t_22 : x_20.toInt = to_7.toInt + (1 : Int)) : -2147483648 ≤ i_7.toInt + 1 ∧ i_7.toInt + 1 < 2147483648 := by
  have := rg_rng n_ta; have := rg_rng v1; have := rg_rng x_1; have := rg_rng x_4; have := rg_rng i_7; have := rg_rng to_7; have := rg_rng r_16; have := rg_rng x_20; omega
theorem lg_X9_splitFirst_16 (n_ta : Int32) (f_bytes : Nat → Int32) (v1 : Int32) (x_1 : Int32) (x_4 : Int32) (i_7 : Int32) (to_7 : Int32) (n7 : Nat) (r_16 : Int32) (x_20 : Int32) (x_23 : Int32) (yq : 0 ≤ n_ta.toInt ∧ n_ta.toInt ≤ 600) (t_3 : (n_ta.toInt < v1.toInt ∧ x_1.toInt = n_ta.toInt) ∨ (v1.toInt ≤ n_ta.toInt ∧ x_1.toInt = v1.toInt)) (t_6 : ((0 : Int) < x_1.toInt ∧ x_4.toInt = x_1.toInt) ∨ (x_1.toInt ≤ (0 : Int) ∧ x_4.toInt = (0 : Int))) (hi7_0 : 0 ≤ i_7.toInt ∧ i_7.toInt ≤ x_4.toInt) (hi7_1 : 0 ≤ to_7.toInt ∧ to_7.toInt ≤ i_7.toInt) (hmu7 : (x_4.toInt - i_7.toInt) < ((n7 + 1 : Nat) : Int)) (t_9 : i_7.toInt < x_4.toInt) (h_11 : bgN f_bytes (Int32.toNatClampNeg x_4) (Int32.toNatClampNeg i_7) = true) (t_15 : ¬ kdN f_bytes (Int32.toNatClampNeg x_4) (Int32.toNatClampNeg i_7) = 3) (h_17 : r_16.toInt = cdN f_bytes (Int32.toNatClampNeg x_4) (Int32.toNatClampNeg i_7)) (t_22 : x_20.toInt = to_7.toInt + (1 : Int)) (t_25 : x_23.toInt = i_7.toInt + 1) : (x_4.toInt - x_23.toInt) < (n7 : Int) := by
  have := rg_rng n_ta; have := rg_rng v1; have := rg_rng x_1; have := rg_rng x_4; have := rg_rng i_7; have := rg_rng to_7; have := rg_rng r_16; have := rg_rng x_20; have := rg_rng x_23; omega
theorem lg_X9_splitFirst_17 (n_ta : Int32) (f_bytes : Nat → Int32) (v1 : Int32) (x_1 : Int32) (x_4 : Int32) (i_7 : Int32) (to_7 : Int32) (n7 : Nat) (r_16 : Int32) (x_20 : Int32) (x_23 : Int32) (yq : 0 ≤ n_ta.toInt ∧ n_ta.toInt ≤ 600) (t_3 : (n_ta.toInt < v1.toInt ∧ x_1.toInt = n_ta.toInt) ∨ (v1.toInt ≤ n_ta.toInt ∧ x_1.toInt = v1.toInt)) (t_6 : ((0 : Int) < x_1.toInt ∧ x_4.toInt = x_1.toInt) ∨ (x_1.toInt ≤ (0 : Int) ∧ x_4.toInt = (0 : Int))) (hi7_0 : 0 ≤ i_7.toInt ∧ i_7.toInt ≤ x_4.toInt) (hi7_1 : 0 ≤ to_7.toInt ∧ to_7.toInt ≤ i_7.toInt) (hmu7 : (x_4.toInt - i_7.toInt) < ((n7 + 1 : Nat) : Int)) (t_9 : i_7.toInt < x_4.toInt) (h_11 : bgN f_bytes (Int32.toNatClampNeg x_4) (Int32.toNatClampNeg i_7) = true) (t_15 : ¬ kdN f_bytes (Int32.toNatClampNeg x_4) (Int32.toNatClampNeg i_7) = 3) (h_17 : r_16.toInt = cdN f_bytes (Int32.toNatClampNeg x_4) (Int32.toNatClampNeg i_7)) (t_22 : x_20.toInt = to_7.toInt + (1 : Int)) (t_25 : x_23.toInt = i_7.toInt + 1) : 0 ≤ x_23.toInt ∧ x_23.toInt ≤ x_4.toInt := by
  have := rg_rng n_ta; have := rg_rng v1; have := rg_rng x_1; have := rg_rng x_4; have := rg_rng i_7; have := rg_rng to_7; have := rg_rng r_16; have := rg_rng x_20; have := rg_rng x_23; omega
theorem lg_X9_splitFirst_18 (n_ta : Int32) (f_bytes : Nat → Int32) (v1 : Int32) (x_1 : Int32) (x_4 : Int32) (i_7 : Int32) (to_7 : Int32) (n7 : Nat) (r_16 : Int32) (x_20 : Int32) (x_23 : Int32) (yq : 0 ≤ n_ta.toInt ∧ n_ta.toInt ≤ 600) (t_3 : (n_ta.toInt < v1.toInt ∧ x_1.toInt = n_ta.toInt) ∨ (v1.toInt ≤ n_ta.toInt ∧ x_1.toInt = v1.toInt)) (t_6 : ((0 : Int) < x_1.toInt ∧ x_4.toInt = x_1.toInt) ∨ (x_1.toInt ≤ (0 : Int) ∧ x_4.toInt = (0 : Int))) (hi7_0 : 0 ≤ i_7.toInt ∧ i_7.toInt ≤ x_4.toInt) (hi7_1 : 0 ≤ to_7.toInt ∧ to_7.toInt ≤ i_7.toInt) (hmu7 : (x_4.toInt - i_7.toInt) < ((n7 + 1 : Nat) : Int)) (t_9 : i_7.toInt < x_4.toInt) (h_11 : bgN f_bytes (Int32.toNatClampNeg x_4) (Int32.toNatClampNeg i_7) = true) (t_15 : ¬ kdN f_bytes (Int32.toNatClampNeg x_4) (Int32.toNatClampNeg i_7) = 3) (h_17 : r_16.toInt = cdN f_bytes (Int32.toNatClampNeg x_4) (Int32.toNatClampNeg i_7)) (t_22 : x_20.toInt = to_7.toInt + (1 : Int)) (t_25 : x_23.toInt = i_7.toInt + 1) : 0 ≤ x_20.toInt ∧ x_20.toInt ≤ x_23.toInt := by
  have := rg_rng n_ta; have := rg_rng v1; have := rg_rng x_1; have := rg_rng x_4; have := rg_rng i_7; have := rg_rng to_7; have := rg_rng r_16; have := rg_rng x_20; have := rg_rng x_23; omega
theorem lg_X9_splitFirst_19 (n_ta : Int32) (f_bytes : Nat → Int32) (v1 : Int32) (x_1 : Int32) (x_4 : Int32) (i_7 : Int32) (to_7 : Int32) (n7 : Nat) (r_16 : Int32) (x_20 : Int32) (x_23 : Int32) (yq : 0 ≤ n_ta.toInt ∧ n_ta.toInt ≤ 600) (t_3 : (n_ta.toInt < v1.toInt ∧ x_1.toInt = n_ta.toInt) ∨ (v1.toInt ≤ n_ta.toInt ∧ x_1.toInt = v1.toInt)) (t_6 : ((0 : Int) < x_1.toInt ∧ x_4.toInt = x_1.toInt) ∨ (x_1.toInt ≤ (0 : Int) ∧ x_4.toInt = (0 : Int))) (hi7_0 : 0 ≤ i_7.toInt ∧ i_7.toInt ≤ x_4.toInt) (hi7_1 : 0 ≤ to_7.toInt ∧ to_7.toInt ≤ i_7.toInt) (hmu7 : (x_4.toInt - i_7.toInt) < ((n7 + 1 : Nat) : Int)) (t_9 : i_7.toInt < x_4.toInt) (h_11 : bgN f_bytes (Int32.toNatClampNeg x_4) (Int32.toNatClampNeg i_7) = true) (t_15 : ¬ kdN f_bytes (Int32.toNatClampNeg x_4) (Int32.toNatClampNeg i_7) = 3) (h_17 : r_16.toInt = cdN f_bytes (Int32.toNatClampNeg x_4) (Int32.toNatClampNeg i_7)) (t_22 : x_20.toInt = to_7.toInt + (1 : Int)) (t_25 : x_23.toInt = i_7.toInt + 1) : x_23.toInt = i_7.toInt + 1 ∧ x_23.toInt ≤ x_4.toInt := by
  have := rg_rng n_ta; have := rg_rng v1; have := rg_rng x_1; have := rg_rng x_4; have := rg_rng i_7; have := rg_rng to_7; have := rg_rng r_16; have := rg_rng x_20; have := rg_rng x_23; omega
theorem lg_X9_splitFirst_20 (n_ta : Int32) (f_bytes : Nat → Int32) (v1 : Int32) (x_1 : Int32) (x_4 : Int32) (i_7 : Int32) (to_7 : Int32) (n7 : Nat) (r_16 : Int32) (x_20 : Int32) (x_23 : Int32) (yq : 0 ≤ n_ta.toInt ∧ n_ta.toInt ≤ 600) (t_3 : (n_ta.toInt < v1.toInt ∧ x_1.toInt = n_ta.toInt) ∨ (v1.toInt ≤ n_ta.toInt ∧ x_1.toInt = v1.toInt)) (t_6 : ((0 : Int) < x_1.toInt ∧ x_4.toInt = x_1.toInt) ∨ (x_1.toInt ≤ (0 : Int) ∧ x_4.toInt = (0 : Int))) (hi7_0 : 0 ≤ i_7.toInt ∧ i_7.toInt ≤ x_4.toInt) (hi7_1 : 0 ≤ to_7.toInt ∧ to_7.toInt ≤ i_7.toInt) (hmu7 : (x_4.toInt - i_7.toInt) < ((n7 + 1 : Nat) : Int)) (t_9 : i_7.toInt < x_4.toInt) (h_11 : bgN f_bytes (Int32.toNatClampNeg x_4) (Int32.toNatClampNeg i_7) = true) (t_15 : ¬ kdN f_bytes (Int32.toNatClampNeg x_4) (Int32.toNatClampNeg i_7) = 3) (h_17 : r_16.toInt = cdN f_bytes (Int32.toNatClampNeg x_4) (Int32.toNatClampNeg i_7)) (t_22 : x_20.toInt = to_7.toInt + (1 : Int)) (t_25 : x_23.toInt = i_7.toInt + 1) : r_16.toInt = cdN f_bytes (Int32.toNatClampNeg x_4) (Int32.toNatClampNeg i_7) := by
  have := rg_rng n_ta; have := rg_rng v1; have := rg_rng x_1; have := rg_rng x_4; have := rg_rng i_7; have := rg_rng to_7; have := rg_rng r_16; have := rg_rng x_20; have := rg_rng x_23; omega
theorem lg_X9_splitFirst_21 (n_ta : Int32) (f_bytes : Nat → Int32) (v1 : Int32) (x_1 : Int32) (x_4 : Int32) (i_7 : Int32) (to_7 : Int32) (n7 : Nat) (r_16 : Int32) (x_20 : Int32) (x_23 : Int32) (yq : 0 ≤ n_ta.toInt ∧ n_ta.toInt ≤ 600) (t_3 : (n_ta.toInt < v1.toInt ∧ x_1.toInt = n_ta.toInt) ∨ (v1.toInt ≤ n_ta.toInt ∧ x_1.toInt = v1.toInt)) (t_6 : ((0 : Int) < x_1.toInt ∧ x_4.toInt = x_1.toInt) ∨ (x_1.toInt ≤ (0 : Int) ∧ x_4.toInt = (0 : Int))) (hi7_0 : 0 ≤ i_7.toInt ∧ i_7.toInt ≤ x_4.toInt) (hi7_1 : 0 ≤ to_7.toInt ∧ to_7.toInt ≤ i_7.toInt) (hmu7 : (x_4.toInt - i_7.toInt) < ((n7 + 1 : Nat) : Int)) (t_9 : i_7.toInt < x_4.toInt) (h_11 : bgN f_bytes (Int32.toNatClampNeg x_4) (Int32.toNatClampNeg i_7) = true) (t_15 : ¬ kdN f_bytes (Int32.toNatClampNeg x_4) (Int32.toNatClampNeg i_7) = 3) (h_17 : r_16.toInt = cdN f_bytes (Int32.toNatClampNeg x_4) (Int32.toNatClampNeg i_7)) (t_22 : x_20.toInt = to_7.toInt + (1 : Int)) (t_25 : x_23.toInt = i_7.toInt + 1) : x_20.toInt = to_7.toInt + 1 := by
  have := rg_rng n_ta; have := rg_rng v1; have := rg_rng x_1; have := rg_rng x_4; have := rg_rng i_7; have := rg_rng to_7; have := rg_rng r_16; have := rg_rng x_20; have := rg_rng x_23; omega
theorem lg_X9_splitFirst_22 (n_ta : Int32) (f_bytes : Nat → Int32) (v1 : Int32) (x_1 : Int32) (x_4 : Int32) (i_7 : Int32) (to_7 : Int32) (n7 : Nat) (yq : 0 ≤ n_ta.toInt ∧ n_ta.toInt ≤ 600) (t_3 : (n_ta.toInt < v1.toInt ∧ x_1.toInt = n_ta.toInt) ∨ (v1.toInt ≤ n_ta.toInt ∧ x_1.toInt = v1.toInt)) (t_6 : ((0 : Int) < x_1.toInt ∧ x_4.toInt = x_1.toInt) ∨ (x_1.toInt ≤ (0 : Int) ∧ x_4.toInt = (0 : Int))) (hi7_0 : 0 ≤ i_7.toInt ∧ i_7.toInt ≤ x_4.toInt) (hi7_1 : 0 ≤ to_7.toInt ∧ to_7.toInt ≤ i_7.toInt) (hmu7 : (x_4.toInt - i_7.toInt) < ((n7 + 1 : Nat) : Int)) (t_9 : i_7.toInt < x_4.toInt) (h_11 : bgN f_bytes (Int32.toNatClampNeg x_4) (Int32.toNatClampNeg i_7) = false) : -2147483648 ≤ i_7.toInt + 1 ∧ i_7.toInt + 1 < 2147483648 := by
  have := rg_rng n_ta; have := rg_rng v1; have := rg_rng x_1; have := rg_rng x_4; have := rg_rng i_7; have := rg_rng to_7; omega
theorem lg_X9_splitFirst_23 (n_ta : Int32) (f_bytes : Nat → Int32) (v1 : Int32) (x_1 : Int32) (x_4 : Int32) (i_7 : Int32) (to_7 : Int32) (n7 : Nat) (x_27 : Int32) (yq : 0 ≤ n_ta.toInt ∧ n_ta.toInt ≤ 600) (t_3 : (n_ta.toInt < v1.toInt ∧ x_1.toInt = n_ta.toInt) ∨ (v1.toInt ≤ n_ta.toInt ∧ x_1.toInt = v1.toInt)) (t_6 : ((0 : Int) < x_1.toInt ∧ x_4.toInt = x_1.toInt) ∨ (x_1.toInt ≤ (0 : Int) ∧ x_4.toInt = (0 : Int))) (hi7_0 : 0 ≤ i_7.toInt ∧ i_7.toInt ≤ x_4.toInt) (hi7_1 : 0 ≤ to_7.toInt ∧ to_7.toInt ≤ i_7.toInt) (hmu7 : (x_4.toInt - i_7.toInt) < ((n7 + 1 : Nat) : Int)) (t_9 : i_7.toInt < x_4.toInt) (h_11 : bgN f_bytes (Int32.toNatClampNeg x_4) (Int32.toNatClampNeg i_7) = false) (t_29 : x_27.toInt = i_7.toInt + 1) : (x_4.toInt - x_27.toInt) < (n7 : Int) := by
  have := rg_rng n_ta; have := rg_rng v1; have := rg_rng x_1; have := rg_rng x_4; have := rg_rng i_7; have := rg_rng to_7; have := rg_rng x_27; omega
theorem lg_X9_splitFirst_24 (n_ta : Int32) (f_bytes : Nat → Int32) (v1 : Int32) (x_1 : Int32) (x_4 : Int32) (i_7 : Int32) (to_7 : Int32) (n7 : Nat) (x_27 : Int32) (yq : 0 ≤ n_ta.toInt ∧ n_ta.toInt ≤ 600) (t_3 : (n_ta.toInt < v1.toInt ∧ x_1.toInt = n_ta.toInt) ∨ (v1.toInt ≤ n_ta.toInt ∧ x_1.toInt = v1.toInt)) (t_6 : ((0 : Int) < x_1.toInt ∧ x_4.toInt = x_1.toInt) ∨ (x_1.toInt ≤ (0 : Int) ∧ x_4.toInt = (0 : Int))) (hi7_0 : 0 ≤ i_7.toInt ∧ i_7.toInt ≤ x_4.toInt) (hi7_1 : 0 ≤ to_7.toInt ∧ to_7.toInt ≤ i_7.toInt) (hmu7 : (x_4.toInt - i_7.toInt) < ((n7 + 1 : Nat) : Int)) (t_9 : i_7.toInt < x_4.toInt) (h_11 : bgN f_bytes (Int32.toNatClampNeg x_4) (Int32.toNatClampNeg i_7) = false) (t_29 : x_27.toInt = i_7.toInt + 1) : 0 ≤ x_27.toInt ∧ x_27.toInt ≤ x_4.toInt := by
  have := rg_rng n_ta; have := rg_rng v1; have := rg_rng x_1; have := rg_rng x_4; have := rg_rng i_7; have := rg_rng to_7; have := rg_rng x_27; omega
theorem lg_X9_splitFirst_25 (n_ta : Int32) (f_bytes : Nat → Int32) (v1 : Int32) (x_1 : Int32) (x_4 : Int32) (i_7 : Int32) (to_7 : Int32) (n7 : Nat) (x_27 : Int32) (yq : 0 ≤ n_ta.toInt ∧ n_ta.toInt ≤ 600) (t_3 : (n_ta.toInt < v1.toInt ∧ x_1.toInt = n_ta.toInt) ∨ (v1.toInt ≤ n_ta.toInt ∧ x_1.toInt = v1.toInt)) (t_6 : ((0 : Int) < x_1.toInt ∧ x_4.toInt = x_1.toInt) ∨ (x_1.toInt ≤ (0 : Int) ∧ x_4.toInt = (0 : Int))) (hi7_0 : 0 ≤ i_7.toInt ∧ i_7.toInt ≤ x_4.toInt) (hi7_1 : 0 ≤ to_7.toInt ∧ to_7.toInt ≤ i_7.toInt) (hmu7 : (x_4.toInt - i_7.toInt) < ((n7 + 1 : Nat) : Int)) (t_9 : i_7.toInt < x_4.toInt) (h_11 : bgN f_bytes (Int32.toNatClampNeg x_4) (Int32.toNatClampNeg i_7) = false) (t_29 : x_27.toInt = i_7.toInt + 1) : 0 ≤ to_7.toInt ∧ to_7.toInt ≤ x_27.toInt := by
  have := rg_rng n_ta; have := rg_rng v1; have := rg_rng x_1; have := rg_rng x_4; have := rg_rng i_7; have := rg_rng to_7; have := rg_rng x_27; omega
theorem lg_X9_splitFirst_26 (n_ta : Int32) (f_bytes : Nat → Int32) (v1 : Int32) (x_1 : Int32) (x_4 : Int32) (i_7 : Int32) (to_7 : Int32) (n7 : Nat) (x_27 : Int32) (yq : 0 ≤ n_ta.toInt ∧ n_ta.toInt ≤ 600) (t_3 : (n_ta.toInt < v1.toInt ∧ x_1.toInt = n_ta.toInt) ∨ (v1.toInt ≤ n_ta.toInt ∧ x_1.toInt = v1.toInt)) (t_6 : ((0 : Int) < x_1.toInt ∧ x_4.toInt = x_1.toInt) ∨ (x_1.toInt ≤ (0 : Int) ∧ x_4.toInt = (0 : Int))) (hi7_0 : 0 ≤ i_7.toInt ∧ i_7.toInt ≤ x_4.toInt) (hi7_1 : 0 ≤ to_7.toInt ∧ to_7.toInt ≤ i_7.toInt) (hmu7 : (x_4.toInt - i_7.toInt) < ((n7 + 1 : Nat) : Int)) (t_9 : i_7.toInt < x_4.toInt) (h_11 : bgN f_bytes (Int32.toNatClampNeg x_4) (Int32.toNatClampNeg i_7) = false) (t_29 : x_27.toInt = i_7.toInt + 1) : x_27.toInt = i_7.toInt + 1 ∧ x_27.toInt ≤ x_4.toInt := by
  have := rg_rng n_ta; have := rg_rng v1; have := rg_rng x_1; have := rg_rng x_4; have := rg_rng i_7; have := rg_rng to_7; have := rg_rng x_27; omega
set_option maxHeartbeats 4000000 in
set_option maxRecDepth 100000 in
theorem kX9_splitFirst (l : Launch) (dC : Nat → ClassId) (dI : Nat → Nat → Nat) (sz : Nat) (adK adV : Nat → Nat) (fm : Option Nat) (h0 : Nat) (p_bytes : Nat) (p_ts : Nat) (p_tc : Nat) (n_ta : Int32) (n_to : Int32) (n_tl : Int32) (k_bytes : ClassId) (f_bytes : Nat → Int32) (k_ts : ClassId) (k_tc : ClassId) (f_ts : Nat → Int32) (f_tc : Nat → Int32) (v1 : Int32) (yq : 0 ≤ n_ta.toInt ∧ n_ta.toInt ≤ 600) : Met l yX9_splitFirst (Cond.code yX9_splitFirst cX9_splitFirst 3 none :: bg) ({ frames := 7, cells := 0, slots := 0, locals := 152 }) (pcS dC dI [.ref h0, .int v1] sz [(h0, .inr (9, [.ref p_bytes, .ref p_ts, .ref p_tc, .int n_ta, .int n_to, .int n_tl])), (p_bytes, .inl (k_bytes, 600, .inl f_bytes)), (p_ts, .inl (k_ts, 600, .inl f_ts)), (p_tc, .inl (k_tc, 600, .inl f_tc))] [(k_bytes, .byte), (k_ts, .int), (k_tc, .int)] adK adV fm) (va_Qv (fun (u : Unit) => True) (fun (u : Unit) (t : State) => ∃ (w_to : Int32) (w_tl : Int32) (w_ts : Nat → Int32) (w_tc : Nat → Int32), (0 ≤ w_to.toInt ∧ w_to.toInt ≤ 600 ∧ 0 ≤ w_tl.toInt ∧ w_tl.toInt ≤ 600) ∧ TkT f_bytes w_ts w_tc w_tl w_tl w_to ∧ ((0 ≤ v1.toInt ∧ v1.toInt ≤ n_ta.toInt ∧ w_tl.toInt = v1.toInt) ∨ ¬ (0 ≤ v1.toInt ∧ v1.toInt ≤ n_ta.toInt)) ∧ va_P (dC, dI) vwCl [(h0, .inr (9, [.ref p_bytes, .ref p_ts, .ref p_tc, .int n_ta, .int w_to, .int w_tl])), (p_bytes, .inl (k_bytes, 600, .inl f_bytes)), (p_ts, .inl (k_ts, 600, .inl w_ts)), (p_tc, .inl (k_tc, 600, .inl w_tc))] t.heap ∧ va_K (dC, dI) vwCl [] t ∧ va_D (va_A [(h0, .inr (9, [.ref p_bytes, .ref p_ts, .ref p_tc, .int n_ta, .int n_to, .int n_tl])), (p_bytes, .inl (k_bytes, 600, .inl f_bytes)), (p_ts, .inl (k_ts, 600, .inl f_ts)), (p_tc, .inl (k_tc, 600, .inl f_tc))] sz) [(h0, .inr (9, [.ref p_bytes, .ref p_ts, .ref p_tc, .int n_ta, .int w_to, .int w_tl])), (p_bytes, .inl (k_bytes, 600, .inl f_bytes)), (p_ts, .inl (k_ts, 600, .inl w_ts)), (p_tc, .inl (k_tc, 600, .inl w_tc))]) (va_A [(h0, .inr (9, [.ref p_bytes, .ref p_ts, .ref p_tc, .int n_ta, .int n_to, .int n_tl])), (p_bytes, .inl (k_bytes, 600, .inl f_bytes)), (p_ts, .inl (k_ts, 600, .inl f_ts)), (p_tc, .inl (k_tc, 600, .inl f_tc))] sz)) 0 0 (va_A [(h0, .inr (9, [.ref p_bytes, .ref p_ts, .ref p_tc, .int n_ta, .int n_to, .int n_tl])), (p_bytes, .inl (k_bytes, 600, .inl f_bytes)), (p_ts, .inl (k_ts, 600, .inl f_ts)), (p_tc, .inl (k_tc, 600, .inl f_tc))] sz) := by
  refine Met.ofW (cc := cX9_splitFirst) (maxL := 3) (ret := none) pnX9 rfl ?_
  intro p e s m args below meth c s₁ B hml hv
  obtain ⟨rfl, hsz, hP, hK, hD0, hN, hE, hR⟩ := hv
  have hx := B.exec
  have hb := B.bytes
  have hr := B.returns
  have htb : ∀ w ∈ bg, w.before [.ref h0, .int v1].toArray s = true := fun w h => atoms_spec (ws := Cond.code yX9_splitFirst cX9_splitFirst 3 none :: bg) B.pre w (List.mem_cons_of_mem _ h)
  have hown : s.vm.findClass RX9 = some m.cls := findClass_of_methodNamed B.named
  have hlocks := B.notSynchronized
  subst hsz
  have hD := hD0.self (sz := s.heap.size)
  generalize hAe : va_A [(h0, .inr (9, [.ref p_bytes, .ref p_ts, .ref p_tc, .int n_ta, .int n_to, .int n_tl])), (p_bytes, .inl (k_bytes, 600, .inl f_bytes)), (p_ts, .inl (k_ts, 600, .inl f_ts)), (p_tc, .inl (k_tc, 600, .inl f_tc))] s.heap.size = A at hD hE ⊢
  have hA : ∀ q : Nat, s.heap.size ≤ q → A q := fun q h => by rw [← hAe]; exact Or.inr h
  have hS : va_S A s.heap s.heap [] := va_S.rf
  have hl := lv_entry ([.ref h0, .int v1]) (n := 3) (Nat.le_of_ble_eq_true rfl)
  rw [lg_entry_eq]
  generalize (lg_sl ([.ref h0, .int v1]) ++ List.replicate (3 - (lg_sl ([.ref h0, .int v1])).length) Slot.unset).toArray = ls at hl ⊢
  change lv_has ls 3 [(0, .ref h0), (1, .int v1)] at hl
  clear hD0 hAe
  refine go0 (wsP := fun H => va_P (dC, dI) vwCl [(h0, .inr (9, [.ref p_bytes, .ref p_ts, .ref p_tc, .int n_ta, .int n_to, .int n_tl])), (p_bytes, .inl (k_bytes, 600, .inl f_bytes)), (p_ts, .inl (k_ts, 600, .inl f_ts)), (p_tc, .inl (k_tc, 600, .inl f_tc))] H) hP hS ?_
  clear hP hS; intro H locs hP hS
  change va_P (dC, dI) vwCl [(h0, .inr (9, [.ref p_bytes, .ref p_ts, .ref p_tc, .int n_ta, .int n_to, .int n_tl])), (p_bytes, .inl (k_bytes, 600, .inl f_bytes)), (p_ts, .inl (k_ts, 600, .inl f_ts)), (p_tc, .inl (k_tc, 600, .inl f_tc))] H at hP
  refine lv_aload_n hx hb dX9_splitFirst_0 rfl (lv_at hl 0 rfl) ?_
  refine lv_iconst (v := 0) hx hb dX9_splitFirst_1 (by decide) ?_
  refine lv_iload_n hx hb dX9_splitFirst_2 rfl (lv_at hl 1 rfl) ?_
  refine lv_aload_n hx hb dX9_splitFirst_3 rfl (lv_at hl 0 rfl) ?_
  refine va_get (D := (dC, dI)) (ci := 9) (v := .int n_ta) (C := RX9) (T := TX9) (N := 6) hx hb htb iX9 hown hK hP 0 rfl rfl 3 (Nat.le_of_ble_eq_true rfl) (htb _ m_239) (fun _ h9 => h9) rfl dX9_splitFirst_4 ?_
  refine va_mmin hx hb (hml.trans hl.1.symm) hown (htb _ m_812) (htb _ m_408) (htb _ m_14) (htb _ m_409) (Nat.le_of_ble_eq_true rfl) (Nat.le_of_ble_eq_true rfl) (Nat.le_of_ble_eq_true rfl) (Nat.le_of_ble_eq_true rfl) dX9_splitFirst_7 ?_
  refine lv_topi (fun x_1 ex_2 => ?_)
  have t_3 : (n_ta.toInt < v1.toInt ∧ x_1.toInt = n_ta.toInt) ∨ (v1.toInt ≤ n_ta.toInt ∧ x_1.toInt = v1.toInt) := i_min rfl rfl ex_2
  refine va_mmax hx hb (hml.trans hl.1.symm) hown (htb _ m_813) (htb _ m_436) (htb _ m_14) (htb _ m_437) (Nat.le_of_ble_eq_true rfl) (Nat.le_of_ble_eq_true rfl) (Nat.le_of_ble_eq_true rfl) (Nat.le_of_ble_eq_true rfl) dX9_splitFirst_10 ?_
  refine lv_topi (fun x_4 ex_5 => ?_)
  have t_6 : ((0 : Int) < x_1.toInt ∧ x_4.toInt = x_1.toInt) ∨ (x_1.toInt ≤ (0 : Int) ∧ x_4.toInt = (0 : Int)) := i_max (by decide) rfl ex_5
  refine va_put (D := (dC, dI)) (ci := 9) (v := .int x_4) (C := RX9) (T := TX9) (N := 6) hx hb htb iX9 tyX9 tyX9_ok nmX9 hown hK hP hD hS 0 rfl rfl 5 (Nat.le_of_ble_eq_true rfl) (htb _ m_242) (fun _ h9 => h9) rfl (tyX9_ok 5 (Nat.le_of_ble_eq_true rfl)) rfl rfl (Nat.le_of_ble_eq_true rfl) dX9_splitFirst_13 ?_
  clear hP hD hS; intro H locs hP hD hS
  change va_P (dC, dI) vwCl [(h0, .inr (9, [.ref p_bytes, .ref p_ts, .ref p_tc, .int n_ta, .int n_to, .int x_4])), (p_bytes, .inl (k_bytes, 600, .inl f_bytes)), (p_ts, .inl (k_ts, 600, .inl f_ts)), (p_tc, .inl (k_tc, 600, .inl f_tc))] H at hP
  change va_D A [(h0, .inr (9, [.ref p_bytes, .ref p_ts, .ref p_tc, .int n_ta, .int n_to, .int x_4])), (p_bytes, .inl (k_bytes, 600, .inl f_bytes)), (p_ts, .inl (k_ts, 600, .inl f_ts)), (p_tc, .inl (k_tc, 600, .inl f_tc))] at hD
  refine lv_aload_n hx hb dX9_splitFirst_16 rfl (lv_at hl 0 rfl) ?_
  refine lv_iconst (v := 0) hx hb dX9_splitFirst_17 (by decide) ?_
  refine va_put (D := (dC, dI)) (ci := 9) (v := .int 0) (C := RX9) (T := TX9) (N := 6) hx hb htb iX9 tyX9 tyX9_ok nmX9 hown hK hP hD hS 0 rfl rfl 4 (Nat.le_of_ble_eq_true rfl) (htb _ m_241) (fun _ h9 => h9) rfl (tyX9_ok 4 (Nat.le_of_ble_eq_true rfl)) rfl rfl (Nat.le_of_ble_eq_true rfl) dX9_splitFirst_18 ?_
  clear hP hD hS; intro H locs hP hD hS
  change va_P (dC, dI) vwCl [(h0, .inr (9, [.ref p_bytes, .ref p_ts, .ref p_tc, .int n_ta, .int 0, .int x_4])), (p_bytes, .inl (k_bytes, 600, .inl f_bytes)), (p_ts, .inl (k_ts, 600, .inl f_ts)), (p_tc, .inl (k_tc, 600, .inl f_tc))] H at hP
  change va_D A [(h0, .inr (9, [.ref p_bytes, .ref p_ts, .ref p_tc, .int n_ta, .int 0, .int x_4])), (p_bytes, .inl (k_bytes, 600, .inl f_bytes)), (p_ts, .inl (k_ts, 600, .inl f_ts)), (p_tc, .inl (k_tc, 600, .inl f_tc))] at hD
  refine lv_iconst (v := 0) hx hb dX9_splitFirst_21 (by decide) ?_
  refine lv_istore_n (lv' := [(2, .int 0), (0, .ref h0), (1, .int v1)]) hx hb dX9_splitFirst_22 rfl hl (by decide) rfl ?_
  clear hl; intro ls hl
  refine (fun (lp : ∀ (n7 : Nat) (i_7 : Int32) (to_7 : Int32) (ga_p_ts_7 : Nat → Int32) (ga_p_tc_7 : Nat → Int32) (H : Heap) (locs : List Loc) (ls : Array Slot), (x_4.toInt - i_7.toInt) < (n7 : Int) → (0 ≤ i_7.toInt ∧ i_7.toInt ≤ x_4.toInt) → (0 ≤ to_7.toInt ∧ to_7.toInt ≤ i_7.toInt) → (TkT f_bytes ga_p_ts_7 ga_p_tc_7 x_4 i_7 to_7) → lv_has ls 3 [(2, .int i_7), (0, .ref h0), (1, .int v1)] → va_P (dC, dI) vwCl [(h0, .inr (9, [.ref p_bytes, .ref p_ts, .ref p_tc, .int n_ta, .int to_7, .int x_4])), (p_bytes, .inl (k_bytes, 600, .inl f_bytes)), (p_ts, .inl (k_ts, 600, .inl ga_p_ts_7)), (p_tc, .inl (k_tc, 600, .inl ga_p_tc_7))] H → va_D A [(h0, .inr (9, [.ref p_bytes, .ref p_ts, .ref p_tc, .int n_ta, .int to_7, .int x_4])), (p_bytes, .inl (k_bytes, 600, .inl f_bytes)), (p_ts, .inl (k_ts, 600, .inl ga_p_ts_7)), (p_tc, .inl (k_tc, 600, .inl ga_p_tc_7))] → va_S A s.heap H locs → W p l e _ s m _ below meth c H locs _ _ _ (F0 m 23 ls [])) => lp (Int.toNat (x_4.toInt - (0 : Int)) + 1) 0 0 f_ts f_tc H locs ls ((lg_X9_splitFirst_0 n_ta v1 x_1 x_4 yq t_3 t_6)) (lg_X9_splitFirst_1 n_ta v1 x_1 x_4 yq t_3 t_6) (lg_X9_splitFirst_2 n_ta v1 x_1 x_4 yq t_3 t_6)  (TkT_0 (lg_X9_splitFirst_3 n_ta v1 x_1 x_4 yq t_3 t_6)) hl hP hD hS) ?_
  clear hP hD hS hl
  intro n7
  induction n7 with
  | zero =>
    intro i_7 to_7 ga_p_ts_7 ga_p_tc_7 H locs ls hmu7 hi7_0 hi7_1  hp7_0 hl hP hD hS
    exact False.elim (lg_X9_splitFirst_4 n_ta v1 x_1 x_4 i_7 to_7 yq t_3 t_6 hi7_0 hi7_1 hmu7)
  | succ n7 ih7 =>
    intro i_7 to_7 ga_p_ts_7 ga_p_tc_7 H locs ls hmu7 hi7_0 hi7_1  hp7_0 hl hP hD hS
    refine lv_iload_n hx hb dX9_splitFirst_23 rfl (lv_at hl 0 rfl) ?_
    refine lv_aload_n hx hb dX9_splitFirst_24 rfl (lv_at hl 1 rfl) ?_
    refine va_get (D := (dC, dI)) (ci := 9) (v := .int x_4) (C := RX9) (T := TX9) (N := 6) hx hb htb iX9 hown hK hP 0 rfl rfl 5 (Nat.le_of_ble_eq_true rfl) (htb _ m_242) (fun _ h9 => h9) rfl dX9_splitFirst_25 ?_
    refine lv_icmp_ge (tgt := 79) hx hb dX9_splitFirst_28 (by decide) (fun c_8 => ?_) (fun c_8 => ?_)
    · have t_9 : x_4.toInt ≤ i_7.toInt := i_le rfl rfl c_8
      refine W.widen (k := 0) (n := 0) (Nat.le_of_ble_eq_true rfl) (Nat.le_of_ble_eq_true rfl) ?_
      have hP9 := hP.sub (ws' := [(h0, .inr (9, [.ref p_bytes, .ref p_ts, .ref p_tc, .int n_ta, .int to_7, .int x_4])), (p_bytes, .inl (k_bytes, 600, .inl f_bytes)), (p_ts, .inl (k_ts, 600, .inl ga_p_ts_7)), (p_tc, .inl (k_tc, 600, .inl ga_p_tc_7))]) [0, 1, 2, 3] rfl
      have hD9 := hD.sub (ws' := [(h0, .inr (9, [.ref p_bytes, .ref p_ts, .ref p_tc, .int n_ta, .int to_7, .int x_4])), (p_bytes, .inl (k_bytes, 600, .inl f_bytes)), (p_ts, .inl (k_ts, 600, .inl ga_p_ts_7)), (p_tc, .inl (k_tc, 600, .inl ga_p_tc_7))]) [0, 1, 2, 3] (by decide) rfl
      have hK9 := hK.sub (tys' := []) [] rfl
      exact W.vret hx hb hr (fun t ht hW => ⟨⟨(), rfl, trivial, ⟨to_7, x_4, ga_p_ts_7, ga_p_tc_7, (lg_X9_splitFirst_5 n_ta v1 x_1 x_4 i_7 to_7 n7 yq t_3 t_6 hi7_0 hi7_1 hmu7 t_9), (TkT_n hp7_0 (lg_X9_splitFirst_6 n_ta v1 x_1 x_4 i_7 to_7 n7 yq t_3 t_6 hi7_0 hi7_1 hmu7 t_9) rfl), (lg_X9_splitFirst_7 n_ta v1 x_1 x_4 i_7 to_7 n7 yq t_3 t_6 hi7_0 hi7_1 hmu7 t_9), by rw [ht]; exact hP9, va_K.moved hW.alike hK9, hD9⟩⟩, hS.F ht⟩) hS.2.2 dX9_splitFirst_79
    · have t_9 : i_7.toInt < x_4.toInt := i_nle rfl rfl c_8
      refine lv_aload_n hx hb dX9_splitFirst_31 rfl (lv_at hl 1 rfl) ?_
      refine lv_iload_n hx hb dX9_splitFirst_32 rfl (lv_at hl 0 rfl) ?_
      have hPc := hP.sub (ws' := [(h0, .inr (9, [.ref p_bytes, .ref p_ts, .ref p_tc, .int n_ta, .int to_7, .int x_4])), (p_bytes, .inl (k_bytes, 600, .inl f_bytes))]) [0, 1] rfl
      have hDc := hD.sub (ws' := [(h0, .inr (9, [.ref p_bytes, .ref p_ts, .ref p_tc, .int n_ta, .int to_7, .int x_4])), (p_bytes, .inl (k_bytes, 600, .inl f_bytes))]) [0, 1] (by decide) rfl
      have hKc := hK.sub (tys' := [(k_bytes, .byte)]) [0] rfl
      have hFc := va_free (wc := [(h0, .inr (9, [.ref p_bytes, .ref p_ts, .ref p_tc, .int n_ta, .int to_7, .int x_4])), (p_bytes, .inl (k_bytes, 600, .inl f_bytes))]) hD hS hA [0, 1] rfl
      refine va_calli (va_runV (C := RX9) (As := [.int i_7]) (rest := []) ⟨hx, hb, hml, hown, htb⟩ (kX9_beginsToken l dC dI H.size h0 p_bytes p_ts p_tc n_ta to_7 x_4 k_bytes f_bytes i_7 (lg_X9_splitFirst_8 n_ta v1 x_1 x_4 i_7 to_7 n7 yq t_3 t_6 hi7_0 hi7_1 hmu7 t_9) (lg_X9_splitFirst_9 n_ta v1 x_1 x_4 i_7 to_7 n7 yq t_3 t_6 hi7_0 hi7_1 hmu7 t_9)) ⟨callB_of 1 htb (gd_c m_817) rfl rfl rfl (htb _ m_10) (htb _ m_814) hdX9_beginsToken ⟨(Nat.le_of_ble_eq_true rfl), (Nat.le_of_ble_eq_true rfl)⟩, htb _ m_816, htb _ ms_16⟩ ⟨pcW_blind, va_recv hKc hPc (ci := 9) (q0 := 0) rfl rfl, pcW_at hPc hKc hDc hN⟩ rfl rfl hl.1 rfl (lv_room (Nat.le_of_ble_eq_true rfl)) dX9_splitFirst_33 ⟨(Nat.le_of_ble_eq_true rfl), (Nat.le_of_ble_eq_true rfl)⟩) hS (fun q _ h => hFc q h) hFc (fun r_10 u t H1 locs1 ht hvm h_11 hB hz1 hk1 hS1 => ?_)
      obtain ⟨hP1, hK1, hD1⟩ := hB
      rw [ht] at hP1
      obtain ⟨hPn, hDn⟩ := va_join (wr := [(p_ts, .inl (k_ts, 600, .inl ga_p_ts_7)), (p_tc, .inl (k_tc, 600, .inl ga_p_tc_7))]) (w1 := [(h0, .inr (9, [.ref p_bytes, .ref p_ts, .ref p_tc, .int n_ta, .int to_7, .int x_4])), (p_bytes, .inl (k_bytes, 600, .inl f_bytes))]) hP hD [0, 1] [2, 3] rfl rfl (by decide) (by decide) hk1 hFc hP1 hD1
      clear hP1 hD1 hK1
      clear hP hD hS hPc hDc hKc hFc hk1 hz1 ht hvm
      clear t
      revert hS1 hPn hDn; generalize H1 = H; generalize locs1 = locs; intro hS hP hD
      change va_P (dC, dI) vwCl [(p_ts, .inl (k_ts, 600, .inl ga_p_ts_7)), (p_tc, .inl (k_tc, 600, .inl ga_p_tc_7)), (h0, .inr (9, [.ref p_bytes, .ref p_ts, .ref p_tc, .int n_ta, .int to_7, .int x_4])), (p_bytes, .inl (k_bytes, 600, .inl f_bytes))] H at hP
      change va_D A [(p_ts, .inl (k_ts, 600, .inl ga_p_ts_7)), (p_tc, .inl (k_tc, 600, .inl ga_p_tc_7)), (h0, .inr (9, [.ref p_bytes, .ref p_ts, .ref p_tc, .int n_ta, .int to_7, .int x_4])), (p_bytes, .inl (k_bytes, 600, .inl f_bytes))] at hD
      rcases h_11 with ⟨rfl, h_11⟩ | ⟨rfl, h_11⟩
      · refine lv_if_eq (tgt := 73) hx hb dX9_splitFirst_36 (by decide) (fun c_12 => absurd c_12 (by decide)) ?_
        intro _
        refine lv_aload_n hx hb dX9_splitFirst_39 rfl (lv_at hl 1 rfl) ?_
        refine va_get (D := (dC, dI)) (ci := 9) (v := .ref p_ts) (C := RX9) (T := TX9) (N := 6) hx hb htb iX9 hown hK hP 2 rfl rfl 1 (Nat.le_of_ble_eq_true rfl) (htb _ m_237) (fun _ h9 => h9) rfl dX9_splitFirst_40 ?_
        refine lv_aload_n hx hb dX9_splitFirst_43 rfl (lv_at hl 1 rfl) ?_
        refine va_get (D := (dC, dI)) (ci := 9) (v := .int to_7) (C := RX9) (T := TX9) (N := 6) hx hb htb iX9 hown hK hP 2 rfl rfl 4 (Nat.le_of_ble_eq_true rfl) (htb _ m_241) (fun _ h9 => h9) rfl dX9_splitFirst_44 ?_
        refine lv_iload_n hx hb dX9_splitFirst_47 rfl (lv_at hl 0 rfl) ?_
        refine va_iast hx hb hK hP hD hS 0 1 rfl rfl (i_in rfl (lg_X9_splitFirst_10 n_ta f_bytes v1 x_1 x_4 i_7 to_7 n7 yq t_3 t_6 hi7_0 hi7_1 hmu7 t_9 h_11)) dX9_splitFirst_48 ?_
        clear hP hD hS; intro H locs hP hD hS
        change va_P (dC, dI) vwCl [(p_ts, .inl (k_ts, 600, .inl (upd ga_p_ts_7 (Int32.toNatClampNeg to_7) i_7))), (p_tc, .inl (k_tc, 600, .inl ga_p_tc_7)), (h0, .inr (9, [.ref p_bytes, .ref p_ts, .ref p_tc, .int n_ta, .int to_7, .int x_4])), (p_bytes, .inl (k_bytes, 600, .inl f_bytes))] H at hP
        change va_D A [(p_ts, .inl (k_ts, 600, .inl (upd ga_p_ts_7 (Int32.toNatClampNeg to_7) i_7))), (p_tc, .inl (k_tc, 600, .inl ga_p_tc_7)), (h0, .inr (9, [.ref p_bytes, .ref p_ts, .ref p_tc, .int n_ta, .int to_7, .int x_4])), (p_bytes, .inl (k_bytes, 600, .inl f_bytes))] at hD
        generalize hG_14 : upd ga_p_ts_7 (Int32.toNatClampNeg to_7) i_7 = g_13 at hP hD
        refine lv_aload_n hx hb dX9_splitFirst_49 rfl (lv_at hl 1 rfl) ?_
        refine va_get (D := (dC, dI)) (ci := 9) (v := .ref p_tc) (C := RX9) (T := TX9) (N := 6) hx hb htb iX9 hown hK hP 2 rfl rfl 2 (Nat.le_of_ble_eq_true rfl) (htb _ m_238) (fun _ h9 => h9) rfl dX9_splitFirst_50 ?_
        refine lv_aload_n hx hb dX9_splitFirst_53 rfl (lv_at hl 1 rfl) ?_
        refine va_get (D := (dC, dI)) (ci := 9) (v := .int to_7) (C := RX9) (T := TX9) (N := 6) hx hb htb iX9 hown hK hP 2 rfl rfl 4 (Nat.le_of_ble_eq_true rfl) (htb _ m_241) (fun _ h9 => h9) rfl dX9_splitFirst_54 ?_
        refine lv_aload_n hx hb dX9_splitFirst_57 rfl (lv_at hl 1 rfl) ?_
        have t_15 : ¬ kdN f_bytes (Int32.toNatClampNeg x_4) (Int32.toNatClampNeg i_7) = 3 := (bg_t h_11).2
        refine lv_iload_n hx hb dX9_splitFirst_58 rfl (lv_at hl 0 rfl) ?_
        have hPc := hP.sub (ws' := [(h0, .inr (9, [.ref p_bytes, .ref p_ts, .ref p_tc, .int n_ta, .int to_7, .int x_4])), (p_bytes, .inl (k_bytes, 600, .inl f_bytes))]) [2, 3] rfl
        have hDc := hD.sub (ws' := [(h0, .inr (9, [.ref p_bytes, .ref p_ts, .ref p_tc, .int n_ta, .int to_7, .int x_4])), (p_bytes, .inl (k_bytes, 600, .inl f_bytes))]) [2, 3] (by decide) rfl
        have hKc := hK.sub (tys' := [(k_bytes, .byte)]) [0] rfl
        have hFc := va_free (wc := [(h0, .inr (9, [.ref p_bytes, .ref p_ts, .ref p_tc, .int n_ta, .int to_7, .int x_4])), (p_bytes, .inl (k_bytes, 600, .inl f_bytes))]) hD hS hA [2, 3] rfl
        refine va_calli (va_runV (C := RX9) (As := [.int i_7]) (rest := [.int to_7, .ref p_tc]) ⟨hx, hb, hml, hown, htb⟩ (kX9_codeAt l dC dI H.size adK adV fm h0 p_bytes p_ts p_tc n_ta to_7 x_4 k_bytes f_bytes i_7 (lg_X9_splitFirst_11 n_ta f_bytes v1 x_1 x_4 i_7 to_7 n7 yq t_3 t_6 hi7_0 hi7_1 hmu7 t_9 h_11 t_15) (lg_X9_splitFirst_12 n_ta f_bytes v1 x_1 x_4 i_7 to_7 n7 yq t_3 t_6 hi7_0 hi7_1 hmu7 t_9 h_11 t_15) t_15) ⟨callB_of 1 htb (gd_c m_825) rfl rfl rfl (htb _ m_10) (htb _ m_822) hdX9_codeAt ⟨(Nat.le_of_ble_eq_true rfl), (Nat.le_of_ble_eq_true rfl)⟩, htb _ m_824, htb _ ms_18⟩ ⟨pcS_blind, va_recv hKc hPc (ci := 9) (q0 := 0) rfl rfl, pcS_at hPc hKc hDc hN hE hR hS hFc⟩ rfl rfl hl.1 rfl (lv_room (Nat.le_of_ble_eq_true rfl)) dX9_splitFirst_59 ⟨(Nat.le_of_ble_eq_true rfl), (Nat.le_of_ble_eq_true rfl)⟩) hS (fun q _ h => hFc q h) hFc (fun r_16 u t H1 locs1 ht hvm h_17 hB hz1 hk1 hS1 => ?_)
        obtain ⟨hP1, hK1, hD1⟩ := hB
        rw [ht] at hP1
        obtain ⟨hPn, hDn⟩ := va_join (wr := [(p_ts, .inl (k_ts, 600, .inl g_13)), (p_tc, .inl (k_tc, 600, .inl ga_p_tc_7))]) (w1 := [(h0, .inr (9, [.ref p_bytes, .ref p_ts, .ref p_tc, .int n_ta, .int to_7, .int x_4])), (p_bytes, .inl (k_bytes, 600, .inl f_bytes))]) hP hD [2, 3] [0, 1] rfl rfl (by decide) (by decide) hk1 hFc hP1 hD1
        clear hP1 hD1 hK1
        clear hP hD hS hPc hDc hKc hFc hk1 hz1 ht hvm
        clear t
        revert hS1 hPn hDn; generalize H1 = H; generalize locs1 = locs; intro hS hP hD
        change va_P (dC, dI) vwCl [(p_ts, .inl (k_ts, 600, .inl g_13)), (p_tc, .inl (k_tc, 600, .inl ga_p_tc_7)), (h0, .inr (9, [.ref p_bytes, .ref p_ts, .ref p_tc, .int n_ta, .int to_7, .int x_4])), (p_bytes, .inl (k_bytes, 600, .inl f_bytes))] H at hP
        change va_D A [(p_ts, .inl (k_ts, 600, .inl g_13)), (p_tc, .inl (k_tc, 600, .inl ga_p_tc_7)), (h0, .inr (9, [.ref p_bytes, .ref p_ts, .ref p_tc, .int n_ta, .int to_7, .int x_4])), (p_bytes, .inl (k_bytes, 600, .inl f_bytes))] at hD
        refine va_iast hx hb hK hP hD hS 1 2 rfl rfl (i_in rfl (lg_X9_splitFirst_13 n_ta f_bytes v1 x_1 x_4 i_7 to_7 n7 r_16 yq t_3 t_6 hi7_0 hi7_1 hmu7 t_9 h_11 t_15 h_17)) dX9_splitFirst_62 ?_
        clear hP hD hS; intro H locs hP hD hS
        change va_P (dC, dI) vwCl [(p_ts, .inl (k_ts, 600, .inl g_13)), (p_tc, .inl (k_tc, 600, .inl (upd ga_p_tc_7 (Int32.toNatClampNeg to_7) r_16))), (h0, .inr (9, [.ref p_bytes, .ref p_ts, .ref p_tc, .int n_ta, .int to_7, .int x_4])), (p_bytes, .inl (k_bytes, 600, .inl f_bytes))] H at hP
        change va_D A [(p_ts, .inl (k_ts, 600, .inl g_13)), (p_tc, .inl (k_tc, 600, .inl (upd ga_p_tc_7 (Int32.toNatClampNeg to_7) r_16))), (h0, .inr (9, [.ref p_bytes, .ref p_ts, .ref p_tc, .int n_ta, .int to_7, .int x_4])), (p_bytes, .inl (k_bytes, 600, .inl f_bytes))] at hD
        generalize hG_19 : upd ga_p_tc_7 (Int32.toNatClampNeg to_7) r_16 = g_18 at hP hD
        refine lv_aload_n hx hb dX9_splitFirst_63 rfl (lv_at hl 1 rfl) ?_
        refine lv_dup hx hb dX9_splitFirst_64 rfl ?_
        refine va_get (D := (dC, dI)) (ci := 9) (v := .int to_7) (C := RX9) (T := TX9) (N := 6) hx hb htb iX9 hown hK hP 2 rfl rfl 4 (Nat.le_of_ble_eq_true rfl) (htb _ m_241) (fun _ h9 => h9) rfl dX9_splitFirst_65 ?_
        refine lv_iconst (v := 1) hx hb dX9_splitFirst_68 (by decide) ?_
        refine lv_iadd hx hb dX9_splitFirst_69 ?_
        refine lv_topi (fun x_20 ex_21 => ?_)
        have t_22 : x_20.toInt = to_7.toInt + (1 : Int) := i_add rfl (by decide) (lg_X9_splitFirst_14 n_ta f_bytes v1 x_1 x_4 i_7 to_7 n7 r_16 yq t_3 t_6 hi7_0 hi7_1 hmu7 t_9 h_11 t_15 h_17) ex_21
        refine va_put (D := (dC, dI)) (ci := 9) (v := .int x_20) (C := RX9) (T := TX9) (N := 6) hx hb htb iX9 tyX9 tyX9_ok nmX9 hown hK hP hD hS 2 rfl rfl 4 (Nat.le_of_ble_eq_true rfl) (htb _ m_241) (fun _ h9 => h9) rfl (tyX9_ok 4 (Nat.le_of_ble_eq_true rfl)) rfl rfl (Nat.le_of_ble_eq_true rfl) dX9_splitFirst_70 ?_
        clear hP hD hS; intro H locs hP hD hS
        change va_P (dC, dI) vwCl [(p_ts, .inl (k_ts, 600, .inl g_13)), (p_tc, .inl (k_tc, 600, .inl g_18)), (h0, .inr (9, [.ref p_bytes, .ref p_ts, .ref p_tc, .int n_ta, .int x_20, .int x_4])), (p_bytes, .inl (k_bytes, 600, .inl f_bytes))] H at hP
        change va_D A [(p_ts, .inl (k_ts, 600, .inl g_13)), (p_tc, .inl (k_tc, 600, .inl g_18)), (h0, .inr (9, [.ref p_bytes, .ref p_ts, .ref p_tc, .int n_ta, .int x_20, .int x_4])), (p_bytes, .inl (k_bytes, 600, .inl f_bytes))] at hD
        obtain ⟨x_23, ex_24⟩ : ∃ y : Int32, y = i_7 + Int32.ofInt 1 := ⟨_, rfl⟩
        have t_25 : x_23.toInt = i_7.toInt + 1 := i_add rfl (by decide) (lg_X9_splitFirst_15 n_ta f_bytes v1 x_1 x_4 i_7 to_7 n7 r_16 x_20 yq t_3 t_6 hi7_0 hi7_1 hmu7 t_9 h_11 t_15 h_17 t_22) ex_24
        refine lv_iinc (v := x_23) (lv' := [(2, .int x_23), (0, .ref h0), (1, .int v1)]) hx hb dX9_splitFirst_73 hl (k := 0) rfl ex_24.symm (by decide) rfl ?_
        clear hl; intro ls hl
        refine lv_goto (tgt := 23) hx hb dX9_splitFirst_76 (by decide) ?_
        exact ih7 x_23 x_20 g_13 g_18 H locs ls (lg_X9_splitFirst_16 n_ta f_bytes v1 x_1 x_4 i_7 to_7 n7 r_16 x_20 x_23 yq t_3 t_6 hi7_0 hi7_1 hmu7 t_9 h_11 t_15 h_17 t_22 t_25) (lg_X9_splitFirst_17 n_ta f_bytes v1 x_1 x_4 i_7 to_7 n7 r_16 x_20 x_23 yq t_3 t_6 hi7_0 hi7_1 hmu7 t_9 h_11 t_15 h_17 t_22 t_25) (lg_X9_splitFirst_18 n_ta f_bytes v1 x_1 x_4 i_7 to_7 n7 r_16 x_20 x_23 yq t_3 t_6 hi7_0 hi7_1 hmu7 t_9 h_11 t_15 h_17 t_22 t_25)  (TkT_t hp7_0 h_11 hG_14 hG_19 (lg_X9_splitFirst_20 n_ta f_bytes v1 x_1 x_4 i_7 to_7 n7 r_16 x_20 x_23 yq t_3 t_6 hi7_0 hi7_1 hmu7 t_9 h_11 t_15 h_17 t_22 t_25) (lg_X9_splitFirst_19 n_ta f_bytes v1 x_1 x_4 i_7 to_7 n7 r_16 x_20 x_23 yq t_3 t_6 hi7_0 hi7_1 hmu7 t_9 h_11 t_15 h_17 t_22 t_25) (lg_X9_splitFirst_21 n_ta f_bytes v1 x_1 x_4 i_7 to_7 n7 r_16 x_20 x_23 yq t_3 t_6 hi7_0 hi7_1 hmu7 t_9 h_11 t_15 h_17 t_22 t_25)) (lv_sub hl [0, 1, 2] rfl) (hP.sub [2, 3, 0, 1] rfl) (hD.sub [2, 3, 0, 1] (by decide) rfl) hS
      · refine lv_if_eq (tgt := 73) hx hb dX9_splitFirst_36 (by decide) ?_ (fun c_26 => absurd (by decide) c_26)
        intro _
        obtain ⟨x_27, ex_28⟩ : ∃ y : Int32, y = i_7 + Int32.ofInt 1 := ⟨_, rfl⟩
        have t_29 : x_27.toInt = i_7.toInt + 1 := i_add rfl (by decide) (lg_X9_splitFirst_22 n_ta f_bytes v1 x_1 x_4 i_7 to_7 n7 yq t_3 t_6 hi7_0 hi7_1 hmu7 t_9 h_11) ex_28
        refine lv_iinc (v := x_27) (lv' := [(2, .int x_27), (0, .ref h0), (1, .int v1)]) hx hb dX9_splitFirst_73 hl (k := 0) rfl ex_28.symm (by decide) rfl ?_
        clear hl; intro ls hl
        refine lv_goto (tgt := 23) hx hb dX9_splitFirst_76 (by decide) ?_
        exact ih7 x_27 to_7 ga_p_ts_7 ga_p_tc_7 H locs ls (lg_X9_splitFirst_23 n_ta f_bytes v1 x_1 x_4 i_7 to_7 n7 x_27 yq t_3 t_6 hi7_0 hi7_1 hmu7 t_9 h_11 t_29) (lg_X9_splitFirst_24 n_ta f_bytes v1 x_1 x_4 i_7 to_7 n7 x_27 yq t_3 t_6 hi7_0 hi7_1 hmu7 t_9 h_11 t_29) (lg_X9_splitFirst_25 n_ta f_bytes v1 x_1 x_4 i_7 to_7 n7 x_27 yq t_3 t_6 hi7_0 hi7_1 hmu7 t_9 h_11 t_29)  (TkT_f hp7_0 h_11 (lg_X9_splitFirst_26 n_ta f_bytes v1 x_1 x_4 i_7 to_7 n7 x_27 yq t_3 t_6 hi7_0 hi7_1 hmu7 t_9 h_11 t_29)) (lv_sub hl [0, 1, 2] rfl) (hP.sub [2, 3, 0, 1] rfl) (hD.sub [2, 3, 0, 1] (by decide) rfl) hS
