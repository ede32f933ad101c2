/-! ===== by program: the walks ===== -/
set_option maxRecDepth 100000 in
set_option maxHeartbeats 4000000 in
theorem w_X0_start {l : Launch} {D : va_G} {cI cZ : ClassId} (vv : V_X0_start) : K_X0_start l D cI cZ := by
  intro p
  have vw := vv p
  refine Met.ofW (cc := cX0_start) (maxL := 1) (ret := (some .int)) (by decide) rfl ?_
  intro zp ze zs zm zargs zbelow zmeth zc zs1 B hml hv
  obtain ⟨rfl, hZ, hP⟩ := hv
  have hx := B.exec
  have hb := B.bytes
  have hr := B.returns
  have hts := atoms_spec (ws := wsX0_start) B.pre
  have hown : zs.vm.findClass RX0 = some zm.cls := findClass_of_methodNamed B.named
  have hlocks := B.notSynchronized
  have hP : va_P D vwCl [] zs.heap := hP
  have hl := lv_entry ([.int (nI p)]) (n := 1) (Nat.le_of_ble_eq_true rfl)
  rw [lg_entry_eq]
  generalize (lg_sl ([.int (nI p)]) ++ List.replicate (1 - (lg_sl ([.int (nI p)])).length) Slot.unset).toArray = ls at hl ⊢
  have hl : lv_has ls 1 [(0, .int (nI p))] := hl
  have hw := vw
  unfold B_X0_start_in at hw
  refine lv_iload_n hx hb dX0_start_0 rfl (lv_at hl 0 rfl) ?_
  refine lv_bipush (v := nI 16) hx hb dX0_start_1 (by decide +kernel) ?_
  refine z_ishl hx hb (n_shl _ (by decide)) dX0_start_3 ?_
  have er := hw
  exact W.iret (v := nI (p <<< 16)) hx hb hr (fun t ht hW => ⟨_, rfl, (congrArg nI er), ht⟩) (fun _ h => by cases h) dX0_start_4
set_option maxRecDepth 100000 in
set_option maxHeartbeats 4000000 in
theorem w_X0_postAt {l : Launch} {D : va_G} {cI cZ : ClassId} (vv : V_X0_postAt) : K_X0_postAt l D cI cZ := by
  intro s hpre0
  have vw := vv s hpre0
  refine Met.ofW (cc := cX0_postAt) (maxL := 1) (ret := (some .int)) (by decide) rfl ?_
  intro zp ze zs zm zargs zbelow zmeth zc zs1 B hml hv
  obtain ⟨rfl, hZ, hP⟩ := hv
  have hx := B.exec
  have hb := B.bytes
  have hr := B.returns
  have hts := atoms_spec (ws := wsX0_postAt) B.pre
  have hown : zs.vm.findClass RX0 = some zm.cls := findClass_of_methodNamed B.named
  have hlocks := B.notSynchronized
  have hP : va_P D vwCl [] zs.heap := hP
  have hl := lv_entry ([.int (nI s)]) (n := 1) (Nat.le_of_ble_eq_true rfl)
  rw [lg_entry_eq]
  generalize (lg_sl ([.int (nI s)]) ++ List.replicate (1 - (lg_sl ([.int (nI s)])).length) Slot.unset).toArray = ls at hl ⊢
  have hl : lv_has ls 1 [(0, .int (nI s))] := hl
  have hw := vw
  unfold B_X0_postAt_in at hw
  refine lv_iload_n hx hb dX0_postAt_0 rfl (lv_at hl 0 rfl) ?_
  refine lv_bipush (v := nI 16) hx hb dX0_postAt_1 (by decide +kernel) ?_
  obtain ⟨zh1, hw⟩ := hw
  refine z_ishr hx hb (n_shr zh1 (by decide)) dX0_postAt_3 ?_
  have er := hw
  exact W.iret (v := nI (s >>> 16)) hx hb hr (fun t ht hW => ⟨_, rfl, (congrArg nI er), ht⟩) (fun _ h => by cases h) dX0_postAt_4
set_option maxRecDepth 100000 in
set_option maxHeartbeats 4000000 in
theorem w_X0_isMarkTime {l : Launch} {D : va_G} {cI cZ : ClassId} (vv : V_X0_isMarkTime) : K_X0_isMarkTime l D cI cZ := by
  intro k hpre0 hpre1
  have vw := vv k hpre0 hpre1
  refine Met.ofW (cc := cX0_isMarkTime) (maxL := 1) (ret := (some .boolean)) (by decide) rfl ?_
  intro zp ze zs zm zargs zbelow zmeth zc zs1 B hml hv
  obtain ⟨rfl, hZ, hP⟩ := hv
  have hx := B.exec
  have hb := B.bytes
  have hr := B.returns
  have hts := atoms_spec (ws := wsX0_isMarkTime) B.pre
  have hown : zs.vm.findClass RX0 = some zm.cls := findClass_of_methodNamed B.named
  have hlocks := B.notSynchronized
  have hP : va_P D vwCl [] zs.heap := hP
  have hl := lv_entry ([.int (nI k)]) (n := 1) (Nat.le_of_ble_eq_true rfl)
  rw [lg_entry_eq]
  generalize (lg_sl ([.int (nI k)]) ++ List.replicate (1 - (lg_sl ([.int (nI k)])).length) Slot.unset).toArray = ls at hl ⊢
  have hl : lv_has ls 1 [(0, .int (nI k))] := hl
  have hw := vw
  unfold B_X0_isMarkTime_in at hw
  refine lv_iload_n hx hb dX0_isMarkTime_0 rfl (lv_at hl 0 rfl) ?_
  refine lv_iload_n hx hb dX0_isMarkTime_1 rfl (lv_at hl 0 rfl) ?_
  refine lv_iconst (v := nI 1) hx hb dX0_isMarkTime_2 (by decide +kernel) ?_
  obtain ⟨zh1, hw⟩ := hw
  refine z_isub hx hb (pk_sub zh1) dX0_isMarkTime_3 ?_
  refine z_iand hx hb (n_and _ _) dX0_isMarkTime_4 ?_
  obtain ⟨zh2, hw⟩ := hw
  obtain ⟨hwt, hwf⟩ := hw
  refine z_if_ne hx hb zh2 (tgt := 12) dX0_isMarkTime_5 (by decide) (fun cc => ?_) (fun cc => ?_)
  · replace hw := hwt cc
    refine lv_iconst (v := nI 0) hx hb dX0_isMarkTime_12 (by decide +kernel) ?_
    refine z_st (st' := [.int (bI false)]) rfl ?_
    have er := hw
    exact W.zret (ty := .boolean) (v := bI false) hx hb hr (bI_nar _) (fun t ht hW => ⟨_, rfl, (congrArg bI er), ht⟩) (fun _ h => by cases h) dX0_isMarkTime_13
  · replace hw := hwf cc
    refine lv_iconst (v := nI 1) hx hb dX0_isMarkTime_8 (by decide +kernel) ?_
    refine lv_goto (tgt := 13) hx hb dX0_isMarkTime_9 (by decide) ?_
    refine z_st (st' := [.int (bI true)]) rfl ?_
    have er := hw
    exact W.zret (ty := .boolean) (v := bI true) hx hb hr (bI_nar _) (fun t ht hW => ⟨_, rfl, (congrArg bI er), ht⟩) (fun _ h => by cases h) dX0_isMarkTime_13
theorem m_X0_sendOn_f11 : Cond.fieldLink RX0 11 "NetWalkers$Hands" "net" "LNetWalkers$Net;" ∈ wsX0_sendOn := by decide +kernel
theorem i_X0_sendOn_X0 : ∀ w ∈ wsX00, w ∈ wsX0_sendOn := by decide +kernel
theorem m_X0_sendOn_c24 : Cond.constant RX0 24 (65535) ∈ wsX0_sendOn := by decide +kernel
theorem m_X0_sendOn_inX5 : Cond.initialized RX5 ∈ wsX0_sendOn := by decide +kernel
theorem m_X0_sendOn_stX5_placeOf : Cond.static yX5_placeOf ∈ wsX0_sendOn := by decide +kernel
theorem m_X0_sendOn_stX5_postOf : Cond.static yX5_postOf ∈ wsX0_sendOn := by decide +kernel
set_option maxRecDepth 100000 in
set_option maxHeartbeats 4000000 in
theorem w_X0_sendOn {l : Launch} {D : va_G} {cI cZ : ClassId} (k_X0_postAt : K_X0_postAt l D cI cZ) (k_X2_degreeOf : K_X2_degreeOf l D cI cZ) (k_X5_placeOf : K_X5_placeOf l D cI cZ) (k_X2_through : K_X2_through l D cI cZ) (k_X5_postOf : K_X5_postOf l D cI cZ) (k_X0_start : K_X0_start l D cI cZ) (vv : V_X0_sendOn) : K_X0_sendOn l D cI cZ := by
  intro q_hd q_nt q_en q_ba q_de n t w s hpre0 hpre1 hpre2
  have vw := vv n t w s hpre0 hpre1 hpre2
  refine Met.ofW (cc := cX0_sendOn) (maxL := 9) (ret := (some .int)) (by decide) rfl ?_
  intro zp ze zs zm zargs zbelow zmeth zc zs1 B hml hv
  obtain ⟨rfl, hZ, hP⟩ := hv
  have hx := B.exec
  have hb := B.bytes
  have hr := B.returns
  have hts := atoms_spec (ws := wsX0_sendOn) B.pre
  have hown : zs.vm.findClass RX0 = some zm.cls := findClass_of_methodNamed B.named
  have hlocks := B.notSynchronized
  have hP : va_P D vwCl [(q_hd, .inr (0, [.ref q_nt])), (q_nt, .inr (2, [.ref q_en, .ref q_ba, .ref q_de, .int (nI n), .int (nI (prs t))])), (q_en, .inl (cI, 32, .inl (aE t))), (q_ba, .inl (cZ, 32, .inl (aB w))), (q_de, .inl (cI, 8, .inl (aN (dg t))))] zs.heap := hP
  have hl := lv_entry ([.ref q_hd, .int (nI s)]) (n := 9) (Nat.le_of_ble_eq_true rfl)
  rw [lg_entry_eq]
  generalize (lg_sl ([.ref q_hd, .int (nI s)]) ++ List.replicate (9 - (lg_sl ([.ref q_hd, .int (nI s)])).length) Slot.unset).toArray = ls at hl ⊢
  have hl : lv_has ls 9 [(0, .ref q_hd), (1, .int (nI s))] := hl
  have hw := vw
  unfold B_X0_sendOn_in at hw
  refine lv_iload_n hx hb dX0_sendOn_0 rfl (lv_at hl 1 rfl) ?_
  obtain ⟨zh1, hw⟩ := hw
  have hPc : va_P D vwCl [] zs.heap := hP.sub [] rfl
  refine z_ro (va_runS (As := [.int (nI s)]) (rest := []) ⟨hx, hb, hml, hown, hts⟩ (k_X0_postAt s zh1) (va_cwS 1 hts gX0_sendOn_X0_postAt rfl rfl rfl (by decide +kernel) ⟨Nat.le_of_ble_eq_true rfl, Nat.le_of_ble_eq_true rfl⟩) (zPr_S hZ hPc) rfl rfl hl.1 rfl (lv_room (Nat.le_of_ble_eq_true rfl)) dX0_sendOn_1 ⟨Nat.zero_le _, Nat.zero_le _⟩) (fun zr2 hzr2 => ?_)
  have ez := hzr2
  rw [ez]
  clear ez hzr2
  obtain ⟨zx3, ezx3⟩ : ∃ zx3 : Nat, zx3 = s >>> 16 := ⟨_, rfl⟩
  replace hw := hw zx3 ezx3
  refine z_st (st' := [.int (nI zx3)]) (by rw [ezx3]) ?_
  refine lv_istore_n (lv' := [(2, .int (nI zx3)), (0, .ref q_hd), (1, .int (nI s))]) hx hb dX0_sendOn_4 rfl hl (by decide) rfl (fun ls hl => ?_)
  refine lv_aload_n hx hb dX0_sendOn_5 rfl (lv_at hl 1 rfl) ?_
  refine va_get (D := D) (ci := 0) (v := .ref q_nt) (C := RX0) (T := TX0) (N := 1) hx hb hts i_X0_sendOn_X0 hown hZ.1 hP 0 rfl rfl 0 (by decide) (hts _ m_X0_sendOn_f11) (fun _ h9 => h9) rfl dX0_sendOn_6 ?_
  refine lv_iload_n hx hb dX0_sendOn_9 rfl (lv_at hl 0 rfl) ?_
  obtain ⟨zh4, hw⟩ := hw
  have hPc : va_P D vwCl [(q_nt, .inr (2, [.ref q_en, .ref q_ba, .ref q_de, .int (nI n), .int (nI (prs t))])), (q_en, .inl (cI, 32, .inl (aE t))), (q_ba, .inl (cZ, 32, .inl (aB w))), (q_de, .inl (cI, 8, .inl (aN (dg t))))] zs.heap := hP.sub [1, 2, 3, 4] rfl
  refine z_ro (va_runV (As := [.int (nI zx3)]) (rest := []) ⟨hx, hb, hml, hown, hts⟩ (k_X2_degreeOf q_nt q_en q_ba q_de n t w zx3 zh4) (cwV 1 hts gX0_sendOn_X2_degreeOf rfl rfl rfl (by decide +kernel) ⟨Nat.le_of_ble_eq_true rfl, Nat.le_of_ble_eq_true rfl⟩) (zPr_V hZ hPc 0 rfl rfl) rfl rfl hl.1 rfl (lv_room (Nat.le_of_ble_eq_true rfl)) dX0_sendOn_10 ⟨Nat.zero_le _, Nat.zero_le _⟩) (fun zr5 hzr5 => ?_)
  have ez := hzr5
  rw [ez]
  clear ez hzr5
  obtain ⟨zx6, ezx6⟩ : ∃ zx6 : Nat, zx6 = dg t zx3 := ⟨_, rfl⟩
  replace hw := hw zx6 ezx6
  refine z_st (st' := [.int (nI zx6)]) (by rw [ezx6]) ?_
  refine lv_istore_n (lv' := [(3, .int (nI zx6)), (2, .int (nI zx3)), (0, .ref q_hd), (1, .int (nI s))]) hx hb dX0_sendOn_13 rfl hl (by decide) rfl (fun ls hl => ?_)
  refine lv_iload_n hx hb dX0_sendOn_14 rfl (lv_at hl 0 rfl) ?_
  obtain ⟨zh7, hw⟩ := hw
  obtain ⟨hwt, hwf⟩ := hw
  refine z_if_gt hx hb zh7 (tgt := 20) dX0_sendOn_15 (by decide) (fun cc => ?_) (fun cc => ?_)
  · replace hw := hwt cc
    refine lv_iconst (v := nI 2) hx hb dX0_sendOn_20 (by decide +kernel) ?_
    refine lv_iload_n hx hb dX0_sendOn_21 rfl (lv_at hl 1 rfl) ?_
    refine z_imul hx hb (pk_mul _ _) dX0_sendOn_22 ?_
    obtain ⟨zx8, ezx8⟩ : ∃ zx8 : Nat, zx8 = 2 * zx3 := ⟨_, rfl⟩
    replace hw := hw zx8 ezx8
    refine z_st (st' := [.int (nI zx8)]) (by rw [ezx8]) ?_
    refine lv_istore (lv' := [(4, .int (nI zx8)), (3, .int (nI zx6)), (2, .int (nI zx3)), (0, .ref q_hd), (1, .int (nI s))]) hx hb dX0_sendOn_23 hl (by decide) rfl (fun ls hl => ?_)
    refine lv_iload_n hx hb dX0_sendOn_25 rfl (lv_at hl 4 rfl) ?_
    refine lv_iload hx hb dX0_sendOn_26 (lv_at hl 0 rfl) ?_
    obtain ⟨zh9, hw⟩ := hw
    obtain ⟨zh10, hw⟩ := hw
    refine z_ishr hx hb (n_shr zh10 zh9) dX0_sendOn_28 ?_
    refine lv_iconst (v := nI 3) hx hb dX0_sendOn_29 (by decide +kernel) ?_
    refine z_iand hx hb (n_and _ _) dX0_sendOn_30 ?_
    obtain ⟨zx11, ezx11⟩ : ∃ zx11 : Nat, zx11 = (s >>> zx8) &&& 3 := ⟨_, rfl⟩
    replace hw := hw zx11 ezx11
    refine z_st (st' := [.int (nI zx11)]) (by rw [ezx11]) ?_
    refine lv_istore (lv' := [(5, .int (nI zx11)), (4, .int (nI zx8)), (3, .int (nI zx6)), (2, .int (nI zx3)), (0, .ref q_hd), (1, .int (nI s))]) hx hb dX0_sendOn_31 hl (by decide) rfl (fun ls hl => ?_)
    refine lv_iload hx hb dX0_sendOn_33 (lv_at hl 0 rfl) ?_
    refine lv_iconst (v := nI 1) hx hb dX0_sendOn_35 (by decide +kernel) ?_
    refine z_iadd hx hb (nI_add _ _) dX0_sendOn_36 ?_
    refine lv_iload_n hx hb dX0_sendOn_37 rfl (lv_at hl 2 rfl) ?_
    obtain ⟨zh12, hw⟩ := hw
    obtain ⟨zh13, hw⟩ := hw
    obtain ⟨zh14, hw⟩ := hw
    refine z_irem hx hb (n_nz zh13 zh14) (n_rem zh12 zh13 zh14) dX0_sendOn_38 ?_
    obtain ⟨zx15, ezx15⟩ : ∃ zx15 : Nat, zx15 = (zx11 + 1) % zx6 := ⟨_, rfl⟩
    replace hw := hw zx15 ezx15
    refine z_st (st' := [.int (nI zx15)]) (by rw [ezx15]) ?_
    refine lv_istore (lv' := [(6, .int (nI zx15)), (5, .int (nI zx11)), (4, .int (nI zx8)), (3, .int (nI zx6)), (2, .int (nI zx3)), (0, .ref q_hd), (1, .int (nI s))]) hx hb dX0_sendOn_39 hl (by decide) rfl (fun ls hl => ?_)
    refine lv_iload_n hx hb dX0_sendOn_41 rfl (lv_at hl 6 rfl) ?_
    refine lv_ldc (v := 65535) hx hb hown (hts _ m_X0_sendOn_c24) dX0_sendOn_42 ?_
    refine z_st (st' := [.int (nI 65535), .int (nI s)]) rfl ?_
    refine z_iand hx hb (n_and _ _) dX0_sendOn_44 ?_
    obtain ⟨zx16, ezx16⟩ : ∃ zx16 : Nat, zx16 = s &&& 65535 := ⟨_, rfl⟩
    replace hw := hw zx16 ezx16
    refine z_st (st' := [.int (nI zx16)]) (by rw [ezx16]) ?_
    refine lv_istore (lv' := [(7, .int (nI zx16)), (6, .int (nI zx15)), (5, .int (nI zx11)), (4, .int (nI zx8)), (3, .int (nI zx6)), (2, .int (nI zx3)), (0, .ref q_hd), (1, .int (nI s))]) hx hb dX0_sendOn_45 hl (by decide) rfl (fun ls hl => ?_)
    refine lv_iload hx hb dX0_sendOn_47 (lv_at hl 0 rfl) ?_
    refine lv_iload hx hb dX0_sendOn_49 (lv_at hl 2 rfl) ?_
    refine lv_iload hx hb dX0_sendOn_51 (lv_at hl 1 rfl) ?_
    refine z_ixor hx hb (n_xor _ _) dX0_sendOn_53 ?_
    refine lv_iload hx hb dX0_sendOn_54 (lv_at hl 3 rfl) ?_
    obtain ⟨zh17, hw⟩ := hw
    refine z_ishl hx hb (n_shl _ zh17) dX0_sendOn_56 ?_
    refine z_ixor hx hb (n_xor _ _) dX0_sendOn_57 ?_
    obtain ⟨zx18, ezx18⟩ : ∃ zx18 : Nat, zx18 = zx16 ^^^ ((zx11 ^^^ zx15) <<< zx8) := ⟨_, rfl⟩
    replace hw := hw zx18 ezx18
    refine z_st (st' := [.int (nI zx18)]) (by rw [ezx18]) ?_
    refine lv_istore (lv' := [(8, .int (nI zx18)), (7, .int (nI zx16)), (6, .int (nI zx15)), (5, .int (nI zx11)), (4, .int (nI zx8)), (3, .int (nI zx6)), (2, .int (nI zx3)), (0, .ref q_hd), (1, .int (nI s))]) hx hb dX0_sendOn_58 hl (by decide) rfl (fun ls hl => ?_)
    refine lv_iload hx hb dX0_sendOn_60 (lv_at hl 0 rfl) ?_
    refine lv_aload_n hx hb dX0_sendOn_62 rfl (lv_at hl 7 rfl) ?_
    refine va_get (D := D) (ci := 0) (v := .ref q_nt) (C := RX0) (T := TX0) (N := 1) hx hb hts i_X0_sendOn_X0 hown hZ.1 hP 0 rfl rfl 0 (by decide) (hts _ m_X0_sendOn_f11) (fun _ h9 => h9) rfl dX0_sendOn_63 ?_
    refine lv_iload_n hx hb dX0_sendOn_66 rfl (lv_at hl 6 rfl) ?_
    refine lv_iload hx hb dX0_sendOn_67 (lv_at hl 3 rfl) ?_
    have hPc : va_P D vwCl [] zs.heap := hP.sub [] rfl
    refine z_ro (va_runSN (As := [.int (nI zx3), .int (nI zx11)]) (rest := [.ref q_nt, .int (nI zx18)]) ⟨hx, hb, hml, hown, hts⟩ (k_X5_placeOf zx3 zx11) ⟨va_cnB 2 hts gX0_sendOn_X5_placeOf_n25 rfl rfl rfl hZ.2.2.2.2.2.2.1 (hts _ m_X0_sendOn_inX5) (by decide +kernel) ⟨Nat.le_of_ble_eq_true rfl, Nat.le_of_ble_eq_true rfl⟩, (hts _ m_X0_sendOn_stX5_placeOf), trivial⟩ (zPr_S hZ hPc) rfl rfl hl.1 rfl (lv_room (Nat.le_of_ble_eq_true rfl)) dX0_sendOn_69 ⟨Nat.zero_le _, Nat.zero_le _⟩) (fun zr19 hzr19 => ?_)
    have ez := hzr19
    rw [ez]
    clear ez hzr19
    obtain ⟨zh20, hw⟩ := hw
    have hPc : va_P D vwCl [(q_nt, .inr (2, [.ref q_en, .ref q_ba, .ref q_de, .int (nI n), .int (nI (prs t))])), (q_en, .inl (cI, 32, .inl (aE t))), (q_ba, .inl (cZ, 32, .inl (aB w))), (q_de, .inl (cI, 8, .inl (aN (dg t))))] zs.heap := hP.sub [1, 2, 3, 4] rfl
    refine z_ro (va_runV (As := [.int (nI (4 * zx3 + zx11))]) (rest := [.int (nI zx18)]) ⟨hx, hb, hml, hown, hts⟩ (k_X2_through q_nt q_en q_ba q_de n t w (4 * zx3 + zx11) zh20) (cwV 1 hts gX0_sendOn_X2_through rfl rfl rfl (by decide +kernel) ⟨Nat.le_of_ble_eq_true rfl, Nat.le_of_ble_eq_true rfl⟩) (zPr_V hZ hPc 0 rfl rfl) rfl rfl hl.1 rfl (lv_room (Nat.le_of_ble_eq_true rfl)) dX0_sendOn_72 ⟨Nat.zero_le _, Nat.zero_le _⟩) (fun zr21 hzr21 => ?_)
    have ez := hzr21
    rw [ez]
    clear ez hzr21
    obtain ⟨zh22, hw⟩ := hw
    have hPc : va_P D vwCl [] zs.heap := hP.sub [] rfl
    refine z_ro (va_runSN (As := [.int (nI (thr t w (4 * zx3 + zx11)))]) (rest := [.int (nI zx18)]) ⟨hx, hb, hml, hown, hts⟩ (k_X5_postOf (thr t w (4 * zx3 + zx11)) zh22) ⟨va_cnB 1 hts gX0_sendOn_X5_postOf_n32 rfl rfl rfl hZ.2.2.2.2.2.2.2.1 (hts _ m_X0_sendOn_inX5) (by decide +kernel) ⟨Nat.le_of_ble_eq_true rfl, Nat.le_of_ble_eq_true rfl⟩, (hts _ m_X0_sendOn_stX5_postOf), trivial⟩ (zPr_S hZ hPc) rfl rfl hl.1 rfl (lv_room (Nat.le_of_ble_eq_true rfl)) dX0_sendOn_75 ⟨Nat.zero_le _, Nat.zero_le _⟩) (fun zr23 hzr23 => ?_)
    have ez := hzr23
    rw [ez]
    clear ez hzr23
    have hPc : va_P D vwCl [] zs.heap := hP.sub [] rfl
    refine z_ro (va_runS (As := [.int (nI ((thr t w (4 * zx3 + zx11)) / 4))]) (rest := [.int (nI zx18)]) ⟨hx, hb, hml, hown, hts⟩ (k_X0_start ((thr t w (4 * zx3 + zx11)) / 4)) (va_cwS 1 hts gX0_sendOn_X0_start rfl rfl rfl (by decide +kernel) ⟨Nat.le_of_ble_eq_true rfl, Nat.le_of_ble_eq_true rfl⟩) (zPr_S hZ hPc) rfl rfl hl.1 rfl (lv_room (Nat.le_of_ble_eq_true rfl)) dX0_sendOn_78 ⟨Nat.zero_le _, Nat.zero_le _⟩) (fun zr24 hzr24 => ?_)
    have ez := hzr24
    rw [ez]
    clear ez hzr24
    refine z_ior hx hb (n_or _ _) dX0_sendOn_81 ?_
    have er := hw
    exact W.iret (v := nI (zx18 ||| (((thr t w (4 * zx3 + zx11)) / 4) <<< 16))) hx hb hr (fun t ht hW => ⟨_, rfl, (congrArg nI er), ht⟩) (fun _ h => by cases h) dX0_sendOn_82
  · replace hw := hwf cc
    refine lv_iload_n hx hb dX0_sendOn_18 rfl (lv_at hl 3 rfl) ?_
    have er := hw
    exact W.iret (v := nI s) hx hb hr (fun t ht hW => ⟨_, rfl, (congrArg nI er), ht⟩) (fun _ h => by cases h) dX0_sendOn_19
theorem m_X0_stepsToAll_f11 : Cond.fieldLink RX0 11 "NetWalkers$Hands" "net" "LNetWalkers$Net;" ∈ wsX0_stepsToAll := by decide +kernel
theorem i_X0_stepsToAll_X0 : ∀ w ∈ wsX00, w ∈ wsX0_stepsToAll := by decide +kernel
set_option maxRecDepth 100000 in
set_option maxHeartbeats 4000000 in
theorem w_X0_stepsToAll {l : Launch} {D : va_G} {cI cZ : ClassId} (k_X2_allPosts : K_X2_allPosts l D cI cZ) (k_X0_sendOn : K_X0_sendOn l D cI cZ) (k_X0_postAt : K_X0_postAt l D cI cZ) (k_X0_isMarkTime : K_X0_isMarkTime l D cI cZ) (k_X0_start : K_X0_start l D cI cZ) (vv : V_X0_stepsToAll) : K_X0_stepsToAll l D cI cZ := by
  intro q_hd q_nt q_en q_ba q_de n t w p hpre0 hpre1 hpre2
  have vw := vv n t w p hpre0 hpre1 hpre2
  refine Met.ofW (cc := cX0_stepsToAll) (maxL := 6) (ret := (some .int)) (by decide) rfl ?_
  intro zp ze zs zm zargs zbelow zmeth zc zs1 B hml hv
  obtain ⟨rfl, hZ, hP⟩ := hv
  have hx := B.exec
  have hb := B.bytes
  have hr := B.returns
  have hts := atoms_spec (ws := wsX0_stepsToAll) B.pre
  have hown : zs.vm.findClass RX0 = some zm.cls := findClass_of_methodNamed B.named
  have hlocks := B.notSynchronized
  have hP : va_P D vwCl [(q_hd, .inr (0, [.ref q_nt])), (q_nt, .inr (2, [.ref q_en, .ref q_ba, .ref q_de, .int (nI n), .int (nI (prs t))])), (q_en, .inl (cI, 32, .inl (aE t))), (q_ba, .inl (cZ, 32, .inl (aB w))), (q_de, .inl (cI, 8, .inl (aN (dg t))))] zs.heap := hP
  have hl := lv_entry ([.ref q_hd, .int (nI p)]) (n := 6) (Nat.le_of_ble_eq_true rfl)
  rw [lg_entry_eq]
  generalize (lg_sl ([.ref q_hd, .int (nI p)]) ++ List.replicate (6 - (lg_sl ([.ref q_hd, .int (nI p)])).length) Slot.unset).toArray = ls at hl ⊢
  have hl : lv_has ls 6 [(0, .ref q_hd), (1, .int (nI p))] := hl
  obtain ⟨X15, hX15⟩ : ∃ X : Nat → Nat → Nat → Nat → Prop, ∀ (v2 : Nat) (v3 : Nat) (v4 : Nat) (v5 : Nat), X v2 v3 v4 v5 ↔ (∀ ls : Array Slot, lv_has ls 6 [(0, .ref q_hd), (1, .int (nI p)), (2, .int (nI v2)), (3, .int (nI v3)), (4, .int (nI v4)), (5, .int (nI v5))] → W zp l ze (headSpec wsX0_stepsToAll ({ frames := 3, cells := 0, slots := 0, locals := 71 } : Room)).room zs zm ([.ref q_hd, .int (nI p)] : List Value).toArray zbelow zmeth zc zs.heap [] 0 0 (MQ zbelow (vp_Si (fun zr : Int32 => zr = saV n t w p)) ([.ref q_hd, .int (nI p)] : List Value).toArray zs 0 0 (fun _ => False)) (F0 zm 15 ls [])) := ⟨_, fun _ _ _ _ => Iff.rfl⟩
  have b15 : ∀ (v2 : Nat) (v3 : Nat) (v4 : Nat) (v5 : Nat), B_X0_stepsToAll_15 n t w p X15 v2 v3 v4 v5 → X15 v2 v3 v4 v5 := by
    intro v2 v3 v4 v5 hw
    rw [hX15]
    intro ls hl
    unfold B_X0_stepsToAll_15 at hw
    refine lv_iload hx hb dX0_stepsToAll_15 (lv_at hl 5 rfl) ?_
    refine lv_sipush (v := nI 20000) hx hb dX0_stepsToAll_17 (by decide +kernel) ?_
    obtain ⟨zh1, hw⟩ := hw
    obtain ⟨hwt, hwf⟩ := hw
    refine z_icmp_gt hx hb zh1 (by decide) (tgt := 81) dX0_stepsToAll_20 (by decide) (fun cc => ?_) (fun cc => ?_)
    · replace hw := hwt cc
      refine lv_bipush (v := (-6)) hx hb dX0_stepsToAll_81 (by decide +kernel) ?_
      have er := hw
      exact W.iret (v := (-6)) hx hb hr (fun t ht hW => ⟨_, rfl, er, ht⟩) (fun _ h => by cases h) dX0_stepsToAll_83
    · replace hw := hwf cc
      refine lv_iload hx hb dX0_stepsToAll_23 (lv_at hl 4 rfl) ?_
      refine lv_aload_n hx hb dX0_stepsToAll_25 rfl (lv_at hl 0 rfl) ?_
      refine va_get (D := D) (ci := 0) (v := .ref q_nt) (C := RX0) (T := TX0) (N := 1) hx hb hts i_X0_stepsToAll_X0 hown hZ.1 hP 0 rfl rfl 0 (by decide) (hts _ m_X0_stepsToAll_f11) (fun _ h9 => h9) rfl dX0_stepsToAll_26 ?_
      obtain ⟨zh2, hw⟩ := hw
      have hPc : va_P D vwCl [(q_nt, .inr (2, [.ref q_en, .ref q_ba, .ref q_de, .int (nI n), .int (nI (prs t))])), (q_en, .inl (cI, 32, .inl (aE t))), (q_ba, .inl (cZ, 32, .inl (aB w))), (q_de, .inl (cI, 8, .inl (aN (dg t))))] zs.heap := hP.sub [1, 2, 3, 4] rfl
      refine z_ro (va_runV (As := []) (rest := [.int (nI v4)]) ⟨hx, hb, hml, hown, hts⟩ (k_X2_allPosts q_nt q_en q_ba q_de n t w zh2) (cwV 0 hts gX0_stepsToAll_X2_allPosts rfl rfl rfl (by decide +kernel) ⟨Nat.le_of_ble_eq_true rfl, Nat.le_of_ble_eq_true rfl⟩) (zPr_V hZ hPc 0 rfl rfl) rfl rfl hl.1 rfl (lv_room (Nat.le_of_ble_eq_true rfl)) dX0_stepsToAll_29 ⟨Nat.zero_le _, Nat.zero_le _⟩) (fun zr3 hzr3 => ?_)
      have ez := hzr3
      rw [ez]
      clear ez hzr3
      obtain ⟨zh4, hw⟩ := hw
      obtain ⟨zh5, hw⟩ := hw
      obtain ⟨hwt, hwf⟩ := hw
      refine z_icmp_ne hx hb zh4 zh5 (tgt := 38) dX0_stepsToAll_32 (by decide) (fun cc => ?_) (fun cc => ?_)
      · replace hw := hwt cc
        refine lv_aload_n hx hb dX0_stepsToAll_38 rfl (lv_at hl 0 rfl) ?_
        refine lv_iload_n hx hb dX0_stepsToAll_39 rfl (lv_at hl 2 rfl) ?_
        obtain ⟨zh6, hw⟩ := hw
        obtain ⟨zh7, hw⟩ := hw
        obtain ⟨zh8, hw⟩ := hw
        have hPc : va_P D vwCl [(q_hd, .inr (0, [.ref q_nt])), (q_nt, .inr (2, [.ref q_en, .ref q_ba, .ref q_de, .int (nI n), .int (nI (prs t))])), (q_en, .inl (cI, 32, .inl (aE t))), (q_ba, .inl (cZ, 32, .inl (aB w))), (q_de, .inl (cI, 8, .inl (aN (dg t))))] zs.heap := hP.sub [0, 1, 2, 3, 4] rfl
        refine z_ro (va_runV (As := [.int (nI v2)]) (rest := []) ⟨hx, hb, hml, hown, hts⟩ (k_X0_sendOn q_hd q_nt q_en q_ba q_de n t w v2 zh6 zh7 zh8) (cwV 1 hts gX0_stepsToAll_X0_sendOn rfl rfl rfl (by decide +kernel) ⟨Nat.le_of_ble_eq_true rfl, Nat.le_of_ble_eq_true rfl⟩) (zPr_V hZ hPc 0 rfl rfl) rfl rfl hl.1 rfl (lv_room (Nat.le_of_ble_eq_true rfl)) dX0_stepsToAll_40 ⟨Nat.zero_le _, Nat.zero_le _⟩) (fun zr9 hzr9 => ?_)
        have ez := hzr9
        rw [ez]
        clear ez hzr9
        obtain ⟨zx10, ezx10⟩ : ∃ zx10 : Nat, zx10 = sn t w v2 := ⟨_, rfl⟩
        replace hw := hw zx10 ezx10
        refine z_st (st' := [.int (nI zx10)]) (by rw [ezx10]) ?_
        refine lv_istore_n (lv' := [(2, .int (nI zx10)), (0, .ref q_hd), (1, .int (nI p)), (3, .int (nI v3)), (4, .int (nI v4)), (5, .int (nI v5))]) hx hb dX0_stepsToAll_43 rfl hl (by decide) rfl (fun ls hl => ?_)
        refine lv_iload_n hx hb dX0_stepsToAll_44 rfl (lv_at hl 0 rfl) ?_
        refine lv_iload_n hx hb dX0_stepsToAll_45 rfl (lv_at hl 3 rfl) ?_
        obtain ⟨zh11, hw⟩ := hw
        obtain ⟨zh12, hw⟩ := hw
        obtain ⟨hwt, hwf⟩ := hw
        refine z_icmp_ne hx hb zh11 zh12 (tgt := 52) dX0_stepsToAll_46 (by decide) (fun cc => ?_) (fun cc => ?_)
        · replace hw := hwt cc
          refine lv_iload hx hb dX0_stepsToAll_52 (lv_at hl 4 rfl) ?_
          refine lv_iconst (v := nI 1) hx hb dX0_stepsToAll_54 (by decide +kernel) ?_
          refine lv_iload_n hx hb dX0_stepsToAll_55 rfl (lv_at hl 0 rfl) ?_
          obtain ⟨zh13, hw⟩ := hw
          have hPc : va_P D vwCl [] zs.heap := hP.sub [] rfl
          refine z_ro (va_runS (As := [.int (nI zx10)]) (rest := [.int (nI 1), .int (nI v4)]) ⟨hx, hb, hml, hown, hts⟩ (k_X0_postAt zx10 zh13) (va_cwS 1 hts gX0_stepsToAll_X0_postAt rfl rfl rfl (by decide +kernel) ⟨Nat.le_of_ble_eq_true rfl, Nat.le_of_ble_eq_true rfl⟩) (zPr_S hZ hPc) rfl rfl hl.1 rfl (lv_room (Nat.le_of_ble_eq_true rfl)) dX0_stepsToAll_56 ⟨Nat.zero_le _, Nat.zero_le _⟩) (fun zr14 hzr14 => ?_)
          have ez := hzr14
          rw [ez]
          clear ez hzr14
          obtain ⟨zh15, hw⟩ := hw
          refine z_ishl hx hb (n_shl _ zh15) dX0_stepsToAll_59 ?_
          refine z_ior hx hb (n_or _ _) dX0_stepsToAll_60 ?_
          obtain ⟨zx16, ezx16⟩ : ∃ zx16 : Nat, zx16 = v4 ||| (1 <<< (zx10 >>> 16)) := ⟨_, rfl⟩
          replace hw := hw zx16 ezx16
          refine z_st (st' := [.int (nI zx16)]) (by rw [ezx16]) ?_
          refine lv_istore (lv' := [(4, .int (nI zx16)), (2, .int (nI zx10)), (0, .ref q_hd), (1, .int (nI p)), (3, .int (nI v3)), (5, .int (nI v5))]) hx hb dX0_stepsToAll_61 hl (by decide) rfl (fun ls hl => ?_)
          refine lv_iload hx hb dX0_stepsToAll_63 (lv_at hl 5 rfl) ?_
          refine lv_iconst (v := nI 1) hx hb dX0_stepsToAll_65 (by decide +kernel) ?_
          refine z_iadd hx hb (nI_add _ _) dX0_stepsToAll_66 ?_
          obtain ⟨zh17, hw⟩ := hw
          obtain ⟨zh18, hw⟩ := hw
          have hPc : va_P D vwCl [] zs.heap := hP.sub [] rfl
          refine z_ro (va_runS (As := [.int (nI (v5 + 1))]) (rest := []) ⟨hx, hb, hml, hown, hts⟩ (k_X0_isMarkTime (v5 + 1) zh17 zh18) (va_cwS 1 hts gX0_stepsToAll_X0_isMarkTime rfl rfl rfl (by decide +kernel) ⟨Nat.le_of_ble_eq_true rfl, Nat.le_of_ble_eq_true rfl⟩) (zPr_S hZ hPc) rfl rfl hl.1 rfl (lv_room (Nat.le_of_ble_eq_true rfl)) dX0_stepsToAll_67 ⟨Nat.zero_le _, Nat.zero_le _⟩) (fun zr19 hzr19 => ?_)
          have ez := hzr19
          rw [ez]
          clear ez hzr19
          obtain ⟨hwt, hwf⟩ := hw
          refine z_if_eqb hx hb (tgt := 75) dX0_stepsToAll_70 (by decide) (fun cc => ?_) (fun cc => ?_)
          · replace hw := hwt cc
            refine lv_iinc (v := nI (v5 + 1)) (lv' := [(5, .int (nI (v5 + 1))), (4, .int (nI zx16)), (2, .int (nI zx10)), (0, .ref q_hd), (1, .int (nI p)), (3, .int (nI v3))]) hx hb dX0_stepsToAll_75 hl (k := 5) rfl (by rw [show Int32.ofInt 1 = nI 1 from by decide +kernel]; exact nI_add _ _) (by decide) rfl (fun ls hl => ?_)
            refine lv_goto (tgt := 15) hx hb dX0_stepsToAll_78 (by decide) ?_
            exact ((hX15 _ _ _ _).mp hw) ls (lv_sub hl [3, 4, 2, 5, 1, 0] rfl)
          · replace hw := hwf cc
            refine lv_iload_n hx hb dX0_stepsToAll_73 rfl (lv_at hl 1 rfl) ?_
            refine lv_istore_n (lv' := [(3, .int (nI zx10)), (4, .int (nI zx16)), (2, .int (nI zx10)), (0, .ref q_hd), (1, .int (nI p)), (5, .int (nI v5))]) hx hb dX0_stepsToAll_74 rfl hl (by decide) rfl (fun ls hl => ?_)
            refine lv_iinc (v := nI (v5 + 1)) (lv' := [(5, .int (nI (v5 + 1))), (3, .int (nI zx10)), (4, .int (nI zx16)), (2, .int (nI zx10)), (0, .ref q_hd), (1, .int (nI p))]) hx hb dX0_stepsToAll_75 hl (k := 5) rfl (by rw [show Int32.ofInt 1 = nI 1 from by decide +kernel]; exact nI_add _ _) (by decide) rfl (fun ls hl => ?_)
            refine lv_goto (tgt := 15) hx hb dX0_stepsToAll_78 (by decide) ?_
            exact ((hX15 _ _ _ _).mp hw) ls (lv_sub hl [4, 5, 3, 1, 2, 0] rfl)
        · replace hw := hwf cc
          refine lv_bipush (v := (-6)) hx hb dX0_stepsToAll_49 (by decide +kernel) ?_
          have er := hw
          exact W.iret (v := (-6)) hx hb hr (fun t ht hW => ⟨_, rfl, er, ht⟩) (fun _ h => by cases h) dX0_stepsToAll_51
      · replace hw := hwf cc
        refine lv_iload hx hb dX0_stepsToAll_35 (lv_at hl 5 rfl) ?_
        have er := hw
        exact W.iret (v := nI v5) hx hb hr (fun t ht hW => ⟨_, rfl, er, ht⟩) (fun _ h => by cases h) dX0_stepsToAll_37
  have hw := vw X15 b15
  unfold B_X0_stepsToAll_in at hw
  refine lv_iload_n hx hb dX0_stepsToAll_0 rfl (lv_at hl 1 rfl) ?_
  have hPc : va_P D vwCl [] zs.heap := hP.sub [] rfl
  refine z_ro (va_runS (As := [.int (nI p)]) (rest := []) ⟨hx, hb, hml, hown, hts⟩ (k_X0_start p) (va_cwS 1 hts gX0_stepsToAll_X0_start rfl rfl rfl (by decide +kernel) ⟨Nat.le_of_ble_eq_true rfl, Nat.le_of_ble_eq_true rfl⟩) (zPr_S hZ hPc) rfl rfl hl.1 rfl (lv_room (Nat.le_of_ble_eq_true rfl)) dX0_stepsToAll_1 ⟨Nat.zero_le _, Nat.zero_le _⟩) (fun zr20 hzr20 => ?_)
  have ez := hzr20
  rw [ez]
  clear ez hzr20
  obtain ⟨zx21, ezx21⟩ : ∃ zx21 : Nat, zx21 = p <<< 16 := ⟨_, rfl⟩
  replace hw := hw zx21 ezx21
  refine z_st (st' := [.int (nI zx21)]) (by rw [ezx21]) ?_
  refine lv_istore_n (lv' := [(2, .int (nI zx21)), (0, .ref q_hd), (1, .int (nI p))]) hx hb dX0_stepsToAll_4 rfl hl (by decide) rfl (fun ls hl => ?_)
  refine lv_iload_n hx hb dX0_stepsToAll_5 rfl (lv_at hl 0 rfl) ?_
  refine lv_istore_n (lv' := [(3, .int (nI zx21)), (2, .int (nI zx21)), (0, .ref q_hd), (1, .int (nI p))]) hx hb dX0_stepsToAll_6 rfl hl (by decide) rfl (fun ls hl => ?_)
  refine lv_iconst (v := nI 1) hx hb dX0_stepsToAll_7 (by decide +kernel) ?_
  refine lv_iload_n hx hb dX0_stepsToAll_8 rfl (lv_at hl 3 rfl) ?_
  obtain ⟨zh22, hw⟩ := hw
  refine z_ishl hx hb (n_shl _ zh22) dX0_stepsToAll_9 ?_
  obtain ⟨zx23, ezx23⟩ : ∃ zx23 : Nat, zx23 = 1 <<< p := ⟨_, rfl⟩
  replace hw := hw zx23 ezx23
  refine z_st (st' := [.int (nI zx23)]) (by rw [ezx23]) ?_
  refine lv_istore (lv' := [(4, .int (nI zx23)), (3, .int (nI zx21)), (2, .int (nI zx21)), (0, .ref q_hd), (1, .int (nI p))]) hx hb dX0_stepsToAll_10 hl (by decide) rfl (fun ls hl => ?_)
  refine lv_iconst (v := nI 0) hx hb dX0_stepsToAll_12 (by decide +kernel) ?_
  refine lv_istore (lv' := [(5, .int (nI 0)), (4, .int (nI zx23)), (3, .int (nI zx21)), (2, .int (nI zx21)), (0, .ref q_hd), (1, .int (nI p))]) hx hb dX0_stepsToAll_13 hl (by decide) rfl (fun ls hl => ?_)
  exact ((hX15 _ _ _ _).mp hw) ls (lv_sub hl [4, 5, 3, 2, 1, 0] rfl)
theorem m_X0_ringLength_c49 : Cond.constant RX0 49 (60000) ∈ wsX0_ringLength := by decide +kernel
set_option maxRecDepth 100000 in
set_option maxHeartbeats 4000000 in
theorem w_X0_ringLength {l : Launch} {D : va_G} {cI cZ : ClassId} (k_X0_sendOn : K_X0_sendOn l D cI cZ) (k_X0_isMarkTime : K_X0_isMarkTime l D cI cZ) (k_X0_start : K_X0_start l D cI cZ) (vv : V_X0_ringLength) : K_X0_ringLength l D cI cZ := by
  intro q_hd q_nt q_en q_ba q_de n t w p hpre0 hpre1 hpre2
  have vw := vv n t w p hpre0 hpre1 hpre2
  refine Met.ofW (cc := cX0_ringLength) (maxL := 7) (ret := (some .int)) (by decide) rfl ?_
  intro zp ze zs zm zargs zbelow zmeth zc zs1 B hml hv
  obtain ⟨rfl, hZ, hP⟩ := hv
  have hx := B.exec
  have hb := B.bytes
  have hr := B.returns
  have hts := atoms_spec (ws := wsX0_ringLength) B.pre
  have hown : zs.vm.findClass RX0 = some zm.cls := findClass_of_methodNamed B.named
  have hlocks := B.notSynchronized
  have hP : va_P D vwCl [(q_hd, .inr (0, [.ref q_nt])), (q_nt, .inr (2, [.ref q_en, .ref q_ba, .ref q_de, .int (nI n), .int (nI (prs t))])), (q_en, .inl (cI, 32, .inl (aE t))), (q_ba, .inl (cZ, 32, .inl (aB w))), (q_de, .inl (cI, 8, .inl (aN (dg t))))] zs.heap := hP
  have hl := lv_entry ([.ref q_hd, .int (nI p)]) (n := 7) (Nat.le_of_ble_eq_true rfl)
  rw [lg_entry_eq]
  generalize (lg_sl ([.ref q_hd, .int (nI p)]) ++ List.replicate (7 - (lg_sl ([.ref q_hd, .int (nI p)])).length) Slot.unset).toArray = ls at hl ⊢
  have hl : lv_has ls 7 [(0, .ref q_hd), (1, .int (nI p))] := hl
  obtain ⟨X13, hX13⟩ : ∃ X : Nat → Nat → Nat → Nat → Prop, ∀ (v2 : Nat) (v3 : Nat) (v4 : Nat) (v5 : Nat), X v2 v3 v4 v5 ↔ (∀ ls : Array Slot, lv_has ls 7 [(0, .ref q_hd), (1, .int (nI p)), (2, .int (nI v2)), (3, .int (nI v3)), (4, .int (nI v4)), (5, .int (nI v5))] → W zp l ze (headSpec wsX0_ringLength ({ frames := 3, cells := 0, slots := 0, locals := 71 } : Room)).room zs zm ([.ref q_hd, .int (nI p)] : List Value).toArray zbelow zmeth zc zs.heap [] 0 0 (MQ zbelow (vp_Si (fun zr : Int32 => ∃ y : Int32, rlP t w p y ∧ zr = y)) ([.ref q_hd, .int (nI p)] : List Value).toArray zs 0 0 (fun _ => False)) (F0 zm 13 ls [])) := ⟨_, fun _ _ _ _ => Iff.rfl⟩
  have b13 : ∀ (v2 : Nat) (v3 : Nat) (v4 : Nat) (v5 : Nat), B_X0_ringLength_13 n t w p X13 v2 v3 v4 v5 → X13 v2 v3 v4 v5 := by
    intro v2 v3 v4 v5 hw
    rw [hX13]
    intro ls hl
    unfold B_X0_ringLength_13 at hw
    refine lv_iload hx hb dX0_ringLength_13 (lv_at hl 5 rfl) ?_
    refine lv_ldc (v := 60000) hx hb hown (hts _ m_X0_ringLength_c49) dX0_ringLength_15 ?_
    refine z_st (st' := [.int (nI 60000), .int (nI v5)]) rfl ?_
    obtain ⟨zh1, hw⟩ := hw
    obtain ⟨hwt, hwf⟩ := hw
    refine z_icmp_gt hx hb zh1 (by decide) (tgt := 74) dX0_ringLength_17 (by decide) (fun cc => ?_) (fun cc => ?_)
    · replace hw := hwt cc
      refine lv_bipush (v := (-7)) hx hb dX0_ringLength_74 (by decide +kernel) ?_
      obtain ⟨y, po0, er⟩ := hw
      exact W.iret (v := (-7)) hx hb hr (fun t ht hW => ⟨_, rfl, ⟨y, po0, er⟩, ht⟩) (fun _ h => by cases h) dX0_ringLength_76
    · replace hw := hwf cc
      refine lv_aload_n hx hb dX0_ringLength_20 rfl (lv_at hl 0 rfl) ?_
      refine lv_iload_n hx hb dX0_ringLength_21 rfl (lv_at hl 2 rfl) ?_
      obtain ⟨zh2, hw⟩ := hw
      obtain ⟨zh3, hw⟩ := hw
      obtain ⟨zh4, hw⟩ := hw
      have hPc : va_P D vwCl [(q_hd, .inr (0, [.ref q_nt])), (q_nt, .inr (2, [.ref q_en, .ref q_ba, .ref q_de, .int (nI n), .int (nI (prs t))])), (q_en, .inl (cI, 32, .inl (aE t))), (q_ba, .inl (cZ, 32, .inl (aB w))), (q_de, .inl (cI, 8, .inl (aN (dg t))))] zs.heap := hP.sub [0, 1, 2, 3, 4] rfl
      refine z_ro (va_runV (As := [.int (nI v2)]) (rest := []) ⟨hx, hb, hml, hown, hts⟩ (k_X0_sendOn q_hd q_nt q_en q_ba q_de n t w v2 zh2 zh3 zh4) (cwV 1 hts gX0_ringLength_X0_sendOn rfl rfl rfl (by decide +kernel) ⟨Nat.le_of_ble_eq_true rfl, Nat.le_of_ble_eq_true rfl⟩) (zPr_V hZ hPc 0 rfl rfl) rfl rfl hl.1 rfl (lv_room (Nat.le_of_ble_eq_true rfl)) dX0_ringLength_22 ⟨Nat.zero_le _, Nat.zero_le _⟩) (fun zr5 hzr5 => ?_)
      have ez := hzr5
      rw [ez]
      clear ez hzr5
      obtain ⟨zx6, ezx6⟩ : ∃ zx6 : Nat, zx6 = sn t w v2 := ⟨_, rfl⟩
      replace hw := hw zx6 ezx6
      refine z_st (st' := [.int (nI zx6)]) (by rw [ezx6]) ?_
      refine lv_istore_n (lv' := [(2, .int (nI zx6)), (0, .ref q_hd), (1, .int (nI p)), (3, .int (nI v3)), (4, .int (nI v4)), (5, .int (nI v5))]) hx hb dX0_ringLength_25 rfl hl (by decide) rfl (fun ls hl => ?_)
      refine lv_iload_n hx hb dX0_ringLength_26 rfl (lv_at hl 0 rfl) ?_
      refine lv_iload_n hx hb dX0_ringLength_27 rfl (lv_at hl 3 rfl) ?_
      obtain ⟨zh7, hw⟩ := hw
      obtain ⟨zh8, hw⟩ := hw
      obtain ⟨hwt, hwf⟩ := hw
      refine z_icmp_ne hx hb zh7 zh8 (tgt := 54) dX0_ringLength_28 (by decide) (fun cc => ?_) (fun cc => ?_)
      · replace hw := hwt cc
        refine lv_iload hx hb dX0_ringLength_54 (lv_at hl 5 rfl) ?_
        obtain ⟨zh9, hw⟩ := hw
        obtain ⟨zh10, hw⟩ := hw
        have hPc : va_P D vwCl [] zs.heap := hP.sub [] rfl
        refine z_ro (va_runS (As := [.int (nI v5)]) (rest := []) ⟨hx, hb, hml, hown, hts⟩ (k_X0_isMarkTime v5 zh9 zh10) (va_cwS 1 hts gX0_ringLength_X0_isMarkTime rfl rfl rfl (by decide +kernel) ⟨Nat.le_of_ble_eq_true rfl, Nat.le_of_ble_eq_true rfl⟩) (zPr_S hZ hPc) rfl rfl hl.1 rfl (lv_room (Nat.le_of_ble_eq_true rfl)) dX0_ringLength_56 ⟨Nat.zero_le _, Nat.zero_le _⟩) (fun zr11 hzr11 => ?_)
        have ez := hzr11
        rw [ez]
        clear ez hzr11
        obtain ⟨hwt, hwf⟩ := hw
        refine z_if_eqb hx hb (tgt := 68) dX0_ringLength_59 (by decide) (fun cc => ?_) (fun cc => ?_)
        · replace hw := hwt cc
          refine lv_iinc (v := nI (v5 + 1)) (lv' := [(5, .int (nI (v5 + 1))), (2, .int (nI zx6)), (0, .ref q_hd), (1, .int (nI p)), (3, .int (nI v3)), (4, .int (nI v4))]) hx hb dX0_ringLength_68 hl (k := 5) rfl (by rw [show Int32.ofInt 1 = nI 1 from by decide +kernel]; exact nI_add _ _) (by decide) rfl (fun ls hl => ?_)
          refine lv_goto (tgt := 13) hx hb dX0_ringLength_71 (by decide) ?_
          exact ((hX13 _ _ _ _).mp hw) ls (lv_sub hl [2, 3, 1, 4, 5, 0] rfl)
        · replace hw := hwf cc
          refine lv_iload_n hx hb dX0_ringLength_62 rfl (lv_at hl 0 rfl) ?_
          refine lv_istore_n (lv' := [(3, .int (nI zx6)), (2, .int (nI zx6)), (0, .ref q_hd), (1, .int (nI p)), (4, .int (nI v4)), (5, .int (nI v5))]) hx hb dX0_ringLength_63 rfl hl (by decide) rfl (fun ls hl => ?_)
          refine lv_iload hx hb dX0_ringLength_64 (lv_at hl 5 rfl) ?_
          refine lv_istore (lv' := [(4, .int (nI v5)), (3, .int (nI zx6)), (2, .int (nI zx6)), (0, .ref q_hd), (1, .int (nI p)), (5, .int (nI v5))]) hx hb dX0_ringLength_66 hl (by decide) rfl (fun ls hl => ?_)
          refine lv_iinc (v := nI (v5 + 1)) (lv' := [(5, .int (nI (v5 + 1))), (4, .int (nI v5)), (3, .int (nI zx6)), (2, .int (nI zx6)), (0, .ref q_hd), (1, .int (nI p))]) hx hb dX0_ringLength_68 hl (k := 5) rfl (by rw [show Int32.ofInt 1 = nI 1 from by decide +kernel]; exact nI_add _ _) (by decide) rfl (fun ls hl => ?_)
          refine lv_goto (tgt := 13) hx hb dX0_ringLength_71 (by decide) ?_
          exact ((hX13 _ _ _ _).mp hw) ls (lv_sub hl [4, 5, 3, 2, 1, 0] rfl)
      · replace hw := hwf cc
        refine lv_iload hx hb dX0_ringLength_31 (lv_at hl 5 rfl) ?_
        refine lv_iload hx hb dX0_ringLength_33 (lv_at hl 4 rfl) ?_
        obtain ⟨zh12, hw⟩ := hw
        refine z_isub hx hb (pk_sub zh12) dX0_ringLength_35 ?_
        obtain ⟨zx13, ezx13⟩ : ∃ zx13 : Nat, zx13 = v5 - v4 := ⟨_, rfl⟩
        replace hw := hw zx13 ezx13
        refine z_st (st' := [.int (nI zx13)]) (by rw [ezx13]) ?_
        refine lv_istore (lv' := [(6, .int (nI zx13)), (2, .int (nI zx6)), (0, .ref q_hd), (1, .int (nI p)), (3, .int (nI v3)), (4, .int (nI v4)), (5, .int (nI v5))]) hx hb dX0_ringLength_36 hl (by decide) rfl (fun ls hl => ?_)
        refine lv_iload hx hb dX0_ringLength_38 (lv_at hl 0 rfl) ?_
        refine lv_sipush (v := nI 20000) hx hb dX0_ringLength_40 (by decide +kernel) ?_
        obtain ⟨zh14, hw⟩ := hw
        obtain ⟨hwt, hwf⟩ := hw
        refine z_icmp_gt hx hb zh14 (by decide) (tgt := 51) dX0_ringLength_43 (by decide) (fun cc => ?_) (fun cc => ?_)
        · replace hw := hwt cc
          refine lv_bipush (v := (-7)) hx hb dX0_ringLength_51 (by decide +kernel) ?_
          obtain ⟨y, po0, er⟩ := hw
          exact W.iret (v := (-7)) hx hb hr (fun t ht hW => ⟨_, rfl, ⟨y, po0, er⟩, ht⟩) (fun _ h => by cases h) dX0_ringLength_53
        · replace hw := hwf cc
          refine lv_iload hx hb dX0_ringLength_46 (lv_at hl 0 rfl) ?_
          refine lv_goto (tgt := 53) hx hb dX0_ringLength_48 (by decide) ?_
          obtain ⟨y, po0, er⟩ := hw
          exact W.iret (v := nI zx13) hx hb hr (fun t ht hW => ⟨_, rfl, ⟨y, po0, er⟩, ht⟩) (fun _ h => by cases h) dX0_ringLength_53
  have hw := vw X13 b13
  unfold B_X0_ringLength_in at hw
  refine lv_iload_n hx hb dX0_ringLength_0 rfl (lv_at hl 1 rfl) ?_
  have hPc : va_P D vwCl [] zs.heap := hP.sub [] rfl
  refine z_ro (va_runS (As := [.int (nI p)]) (rest := []) ⟨hx, hb, hml, hown, hts⟩ (k_X0_start p) (va_cwS 1 hts gX0_ringLength_X0_start rfl rfl rfl (by decide +kernel) ⟨Nat.le_of_ble_eq_true rfl, Nat.le_of_ble_eq_true rfl⟩) (zPr_S hZ hPc) rfl rfl hl.1 rfl (lv_room (Nat.le_of_ble_eq_true rfl)) dX0_ringLength_1 ⟨Nat.zero_le _, Nat.zero_le _⟩) (fun zr15 hzr15 => ?_)
  have ez := hzr15
  rw [ez]
  clear ez hzr15
  obtain ⟨zx16, ezx16⟩ : ∃ zx16 : Nat, zx16 = p <<< 16 := ⟨_, rfl⟩
  replace hw := hw zx16 ezx16
  refine z_st (st' := [.int (nI zx16)]) (by rw [ezx16]) ?_
  refine lv_istore_n (lv' := [(2, .int (nI zx16)), (0, .ref q_hd), (1, .int (nI p))]) hx hb dX0_ringLength_4 rfl hl (by decide) rfl (fun ls hl => ?_)
  refine lv_iload_n hx hb dX0_ringLength_5 rfl (lv_at hl 0 rfl) ?_
  refine lv_istore_n (lv' := [(3, .int (nI zx16)), (2, .int (nI zx16)), (0, .ref q_hd), (1, .int (nI p))]) hx hb dX0_ringLength_6 rfl hl (by decide) rfl (fun ls hl => ?_)
  refine lv_iconst (v := nI 0) hx hb dX0_ringLength_7 (by decide +kernel) ?_
  refine lv_istore (lv' := [(4, .int (nI 0)), (3, .int (nI zx16)), (2, .int (nI zx16)), (0, .ref q_hd), (1, .int (nI p))]) hx hb dX0_ringLength_8 hl (by decide) rfl (fun ls hl => ?_)
  refine lv_iconst (v := nI 1) hx hb dX0_ringLength_10 (by decide +kernel) ?_
  refine lv_istore (lv' := [(5, .int (nI 1)), (4, .int (nI 0)), (3, .int (nI zx16)), (2, .int (nI zx16)), (0, .ref q_hd), (1, .int (nI p))]) hx hb dX0_ringLength_11 hl (by decide) rfl (fun ls hl => ?_)
  exact ((hX13 _ _ _ _).mp hw) ls (lv_sub hl [4, 5, 3, 2, 1, 0] rfl)
set_option maxRecDepth 100000 in
set_option maxHeartbeats 4000000 in
theorem w_X0_stepsAhead {l : Launch} {D : va_G} {cI cZ : ClassId} (k_X0_sendOn : K_X0_sendOn l D cI cZ) (k_X0_start : K_X0_start l D cI cZ) (vv : V_X0_stepsAhead) : K_X0_stepsAhead l D cI cZ := by
  intro q_hd q_nt q_en q_ba q_de n t w p k hpre0 hpre1 hpre2 hpre3 hpre4
  have vw := vv n t w p k hpre0 hpre1 hpre2 hpre3 hpre4
  refine Met.ofW (cc := cX0_stepsAhead) (maxL := 6) (ret := (some .int)) (by decide) rfl ?_
  intro zp ze zs zm zargs zbelow zmeth zc zs1 B hml hv
  obtain ⟨rfl, hZ, hP⟩ := hv
  have hx := B.exec
  have hb := B.bytes
  have hr := B.returns
  have hts := atoms_spec (ws := wsX0_stepsAhead) B.pre
  have hown : zs.vm.findClass RX0 = some zm.cls := findClass_of_methodNamed B.named
  have hlocks := B.notSynchronized
  have hP : va_P D vwCl [(q_hd, .inr (0, [.ref q_nt])), (q_nt, .inr (2, [.ref q_en, .ref q_ba, .ref q_de, .int (nI n), .int (nI (prs t))])), (q_en, .inl (cI, 32, .inl (aE t))), (q_ba, .inl (cZ, 32, .inl (aB w))), (q_de, .inl (cI, 8, .inl (aN (dg t))))] zs.heap := hP
  have hl := lv_entry ([.ref q_hd, .int (nI p), .int (nI k)]) (n := 6) (Nat.le_of_ble_eq_true rfl)
  rw [lg_entry_eq]
  generalize (lg_sl ([.ref q_hd, .int (nI p), .int (nI k)]) ++ List.replicate (6 - (lg_sl ([.ref q_hd, .int (nI p), .int (nI k)])).length) Slot.unset).toArray = ls at hl ⊢
  have hl : lv_has ls 6 [(0, .ref q_hd), (1, .int (nI p)), (2, .int (nI k))] := hl
  obtain ⟨X11, hX11⟩ : ∃ X : Nat → Nat → Nat → Prop, ∀ (v3 : Nat) (v4 : Nat) (v5 : Nat), X v3 v4 v5 ↔ (∀ ls : Array Slot, lv_has ls 6 [(0, .ref q_hd), (1, .int (nI p)), (2, .int (nI k)), (3, .int (nI v3)), (4, .int (nI v4)), (5, .int (nI v5))] → W zp l ze (headSpec wsX0_stepsAhead ({ frames := 3, cells := 0, slots := 0, locals := 71 } : Room)).room zs zm ([.ref q_hd, .int (nI p), .int (nI k)] : List Value).toArray zbelow zmeth zc zs.heap [] 0 0 (MQ zbelow (vp_Si (fun zr : Int32 => ∃ y : Int32, shP t w p k y ∧ zr = y)) ([.ref q_hd, .int (nI p), .int (nI k)] : List Value).toArray zs 0 0 (fun _ => False)) (F0 zm 11 ls [])) := ⟨_, fun _ _ _ => Iff.rfl⟩
  obtain ⟨X34, hX34⟩ : ∃ X : Nat → Nat → Nat → Prop, ∀ (v3 : Nat) (v4 : Nat) (v5 : Nat), X v3 v4 v5 ↔ (∀ ls : Array Slot, lv_has ls 6 [(0, .ref q_hd), (1, .int (nI p)), (2, .int (nI k)), (3, .int (nI v3)), (4, .int (nI v4)), (5, .int (nI v5))] → W zp l ze (headSpec wsX0_stepsAhead ({ frames := 3, cells := 0, slots := 0, locals := 71 } : Room)).room zs zm ([.ref q_hd, .int (nI p), .int (nI k)] : List Value).toArray zbelow zmeth zc zs.heap [] 0 0 (MQ zbelow (vp_Si (fun zr : Int32 => ∃ y : Int32, shP t w p k y ∧ zr = y)) ([.ref q_hd, .int (nI p), .int (nI k)] : List Value).toArray zs 0 0 (fun _ => False)) (F0 zm 34 ls [])) := ⟨_, fun _ _ _ => Iff.rfl⟩
  have b11 : ∀ (v3 : Nat) (v4 : Nat) (v5 : Nat), B_X0_stepsAhead_11 n t w p k X11 X34 v3 v4 v5 → X11 v3 v4 v5 := by
    intro v3 v4 v5 hw
    rw [hX11]
    intro ls hl
    unfold B_X0_stepsAhead_11 at hw
    refine lv_iload hx hb dX0_stepsAhead_11 (lv_at hl 5 rfl) ?_
    refine lv_iload_n hx hb dX0_stepsAhead_13 rfl (lv_at hl 2 rfl) ?_
    obtain ⟨zh1, hw⟩ := hw
    obtain ⟨zh2, hw⟩ := hw
    obtain ⟨hwt, hwf⟩ := hw
    refine z_icmp_ge hx hb zh1 zh2 (tgt := 31) dX0_stepsAhead_14 (by decide) (fun cc => ?_) (fun cc => ?_)
    · replace hw := hwt cc
      refine lv_iconst (v := nI 0) hx hb dX0_stepsAhead_31 (by decide +kernel) ?_
      refine lv_istore (lv' := [(5, .int (nI 0)), (0, .ref q_hd), (1, .int (nI p)), (2, .int (nI k)), (3, .int (nI v3)), (4, .int (nI v4))]) hx hb dX0_stepsAhead_32 hl (by decide) rfl (fun ls hl => ?_)
      exact ((hX34 _ _ _).mp hw) ls (lv_sub hl [1, 2, 3, 4, 5, 0] rfl)
    · replace hw := hwf cc
      refine lv_aload_n hx hb dX0_stepsAhead_17 rfl (lv_at hl 0 rfl) ?_
      refine lv_iload hx hb dX0_stepsAhead_18 (lv_at hl 4 rfl) ?_
      obtain ⟨zh3, hw⟩ := hw
      obtain ⟨zh4, hw⟩ := hw
      obtain ⟨zh5, hw⟩ := hw
      have hPc : va_P D vwCl [(q_hd, .inr (0, [.ref q_nt])), (q_nt, .inr (2, [.ref q_en, .ref q_ba, .ref q_de, .int (nI n), .int (nI (prs t))])), (q_en, .inl (cI, 32, .inl (aE t))), (q_ba, .inl (cZ, 32, .inl (aB w))), (q_de, .inl (cI, 8, .inl (aN (dg t))))] zs.heap := hP.sub [0, 1, 2, 3, 4] rfl
      refine z_ro (va_runV (As := [.int (nI v4)]) (rest := []) ⟨hx, hb, hml, hown, hts⟩ (k_X0_sendOn q_hd q_nt q_en q_ba q_de n t w v4 zh3 zh4 zh5) (cwV 1 hts gX0_stepsAhead_X0_sendOn rfl rfl rfl (by decide +kernel) ⟨Nat.le_of_ble_eq_true rfl, Nat.le_of_ble_eq_true rfl⟩) (zPr_V hZ hPc 0 rfl rfl) rfl rfl hl.1 rfl (lv_room (Nat.le_of_ble_eq_true rfl)) dX0_stepsAhead_20 ⟨Nat.zero_le _, Nat.zero_le _⟩) (fun zr6 hzr6 => ?_)
      have ez := hzr6
      rw [ez]
      clear ez hzr6
      obtain ⟨zx7, ezx7⟩ : ∃ zx7 : Nat, zx7 = sn t w v4 := ⟨_, rfl⟩
      replace hw := hw zx7 ezx7
      refine z_st (st' := [.int (nI zx7)]) (by rw [ezx7]) ?_
      refine lv_istore (lv' := [(4, .int (nI zx7)), (0, .ref q_hd), (1, .int (nI p)), (2, .int (nI k)), (3, .int (nI v3)), (5, .int (nI v5))]) hx hb dX0_stepsAhead_23 hl (by decide) rfl (fun ls hl => ?_)
      refine lv_iinc (v := nI (v5 + 1)) (lv' := [(5, .int (nI (v5 + 1))), (4, .int (nI zx7)), (0, .ref q_hd), (1, .int (nI p)), (2, .int (nI k)), (3, .int (nI v3))]) hx hb dX0_stepsAhead_25 hl (k := 5) rfl (by rw [show Int32.ofInt 1 = nI 1 from by decide +kernel]; exact nI_add _ _) (by decide) rfl (fun ls hl => ?_)
      refine lv_goto (tgt := 11) hx hb dX0_stepsAhead_28 (by decide) ?_
      exact ((hX11 _ _ _).mp hw) ls (lv_sub hl [2, 3, 4, 5, 1, 0] rfl)
  have b34 : ∀ (v3 : Nat) (v4 : Nat) (v5 : Nat), B_X0_stepsAhead_34 n t w p k X11 X34 v3 v4 v5 → X34 v3 v4 v5 := by
    intro v3 v4 v5 hw
    rw [hX34]
    intro ls hl
    unfold B_X0_stepsAhead_34 at hw
    refine lv_iload hx hb dX0_stepsAhead_34 (lv_at hl 5 rfl) ?_
    refine lv_sipush (v := nI 20000) hx hb dX0_stepsAhead_36 (by decide +kernel) ?_
    refine lv_iload_n hx hb dX0_stepsAhead_39 rfl (lv_at hl 2 rfl) ?_
    obtain ⟨zh8, hw⟩ := hw
    refine z_isub hx hb (pk_sub zh8) dX0_stepsAhead_40 ?_
    obtain ⟨zh9, hw⟩ := hw
    obtain ⟨zh10, hw⟩ := hw
    obtain ⟨hwt, hwf⟩ := hw
    refine z_icmp_gt hx hb zh9 zh10 (tgt := 73) dX0_stepsAhead_41 (by decide) (fun cc => ?_) (fun cc => ?_)
    · replace hw := hwt cc
      refine lv_bipush (v := (-7)) hx hb dX0_stepsAhead_73 (by decide +kernel) ?_
      obtain ⟨y, po0, er⟩ := hw
      exact W.iret (v := (-7)) hx hb hr (fun t ht hW => ⟨_, rfl, ⟨y, po0, er⟩, ht⟩) (fun _ h => by cases h) dX0_stepsAhead_75
    · replace hw := hwf cc
      refine lv_iload_n hx hb dX0_stepsAhead_44 rfl (lv_at hl 3 rfl) ?_
      refine lv_iload hx hb dX0_stepsAhead_45 (lv_at hl 4 rfl) ?_
      obtain ⟨zh11, hw⟩ := hw
      obtain ⟨zh12, hw⟩ := hw
      obtain ⟨hwt, hwf⟩ := hw
      refine z_icmp_ne hx hb zh11 zh12 (tgt := 53) dX0_stepsAhead_47 (by decide) (fun cc => ?_) (fun cc => ?_)
      · replace hw := hwt cc
        refine lv_aload_n hx hb dX0_stepsAhead_53 rfl (lv_at hl 0 rfl) ?_
        refine lv_iload_n hx hb dX0_stepsAhead_54 rfl (lv_at hl 3 rfl) ?_
        obtain ⟨zh13, hw⟩ := hw
        obtain ⟨zh14, hw⟩ := hw
        obtain ⟨zh15, hw⟩ := hw
        have hPc : va_P D vwCl [(q_hd, .inr (0, [.ref q_nt])), (q_nt, .inr (2, [.ref q_en, .ref q_ba, .ref q_de, .int (nI n), .int (nI (prs t))])), (q_en, .inl (cI, 32, .inl (aE t))), (q_ba, .inl (cZ, 32, .inl (aB w))), (q_de, .inl (cI, 8, .inl (aN (dg t))))] zs.heap := hP.sub [0, 1, 2, 3, 4] rfl
        refine z_ro (va_runV (As := [.int (nI v3)]) (rest := []) ⟨hx, hb, hml, hown, hts⟩ (k_X0_sendOn q_hd q_nt q_en q_ba q_de n t w v3 zh13 zh14 zh15) (cwV 1 hts gX0_stepsAhead_X0_sendOn rfl rfl rfl (by decide +kernel) ⟨Nat.le_of_ble_eq_true rfl, Nat.le_of_ble_eq_true rfl⟩) (zPr_V hZ hPc 0 rfl rfl) rfl rfl hl.1 rfl (lv_room (Nat.le_of_ble_eq_true rfl)) dX0_stepsAhead_55 ⟨Nat.zero_le _, Nat.zero_le _⟩) (fun zr16 hzr16 => ?_)
        have ez := hzr16
        rw [ez]
        clear ez hzr16
        obtain ⟨zx17, ezx17⟩ : ∃ zx17 : Nat, zx17 = sn t w v3 := ⟨_, rfl⟩
        replace hw := hw zx17 ezx17
        refine z_st (st' := [.int (nI zx17)]) (by rw [ezx17]) ?_
        refine lv_istore_n (lv' := [(3, .int (nI zx17)), (0, .ref q_hd), (1, .int (nI p)), (2, .int (nI k)), (4, .int (nI v4)), (5, .int (nI v5))]) hx hb dX0_stepsAhead_58 rfl hl (by decide) rfl (fun ls hl => ?_)
        refine lv_aload_n hx hb dX0_stepsAhead_59 rfl (lv_at hl 1 rfl) ?_
        refine lv_iload hx hb dX0_stepsAhead_60 (lv_at hl 4 rfl) ?_
        obtain ⟨zh18, hw⟩ := hw
        obtain ⟨zh19, hw⟩ := hw
        obtain ⟨zh20, hw⟩ := hw
        have hPc : va_P D vwCl [(q_hd, .inr (0, [.ref q_nt])), (q_nt, .inr (2, [.ref q_en, .ref q_ba, .ref q_de, .int (nI n), .int (nI (prs t))])), (q_en, .inl (cI, 32, .inl (aE t))), (q_ba, .inl (cZ, 32, .inl (aB w))), (q_de, .inl (cI, 8, .inl (aN (dg t))))] zs.heap := hP.sub [0, 1, 2, 3, 4] rfl
        refine z_ro (va_runV (As := [.int (nI v4)]) (rest := []) ⟨hx, hb, hml, hown, hts⟩ (k_X0_sendOn q_hd q_nt q_en q_ba q_de n t w v4 zh18 zh19 zh20) (cwV 1 hts gX0_stepsAhead_X0_sendOn rfl rfl rfl (by decide +kernel) ⟨Nat.le_of_ble_eq_true rfl, Nat.le_of_ble_eq_true rfl⟩) (zPr_V hZ hPc 0 rfl rfl) rfl rfl hl.1 rfl (lv_room (Nat.le_of_ble_eq_true rfl)) dX0_stepsAhead_62 ⟨Nat.zero_le _, Nat.zero_le _⟩) (fun zr21 hzr21 => ?_)
        have ez := hzr21
        rw [ez]
        clear ez hzr21
        obtain ⟨zx22, ezx22⟩ : ∃ zx22 : Nat, zx22 = sn t w v4 := ⟨_, rfl⟩
        replace hw := hw zx22 ezx22
        refine z_st (st' := [.int (nI zx22)]) (by rw [ezx22]) ?_
        refine lv_istore (lv' := [(4, .int (nI zx22)), (3, .int (nI zx17)), (0, .ref q_hd), (1, .int (nI p)), (2, .int (nI k)), (5, .int (nI v5))]) hx hb dX0_stepsAhead_65 hl (by decide) rfl (fun ls hl => ?_)
        refine lv_iinc (v := nI (v5 + 1)) (lv' := [(5, .int (nI (v5 + 1))), (4, .int (nI zx22)), (3, .int (nI zx17)), (0, .ref q_hd), (1, .int (nI p)), (2, .int (nI k))]) hx hb dX0_stepsAhead_67 hl (k := 5) rfl (by rw [show Int32.ofInt 1 = nI 1 from by decide +kernel]; exact nI_add _ _) (by decide) rfl (fun ls hl => ?_)
        refine lv_goto (tgt := 34) hx hb dX0_stepsAhead_70 (by decide) ?_
        exact ((hX34 _ _ _).mp hw) ls (lv_sub hl [3, 4, 5, 2, 1, 0] rfl)
      · replace hw := hwf cc
        refine lv_iload hx hb dX0_stepsAhead_50 (lv_at hl 5 rfl) ?_
        obtain ⟨y, po0, er⟩ := hw
        exact W.iret (v := nI v5) hx hb hr (fun t ht hW => ⟨_, rfl, ⟨y, po0, er⟩, ht⟩) (fun _ h => by cases h) dX0_stepsAhead_52
  have hw := vw X11 X34 b11 b34
  unfold B_X0_stepsAhead_in at hw
  refine lv_iload_n hx hb dX0_stepsAhead_0 rfl (lv_at hl 1 rfl) ?_
  have hPc : va_P D vwCl [] zs.heap := hP.sub [] rfl
  refine z_ro (va_runS (As := [.int (nI p)]) (rest := []) ⟨hx, hb, hml, hown, hts⟩ (k_X0_start p) (va_cwS 1 hts gX0_stepsAhead_X0_start rfl rfl rfl (by decide +kernel) ⟨Nat.le_of_ble_eq_true rfl, Nat.le_of_ble_eq_true rfl⟩) (zPr_S hZ hPc) rfl rfl hl.1 rfl (lv_room (Nat.le_of_ble_eq_true rfl)) dX0_stepsAhead_1 ⟨Nat.zero_le _, Nat.zero_le _⟩) (fun zr23 hzr23 => ?_)
  have ez := hzr23
  rw [ez]
  clear ez hzr23
  obtain ⟨zx24, ezx24⟩ : ∃ zx24 : Nat, zx24 = p <<< 16 := ⟨_, rfl⟩
  replace hw := hw zx24 ezx24
  refine z_st (st' := [.int (nI zx24)]) (by rw [ezx24]) ?_
  refine lv_istore_n (lv' := [(3, .int (nI zx24)), (0, .ref q_hd), (1, .int (nI p)), (2, .int (nI k))]) hx hb dX0_stepsAhead_4 rfl hl (by decide) rfl (fun ls hl => ?_)
  refine lv_iload_n hx hb dX0_stepsAhead_5 rfl (lv_at hl 0 rfl) ?_
  refine lv_istore (lv' := [(4, .int (nI zx24)), (3, .int (nI zx24)), (0, .ref q_hd), (1, .int (nI p)), (2, .int (nI k))]) hx hb dX0_stepsAhead_6 hl (by decide) rfl (fun ls hl => ?_)
  refine lv_iconst (v := nI 0) hx hb dX0_stepsAhead_8 (by decide +kernel) ?_
  refine lv_istore (lv' := [(5, .int (nI 0)), (4, .int (nI zx24)), (3, .int (nI zx24)), (0, .ref q_hd), (1, .int (nI p)), (2, .int (nI k))]) hx hb dX0_stepsAhead_9 hl (by decide) rfl (fun ls hl => ?_)
  exact ((hX11 _ _ _).mp hw) ls (lv_sub hl [3, 4, 5, 2, 1, 0] rfl)
theorem m_X1_kindOf_f9 : Cond.fieldLink RX1 9 "NetWalkers$Looks" "kinds" "[I" ∈ wsX1_kindOf := by decide +kernel
theorem i_X1_kindOf_X1 : ∀ w ∈ wsX10, w ∈ wsX1_kindOf := by decide +kernel
set_option maxRecDepth 100000 in
set_option maxHeartbeats 4000000 in
theorem w_X1_kindOf {l : Launch} {D : va_G} {cI cZ : ClassId} (vv : V_X1_kindOf) : K_X1_kindOf l D cI cZ := by
  intro q_lk q_kn q_fi q_nt q_en q_ba q_de kd fi ct n t w p hpre0
  have vw := vv kd fi ct n t w p hpre0
  refine Met.ofW (cc := cX1_kindOf) (maxL := 2) (ret := (some .int)) (by decide) rfl ?_
  intro zp ze zs zm zargs zbelow zmeth zc zs1 B hml hv
  obtain ⟨rfl, hZ, hP⟩ := hv
  have hx := B.exec
  have hb := B.bytes
  have hr := B.returns
  have hts := atoms_spec (ws := wsX1_kindOf) B.pre
  have hown : zs.vm.findClass RX1 = some zm.cls := findClass_of_methodNamed B.named
  have hlocks := B.notSynchronized
  have hP : va_P D vwCl [(q_lk, .inr (1, [.ref q_nt, .ref q_kn, .ref q_fi, .int (nI ct)])), (q_kn, .inl (cI, 8, .inl (aN kd))), (q_fi, .inl (cI, 8, .inl (aN fi))), (q_nt, .inr (2, [.ref q_en, .ref q_ba, .ref q_de, .int (nI n), .int (nI (prs t))])), (q_en, .inl (cI, 32, .inl (aE t))), (q_ba, .inl (cZ, 32, .inl (aB w))), (q_de, .inl (cI, 8, .inl (aN (dg t))))] zs.heap := hP
  have hl := lv_entry ([.ref q_lk, .int (nI p)]) (n := 2) (Nat.le_of_ble_eq_true rfl)
  rw [lg_entry_eq]
  generalize (lg_sl ([.ref q_lk, .int (nI p)]) ++ List.replicate (2 - (lg_sl ([.ref q_lk, .int (nI p)])).length) Slot.unset).toArray = ls at hl ⊢
  have hl : lv_has ls 2 [(0, .ref q_lk), (1, .int (nI p))] := hl
  have hw := vw
  unfold B_X1_kindOf_in at hw
  refine lv_iload_n hx hb dX1_kindOf_0 rfl (lv_at hl 1 rfl) ?_
  obtain ⟨zh1, hw⟩ := hw
  refine z_if_lt hx hb zh1 (tgt := 22) dX1_kindOf_1 (by decide) ?_
  refine lv_iload_n hx hb dX1_kindOf_4 rfl (lv_at hl 1 rfl) ?_
  refine lv_aload_n hx hb dX1_kindOf_5 rfl (lv_at hl 0 rfl) ?_
  refine va_get (D := D) (ci := 1) (v := .ref q_kn) (C := RX1) (T := TX1) (N := 4) hx hb hts i_X1_kindOf_X1 hown hZ.1 hP 0 rfl rfl 1 (by decide) (hts _ m_X1_kindOf_f9) (fun _ h9 => h9) rfl dX1_kindOf_6 ?_
  refine va_alen hx hb hZ.1 hP 1 0 rfl rfl (v := nI 8) rfl dX1_kindOf_9 ?_
  obtain ⟨zh2, hw⟩ := hw
  obtain ⟨hwt, hwf⟩ := hw
  refine z_icmp_ge hx hb zh2 (by decide) (tgt := 22) dX1_kindOf_10 (by decide) (fun cc => ?_) (fun cc => ?_)
  · replace hw := hwt cc
    refine lv_iconst (v := nI 0) hx hb dX1_kindOf_22 (by decide +kernel) ?_
    have er := hw
    exact W.iret (v := nI 0) hx hb hr (fun t ht hW => ⟨_, rfl, (congrArg nI er), ht⟩) (fun _ h => by cases h) dX1_kindOf_23
  · replace hw := hwf cc
    refine lv_aload_n hx hb dX1_kindOf_13 rfl (lv_at hl 0 rfl) ?_
    refine va_get (D := D) (ci := 1) (v := .ref q_kn) (C := RX1) (T := TX1) (N := 4) hx hb hts i_X1_kindOf_X1 hown hZ.1 hP 0 rfl rfl 1 (by decide) (hts _ m_X1_kindOf_f9) (fun _ h9 => h9) rfl dX1_kindOf_14 ?_
    refine lv_iload_n hx hb dX1_kindOf_17 rfl (lv_at hl 1 rfl) ?_
    obtain ⟨zh3, hw⟩ := hw
    refine z_iald hx hb hZ.1 hP 1 0 rfl rfl zh3 (by decide) (v := nI (kd p)) rfl dX1_kindOf_18 ?_
    refine lv_goto (tgt := 23) hx hb dX1_kindOf_19 (by decide) ?_
    have er := hw
    exact W.iret (v := nI (kd p)) hx hb hr (fun t ht hW => ⟨_, rfl, (congrArg nI er), ht⟩) (fun _ h => by cases h) dX1_kindOf_23
theorem m_X1_staysAlike_f18 : Cond.fieldLink RX1 18 "NetWalkers$Looks" "net" "LNetWalkers$Net;" ∈ wsX1_staysAlike := by decide +kernel
theorem i_X1_staysAlike_X1 : ∀ w ∈ wsX10, w ∈ wsX1_staysAlike := by decide +kernel
theorem m_X1_staysAlike_inX5 : Cond.initialized RX5 ∈ wsX1_staysAlike := by decide +kernel
theorem m_X1_staysAlike_stX5_placeOf : Cond.static yX5_placeOf ∈ wsX1_staysAlike := by decide +kernel
theorem m_X1_staysAlike_stX5_doorOf : Cond.static yX5_doorOf ∈ wsX1_staysAlike := by decide +kernel
theorem m_X1_staysAlike_stX5_postOf : Cond.static yX5_postOf ∈ wsX1_staysAlike := by decide +kernel
set_option maxRecDepth 100000 in
set_option maxHeartbeats 4000000 in
theorem w_X1_staysAlike {l : Launch} {D : va_G} {cI cZ : ClassId} (k_X2_degreeOf : K_X2_degreeOf l D cI cZ) (k_X5_placeOf : K_X5_placeOf l D cI cZ) (k_X2_endOf : K_X2_endOf l D cI cZ) (k_X5_doorOf : K_X5_doorOf l D cI cZ) (k_X5_postOf : K_X5_postOf l D cI cZ) (k_X1_kindOf : K_X1_kindOf l D cI cZ) (vv : V_X1_staysAlike) : K_X1_staysAlike l D cI cZ := by
  intro q_lk q_kn q_fi q_nt q_en q_ba q_de kd fi ct n t w a b hpre0 hpre1 hpre2 hpre3 hpre4 hpre5
  have vw := vv kd fi ct n t w a b hpre0 hpre1 hpre2 hpre3 hpre4 hpre5
  refine Met.ofW (cc := cX1_staysAlike) (maxL := 6) (ret := (some .boolean)) (by decide) rfl ?_
  intro zp ze zs zm zargs zbelow zmeth zc zs1 B hml hv
  obtain ⟨rfl, hZ, hP⟩ := hv
  have hx := B.exec
  have hb := B.bytes
  have hr := B.returns
  have hts := atoms_spec (ws := wsX1_staysAlike) B.pre
  have hown : zs.vm.findClass RX1 = some zm.cls := findClass_of_methodNamed B.named
  have hlocks := B.notSynchronized
  have hP : va_P D vwCl [(q_lk, .inr (1, [.ref q_nt, .ref q_kn, .ref q_fi, .int (nI ct)])), (q_kn, .inl (cI, 8, .inl (aN kd))), (q_fi, .inl (cI, 8, .inl (aN fi))), (q_nt, .inr (2, [.ref q_en, .ref q_ba, .ref q_de, .int (nI n), .int (nI (prs t))])), (q_en, .inl (cI, 32, .inl (aE t))), (q_ba, .inl (cZ, 32, .inl (aB w))), (q_de, .inl (cI, 8, .inl (aN (dg t))))] zs.heap := hP
  have hl := lv_entry ([.ref q_lk, .int (nI a), .int (nI b)]) (n := 6) (Nat.le_of_ble_eq_true rfl)
  rw [lg_entry_eq]
  generalize (lg_sl ([.ref q_lk, .int (nI a), .int (nI b)]) ++ List.replicate (6 - (lg_sl ([.ref q_lk, .int (nI a), .int (nI b)])).length) Slot.unset).toArray = ls at hl ⊢
  have hl : lv_has ls 6 [(0, .ref q_lk), (1, .int (nI a)), (2, .int (nI b))] := hl
  obtain ⟨X17, hX17⟩ : ∃ X : Nat → Prop, ∀ (v3 : Nat), X v3 ↔ (∀ ls : Array Slot, lv_has ls 6 [(0, .ref q_lk), (1, .int (nI a)), (2, .int (nI b)), (3, .int (nI v3))] → W zp l ze (headSpec wsX1_staysAlike ({ frames := 1, cells := 0, slots := 0, locals := 21 } : Room)).room zs zm ([.ref q_lk, .int (nI a), .int (nI b)] : List Value).toArray zbelow zmeth zc zs.heap [] 0 0 (MQ zbelow (vp_Si (fun zr : Int32 => zr = bI (alk t kd a b))) ([.ref q_lk, .int (nI a), .int (nI b)] : List Value).toArray zs 0 0 (fun _ => False)) (F0 zm 17 ls [])) := ⟨_, fun _ => Iff.rfl⟩
  have b17 : ∀ (v3 : Nat), B_X1_staysAlike_17 kd fi ct n t w a b X17 v3 → X17 v3 := by
    intro v3 hw
    rw [hX17]
    intro ls hl
    unfold B_X1_staysAlike_17 at hw
    refine lv_iload_n hx hb dX1_staysAlike_17 rfl (lv_at hl 3 rfl) ?_
    refine lv_aload_n hx hb dX1_staysAlike_18 rfl (lv_at hl 0 rfl) ?_
    refine va_get (D := D) (ci := 1) (v := .ref q_nt) (C := RX1) (T := TX1) (N := 4) hx hb hts i_X1_staysAlike_X1 hown hZ.1 hP 0 rfl rfl 0 (by decide) (hts _ m_X1_staysAlike_f18) (fun _ h9 => h9) rfl dX1_staysAlike_19 ?_
    refine lv_iload_n hx hb dX1_staysAlike_22 rfl (lv_at hl 1 rfl) ?_
    obtain ⟨zh1, hw⟩ := hw
    have hPc : va_P D vwCl [(q_nt, .inr (2, [.ref q_en, .ref q_ba, .ref q_de, .int (nI n), .int (nI (prs t))])), (q_en, .inl (cI, 32, .inl (aE t))), (q_ba, .inl (cZ, 32, .inl (aB w))), (q_de, .inl (cI, 8, .inl (aN (dg t))))] zs.heap := hP.sub [3, 4, 5, 6] rfl
    refine z_ro (va_runV (As := [.int (nI a)]) (rest := [.int (nI v3)]) ⟨hx, hb, hml, hown, hts⟩ (k_X2_degreeOf q_nt q_en q_ba q_de n t w a zh1) (cwV 1 hts gX1_staysAlike_X2_degreeOf rfl rfl rfl (by decide +kernel) ⟨Nat.le_of_ble_eq_true rfl, Nat.le_of_ble_eq_true rfl⟩) (zPr_V hZ hPc 0 rfl rfl) rfl rfl hl.1 rfl (lv_room (Nat.le_of_ble_eq_true rfl)) dX1_staysAlike_23 ⟨Nat.zero_le _, Nat.zero_le _⟩) (fun zr2 hzr2 => ?_)
    have ez := hzr2
    rw [ez]
    clear ez hzr2
    obtain ⟨zh3, hw⟩ := hw
    obtain ⟨zh4, hw⟩ := hw
    obtain ⟨hwt, hwf⟩ := hw
    refine z_icmp_ge hx hb zh3 zh4 (tgt := 99) dX1_staysAlike_26 (by decide) (fun cc => ?_) (fun cc => ?_)
    · replace hw := hwt cc
      refine lv_iconst (v := nI 1) hx hb dX1_staysAlike_99 (by decide +kernel) ?_
      refine z_st (st' := [.int (bI true)]) rfl ?_
      have er := hw
      exact W.zret (ty := .boolean) (v := bI true) hx hb hr (bI_nar _) (fun t ht hW => ⟨_, rfl, (congrArg bI er), ht⟩) (fun _ h => by cases h) dX1_staysAlike_100
    · replace hw := hwf cc
      refine lv_aload_n hx hb dX1_staysAlike_29 rfl (lv_at hl 0 rfl) ?_
      refine va_get (D := D) (ci := 1) (v := .ref q_nt) (C := RX1) (T := TX1) (N := 4) hx hb hts i_X1_staysAlike_X1 hown hZ.1 hP 0 rfl rfl 0 (by decide) (hts _ m_X1_staysAlike_f18) (fun _ h9 => h9) rfl dX1_staysAlike_30 ?_
      refine lv_iload_n hx hb dX1_staysAlike_33 rfl (lv_at hl 1 rfl) ?_
      refine lv_iload_n hx hb dX1_staysAlike_34 rfl (lv_at hl 3 rfl) ?_
      have hPc : va_P D vwCl [] zs.heap := hP.sub [] rfl
      refine z_ro (va_runSN (As := [.int (nI a), .int (nI v3)]) (rest := [.ref q_nt]) ⟨hx, hb, hml, hown, hts⟩ (k_X5_placeOf a v3) ⟨va_cnB 2 hts gX1_staysAlike_X5_placeOf_n56 rfl rfl rfl hZ.2.2.2.2.2.2.2.2.1 (hts _ m_X1_staysAlike_inX5) (by decide +kernel) ⟨Nat.le_of_ble_eq_true rfl, Nat.le_of_ble_eq_true rfl⟩, (hts _ m_X1_staysAlike_stX5_placeOf), trivial⟩ (zPr_S hZ hPc) rfl rfl hl.1 rfl (lv_room (Nat.le_of_ble_eq_true rfl)) dX1_staysAlike_35 ⟨Nat.zero_le _, Nat.zero_le _⟩) (fun zr5 hzr5 => ?_)
      have ez := hzr5
      rw [ez]
      clear ez hzr5
      obtain ⟨zh6, hw⟩ := hw
      have hPc : va_P D vwCl [(q_nt, .inr (2, [.ref q_en, .ref q_ba, .ref q_de, .int (nI n), .int (nI (prs t))])), (q_en, .inl (cI, 32, .inl (aE t))), (q_ba, .inl (cZ, 32, .inl (aB w))), (q_de, .inl (cI, 8, .inl (aN (dg t))))] zs.heap := hP.sub [3, 4, 5, 6] rfl
      refine z_ro (va_runV (As := [.int (nI (4 * a + v3))]) (rest := []) ⟨hx, hb, hml, hown, hts⟩ (k_X2_endOf q_nt q_en q_ba q_de n t w (4 * a + v3) zh6) (cwV 1 hts gX1_staysAlike_X2_endOf rfl rfl rfl (by decide +kernel) ⟨Nat.le_of_ble_eq_true rfl, Nat.le_of_ble_eq_true rfl⟩) (zPr_V hZ hPc 0 rfl rfl) rfl rfl hl.1 rfl (lv_room (Nat.le_of_ble_eq_true rfl)) dX1_staysAlike_38 ⟨Nat.zero_le _, Nat.zero_le _⟩) (fun zr7 hzr7 => ?_)
      have ez := hzr7
      rw [ez]
      clear ez hzr7
      obtain ⟨zx8, ezx8⟩ : ∃ zx8 : Int32, zx8 = aE t (4 * a + v3) := ⟨_, rfl⟩
      replace hw := hw zx8 ezx8
      refine z_st (st' := [.int zx8]) (by rw [ezx8]) ?_
      refine lv_istore (lv' := [(4, .int zx8), (0, .ref q_lk), (1, .int (nI a)), (2, .int (nI b)), (3, .int (nI v3))]) hx hb dX1_staysAlike_41 hl (by decide) rfl (fun ls hl => ?_)
      refine lv_aload_n hx hb dX1_staysAlike_43 rfl (lv_at hl 1 rfl) ?_
      refine va_get (D := D) (ci := 1) (v := .ref q_nt) (C := RX1) (T := TX1) (N := 4) hx hb hts i_X1_staysAlike_X1 hown hZ.1 hP 0 rfl rfl 0 (by decide) (hts _ m_X1_staysAlike_f18) (fun _ h9 => h9) rfl dX1_staysAlike_44 ?_
      refine lv_iload_n hx hb dX1_staysAlike_47 rfl (lv_at hl 3 rfl) ?_
      refine lv_iload_n hx hb dX1_staysAlike_48 rfl (lv_at hl 4 rfl) ?_
      have hPc : va_P D vwCl [] zs.heap := hP.sub [] rfl
      refine z_ro (va_runSN (As := [.int (nI b), .int (nI v3)]) (rest := [.ref q_nt]) ⟨hx, hb, hml, hown, hts⟩ (k_X5_placeOf b v3) ⟨va_cnB 2 hts gX1_staysAlike_X5_placeOf_n56 rfl rfl rfl hZ.2.2.2.2.2.2.2.2.1 (hts _ m_X1_staysAlike_inX5) (by decide +kernel) ⟨Nat.le_of_ble_eq_true rfl, Nat.le_of_ble_eq_true rfl⟩, (hts _ m_X1_staysAlike_stX5_placeOf), trivial⟩ (zPr_S hZ hPc) rfl rfl hl.1 rfl (lv_room (Nat.le_of_ble_eq_true rfl)) dX1_staysAlike_49 ⟨Nat.zero_le _, Nat.zero_le _⟩) (fun zr9 hzr9 => ?_)
      have ez := hzr9
      rw [ez]
      clear ez hzr9
      obtain ⟨zh10, hw⟩ := hw
      have hPc : va_P D vwCl [(q_nt, .inr (2, [.ref q_en, .ref q_ba, .ref q_de, .int (nI n), .int (nI (prs t))])), (q_en, .inl (cI, 32, .inl (aE t))), (q_ba, .inl (cZ, 32, .inl (aB w))), (q_de, .inl (cI, 8, .inl (aN (dg t))))] zs.heap := hP.sub [3, 4, 5, 6] rfl
      refine z_ro (va_runV (As := [.int (nI (4 * b + v3))]) (rest := []) ⟨hx, hb, hml, hown, hts⟩ (k_X2_endOf q_nt q_en q_ba q_de n t w (4 * b + v3) zh10) (cwV 1 hts gX1_staysAlike_X2_endOf rfl rfl rfl (by decide +kernel) ⟨Nat.le_of_ble_eq_true rfl, Nat.le_of_ble_eq_true rfl⟩) (zPr_V hZ hPc 0 rfl rfl) rfl rfl hl.1 rfl (lv_room (Nat.le_of_ble_eq_true rfl)) dX1_staysAlike_52 ⟨Nat.zero_le _, Nat.zero_le _⟩) (fun zr11 hzr11 => ?_)
      have ez := hzr11
      rw [ez]
      clear ez hzr11
      obtain ⟨zx12, ezx12⟩ : ∃ zx12 : Int32, zx12 = aE t (4 * b + v3) := ⟨_, rfl⟩
      replace hw := hw zx12 ezx12
      refine z_st (st' := [.int zx12]) (by rw [ezx12]) ?_
      refine lv_istore (lv' := [(5, .int zx12), (4, .int zx8), (0, .ref q_lk), (1, .int (nI a)), (2, .int (nI b)), (3, .int (nI v3))]) hx hb dX1_staysAlike_55 hl (by decide) rfl (fun ls hl => ?_)
      refine lv_iload hx hb dX1_staysAlike_57 (lv_at hl 1 rfl) ?_
      obtain ⟨zk13, ezk13, hw⟩ := hw
      refine z_st (st' := [.int (nI zk13)]) (by rw [ezk13]) ?_
      obtain ⟨zh14, hw⟩ := hw
      have hPc : va_P D vwCl [] zs.heap := hP.sub [] rfl
      refine z_ro (va_runSN (As := [.int (nI zk13)]) (rest := []) ⟨hx, hb, hml, hown, hts⟩ (k_X5_doorOf zk13 zh14) ⟨va_cnB 1 hts gX1_staysAlike_X5_doorOf_n63 rfl rfl rfl hZ.2.2.2.2.2.2.2.2.2.1 (hts _ m_X1_staysAlike_inX5) (by decide +kernel) ⟨Nat.le_of_ble_eq_true rfl, Nat.le_of_ble_eq_true rfl⟩, (hts _ m_X1_staysAlike_stX5_doorOf), trivial⟩ (zPr_S hZ hPc) rfl rfl hl.1 rfl (lv_room (Nat.le_of_ble_eq_true rfl)) dX1_staysAlike_59 ⟨Nat.zero_le _, Nat.zero_le _⟩) (fun zr15 hzr15 => ?_)
      have ez := hzr15
      rw [ez]
      clear ez hzr15
      refine lv_iload hx hb dX1_staysAlike_62 (lv_at hl 0 rfl) ?_
      obtain ⟨zk16, ezk16, hw⟩ := hw
      refine z_st (st' := [.int (nI zk16), .int (nI (zk13 % 4))]) (by rw [ezk16]) ?_
      obtain ⟨zh17, hw⟩ := hw
      have hPc : va_P D vwCl [] zs.heap := hP.sub [] rfl
      refine z_ro (va_runSN (As := [.int (nI zk16)]) (rest := [.int (nI (zk13 % 4))]) ⟨hx, hb, hml, hown, hts⟩ (k_X5_doorOf zk16 zh17) ⟨va_cnB 1 hts gX1_staysAlike_X5_doorOf_n63 rfl rfl rfl hZ.2.2.2.2.2.2.2.2.2.1 (hts _ m_X1_staysAlike_inX5) (by decide +kernel) ⟨Nat.le_of_ble_eq_true rfl, Nat.le_of_ble_eq_true rfl⟩, (hts _ m_X1_staysAlike_stX5_doorOf), trivial⟩ (zPr_S hZ hPc) rfl rfl hl.1 rfl (lv_room (Nat.le_of_ble_eq_true rfl)) dX1_staysAlike_64 ⟨Nat.zero_le _, Nat.zero_le _⟩) (fun zr18 hzr18 => ?_)
      have ez := hzr18
      rw [ez]
      clear ez hzr18
      obtain ⟨zh19, hw⟩ := hw
      obtain ⟨zh20, hw⟩ := hw
      obtain ⟨hwt, hwf⟩ := hw
      refine z_icmp_ne hx hb zh19 zh20 (tgt := 91) dX1_staysAlike_67 (by decide) (fun cc => ?_) (fun cc => ?_)
      · replace hw := hwt cc
        refine lv_iconst (v := nI 0) hx hb dX1_staysAlike_91 (by decide +kernel) ?_
        refine z_st (st' := [.int (bI false)]) rfl ?_
        have er := hw
        exact W.zret (ty := .boolean) (v := bI false) hx hb hr (bI_nar _) (fun t ht hW => ⟨_, rfl, (congrArg bI er), ht⟩) (fun _ h => by cases h) dX1_staysAlike_92
      · replace hw := hwf cc
        refine lv_aload_n hx hb dX1_staysAlike_70 rfl (lv_at hl 2 rfl) ?_
        refine lv_iload hx hb dX1_staysAlike_71 (lv_at hl 1 rfl) ?_
        obtain ⟨zk21, ezk21, hw⟩ := hw
        refine z_st (st' := [.int (nI zk21), .ref q_lk]) (by rw [ezk21]) ?_
        obtain ⟨zh22, hw⟩ := hw
        have hPc : va_P D vwCl [] zs.heap := hP.sub [] rfl
        refine z_ro (va_runSN (As := [.int (nI zk21)]) (rest := [.ref q_lk]) ⟨hx, hb, hml, hown, hts⟩ (k_X5_postOf zk21 zh22) ⟨va_cnB 1 hts gX1_staysAlike_X5_postOf_n66 rfl rfl rfl hZ.2.2.2.2.2.2.2.2.2.2 (hts _ m_X1_staysAlike_inX5) (by decide +kernel) ⟨Nat.le_of_ble_eq_true rfl, Nat.le_of_ble_eq_true rfl⟩, (hts _ m_X1_staysAlike_stX5_postOf), trivial⟩ (zPr_S hZ hPc) rfl rfl hl.1 rfl (lv_room (Nat.le_of_ble_eq_true rfl)) dX1_staysAlike_73 ⟨Nat.zero_le _, Nat.zero_le _⟩) (fun zr23 hzr23 => ?_)
        have ez := hzr23
        rw [ez]
        clear ez hzr23
        obtain ⟨zh24, hw⟩ := hw
        have hPc : va_P D vwCl [(q_lk, .inr (1, [.ref q_nt, .ref q_kn, .ref q_fi, .int (nI ct)])), (q_kn, .inl (cI, 8, .inl (aN kd))), (q_fi, .inl (cI, 8, .inl (aN fi))), (q_nt, .inr (2, [.ref q_en, .ref q_ba, .ref q_de, .int (nI n), .int (nI (prs t))])), (q_en, .inl (cI, 32, .inl (aE t))), (q_ba, .inl (cZ, 32, .inl (aB w))), (q_de, .inl (cI, 8, .inl (aN (dg t))))] zs.heap := hP.sub [0, 1, 2, 3, 4, 5, 6] rfl
        refine z_ro (va_runV (As := [.int (nI (zk21 / 4))]) (rest := []) ⟨hx, hb, hml, hown, hts⟩ (k_X1_kindOf q_lk q_kn q_fi q_nt q_en q_ba q_de kd fi ct n t w (zk21 / 4) zh24) (cwV 1 hts gX1_staysAlike_X1_kindOf rfl rfl rfl (by decide +kernel) ⟨Nat.le_of_ble_eq_true rfl, Nat.le_of_ble_eq_true rfl⟩) (zPr_V hZ hPc 0 rfl rfl) rfl rfl hl.1 rfl (lv_room (Nat.le_of_ble_eq_true rfl)) dX1_staysAlike_76 ⟨Nat.zero_le _, Nat.zero_le _⟩) (fun zr25 hzr25 => ?_)
        have ez := hzr25
        rw [ez]
        clear ez hzr25
        refine lv_aload_n hx hb dX1_staysAlike_79 rfl (lv_at hl 2 rfl) ?_
        refine lv_iload hx hb dX1_staysAlike_80 (lv_at hl 0 rfl) ?_
        obtain ⟨zk26, ezk26, hw⟩ := hw
        refine z_st (st' := [.int (nI zk26), .ref q_lk, .int (nI (kd (zk21 / 4)))]) (by rw [ezk26]) ?_
        obtain ⟨zh27, hw⟩ := hw
        have hPc : va_P D vwCl [] zs.heap := hP.sub [] rfl
        refine z_ro (va_runSN (As := [.int (nI zk26)]) (rest := [.ref q_lk, .int (nI (kd (zk21 / 4)))]) ⟨hx, hb, hml, hown, hts⟩ (k_X5_postOf zk26 zh27) ⟨va_cnB 1 hts gX1_staysAlike_X5_postOf_n66 rfl rfl rfl hZ.2.2.2.2.2.2.2.2.2.2 (hts _ m_X1_staysAlike_inX5) (by decide +kernel) ⟨Nat.le_of_ble_eq_true rfl, Nat.le_of_ble_eq_true rfl⟩, (hts _ m_X1_staysAlike_stX5_postOf), trivial⟩ (zPr_S hZ hPc) rfl rfl hl.1 rfl (lv_room (Nat.le_of_ble_eq_true rfl)) dX1_staysAlike_82 ⟨Nat.zero_le _, Nat.zero_le _⟩) (fun zr28 hzr28 => ?_)
        have ez := hzr28
        rw [ez]
        clear ez hzr28
        obtain ⟨zh29, hw⟩ := hw
        have hPc : va_P D vwCl [(q_lk, .inr (1, [.ref q_nt, .ref q_kn, .ref q_fi, .int (nI ct)])), (q_kn, .inl (cI, 8, .inl (aN kd))), (q_fi, .inl (cI, 8, .inl (aN fi))), (q_nt, .inr (2, [.ref q_en, .ref q_ba, .ref q_de, .int (nI n), .int (nI (prs t))])), (q_en, .inl (cI, 32, .inl (aE t))), (q_ba, .inl (cZ, 32, .inl (aB w))), (q_de, .inl (cI, 8, .inl (aN (dg t))))] zs.heap := hP.sub [0, 1, 2, 3, 4, 5, 6] rfl
        refine z_ro (va_runV (As := [.int (nI (zk26 / 4))]) (rest := [.int (nI (kd (zk21 / 4)))]) ⟨hx, hb, hml, hown, hts⟩ (k_X1_kindOf q_lk q_kn q_fi q_nt q_en q_ba q_de kd fi ct n t w (zk26 / 4) zh29) (cwV 1 hts gX1_staysAlike_X1_kindOf rfl rfl rfl (by decide +kernel) ⟨Nat.le_of_ble_eq_true rfl, Nat.le_of_ble_eq_true rfl⟩) (zPr_V hZ hPc 0 rfl rfl) rfl rfl hl.1 rfl (lv_room (Nat.le_of_ble_eq_true rfl)) dX1_staysAlike_85 ⟨Nat.zero_le _, Nat.zero_le _⟩) (fun zr30 hzr30 => ?_)
        have ez := hzr30
        rw [ez]
        clear ez hzr30
        obtain ⟨zh31, hw⟩ := hw
        obtain ⟨zh32, hw⟩ := hw
        obtain ⟨hwt, hwf⟩ := hw
        refine z_icmp_eq hx hb zh31 zh32 (tgt := 93) dX1_staysAlike_88 (by decide) (fun cc => ?_) (fun cc => ?_)
        · replace hw := hwt cc
          refine lv_iinc (v := nI (v3 + 1)) (lv' := [(3, .int (nI (v3 + 1))), (5, .int zx12), (4, .int zx8), (0, .ref q_lk), (1, .int (nI a)), (2, .int (nI b))]) hx hb dX1_staysAlike_93 hl (k := 5) rfl (by rw [show Int32.ofInt 1 = nI 1 from by decide +kernel]; exact nI_add _ _) (by decide) rfl (fun ls hl => ?_)
          refine lv_goto (tgt := 17) hx hb dX1_staysAlike_96 (by decide) ?_
          exact ((hX17 _).mp hw) ls (lv_sub hl [3, 4, 5, 0] rfl)
        · replace hw := hwf cc
          refine lv_iconst (v := nI 0) hx hb dX1_staysAlike_91 (by decide +kernel) ?_
          refine z_st (st' := [.int (bI false)]) rfl ?_
          have er := hw
          exact W.zret (ty := .boolean) (v := bI false) hx hb hr (bI_nar _) (fun t ht hW => ⟨_, rfl, (congrArg bI er), ht⟩) (fun _ h => by cases h) dX1_staysAlike_92
  have hw := vw X17 b17
  unfold B_X1_staysAlike_in at hw
  refine lv_aload_n hx hb dX1_staysAlike_0 rfl (lv_at hl 0 rfl) ?_
  refine lv_iload_n hx hb dX1_staysAlike_1 rfl (lv_at hl 1 rfl) ?_
  obtain ⟨zh33, hw⟩ := hw
  have hPc : va_P D vwCl [(q_lk, .inr (1, [.ref q_nt, .ref q_kn, .ref q_fi, .int (nI ct)])), (q_kn, .inl (cI, 8, .inl (aN kd))), (q_fi, .inl (cI, 8, .inl (aN fi))), (q_nt, .inr (2, [.ref q_en, .ref q_ba, .ref q_de, .int (nI n), .int (nI (prs t))])), (q_en, .inl (cI, 32, .inl (aE t))), (q_ba, .inl (cZ, 32, .inl (aB w))), (q_de, .inl (cI, 8, .inl (aN (dg t))))] zs.heap := hP.sub [0, 1, 2, 3, 4, 5, 6] rfl
  refine z_ro (va_runV (As := [.int (nI a)]) (rest := []) ⟨hx, hb, hml, hown, hts⟩ (k_X1_kindOf q_lk q_kn q_fi q_nt q_en q_ba q_de kd fi ct n t w a zh33) (cwV 1 hts gX1_staysAlike_X1_kindOf rfl rfl rfl (by decide +kernel) ⟨Nat.le_of_ble_eq_true rfl, Nat.le_of_ble_eq_true rfl⟩) (zPr_V hZ hPc 0 rfl rfl) rfl rfl hl.1 rfl (lv_room (Nat.le_of_ble_eq_true rfl)) dX1_staysAlike_2 ⟨Nat.zero_le _, Nat.zero_le _⟩) (fun zr34 hzr34 => ?_)
  have ez := hzr34
  rw [ez]
  clear ez hzr34
  refine lv_aload_n hx hb dX1_staysAlike_5 rfl (lv_at hl 0 rfl) ?_
  refine lv_iload_n hx hb dX1_staysAlike_6 rfl (lv_at hl 2 rfl) ?_
  obtain ⟨zh35, hw⟩ := hw
  have hPc : va_P D vwCl [(q_lk, .inr (1, [.ref q_nt, .ref q_kn, .ref q_fi, .int (nI ct)])), (q_kn, .inl (cI, 8, .inl (aN kd))), (q_fi, .inl (cI, 8, .inl (aN fi))), (q_nt, .inr (2, [.ref q_en, .ref q_ba, .ref q_de, .int (nI n), .int (nI (prs t))])), (q_en, .inl (cI, 32, .inl (aE t))), (q_ba, .inl (cZ, 32, .inl (aB w))), (q_de, .inl (cI, 8, .inl (aN (dg t))))] zs.heap := hP.sub [0, 1, 2, 3, 4, 5, 6] rfl
  refine z_ro (va_runV (As := [.int (nI b)]) (rest := [.int (nI (kd a))]) ⟨hx, hb, hml, hown, hts⟩ (k_X1_kindOf q_lk q_kn q_fi q_nt q_en q_ba q_de kd fi ct n t w b zh35) (cwV 1 hts gX1_staysAlike_X1_kindOf rfl rfl rfl (by decide +kernel) ⟨Nat.le_of_ble_eq_true rfl, Nat.le_of_ble_eq_true rfl⟩) (zPr_V hZ hPc 0 rfl rfl) rfl rfl hl.1 rfl (lv_room (Nat.le_of_ble_eq_true rfl)) dX1_staysAlike_7 ⟨Nat.zero_le _, Nat.zero_le _⟩) (fun zr36 hzr36 => ?_)
  have ez := hzr36
  rw [ez]
  clear ez hzr36
  obtain ⟨zh37, hw⟩ := hw
  obtain ⟨zh38, hw⟩ := hw
  obtain ⟨hwt, hwf⟩ := hw
  refine z_icmp_eq hx hb zh37 zh38 (tgt := 15) dX1_staysAlike_10 (by decide) (fun cc => ?_) (fun cc => ?_)
  · replace hw := hwt cc
    refine lv_iconst (v := nI 0) hx hb dX1_staysAlike_15 (by decide +kernel) ?_
    refine lv_istore_n (lv' := [(3, .int (nI 0)), (0, .ref q_lk), (1, .int (nI a)), (2, .int (nI b))]) hx hb dX1_staysAlike_16 rfl hl (by decide) rfl (fun ls hl => ?_)
    exact ((hX17 _).mp hw) ls (lv_sub hl [1, 2, 3, 0] rfl)
  · replace hw := hwf cc
    refine lv_iconst (v := nI 0) hx hb dX1_staysAlike_13 (by decide +kernel) ?_
    refine z_st (st' := [.int (bI false)]) rfl ?_
    have er := hw
    exact W.zret (ty := .boolean) (v := bI false) hx hb hr (bI_nar _) (fun t ht hW => ⟨_, rfl, (congrArg bI er), ht⟩) (fun _ h => by cases h) dX1_staysAlike_14
theorem m_X1_leastLike_f18 : Cond.fieldLink RX1 18 "NetWalkers$Looks" "net" "LNetWalkers$Net;" ∈ wsX1_leastLike := by decide +kernel
theorem i_X1_leastLike_X1 : ∀ w ∈ wsX10, w ∈ wsX1_leastLike := by decide +kernel
set_option maxRecDepth 100000 in
set_option maxHeartbeats 4000000 in
theorem w_X1_leastLike {l : Launch} {D : va_G} {cI cZ : ClassId} (k_X1_staysAlike : K_X1_staysAlike l D cI cZ) (k_X2_degreeOf : K_X2_degreeOf l D cI cZ) (vv : V_X1_leastLike) : K_X1_leastLike l D cI cZ := by
  intro q_lk q_kn q_fi q_nt q_en q_ba q_de kd fi ct n t w p bd hpre0 hpre1 hpre2 hpre3 hpre4
  have vw := vv kd fi ct n t w p bd hpre0 hpre1 hpre2 hpre3 hpre4
  refine Met.ofW (cc := cX1_leastLike) (maxL := 4) (ret := (some .int)) (by decide) rfl ?_
  intro zp ze zs zm zargs zbelow zmeth zc zs1 B hml hv
  obtain ⟨rfl, hZ, hP⟩ := hv
  have hx := B.exec
  have hb := B.bytes
  have hr := B.returns
  have hts := atoms_spec (ws := wsX1_leastLike) B.pre
  have hown : zs.vm.findClass RX1 = some zm.cls := findClass_of_methodNamed B.named
  have hlocks := B.notSynchronized
  have hP : va_P D vwCl [(q_lk, .inr (1, [.ref q_nt, .ref q_kn, .ref q_fi, .int (nI ct)])), (q_kn, .inl (cI, 8, .inl (aN kd))), (q_fi, .inl (cI, 8, .inl (aN fi))), (q_nt, .inr (2, [.ref q_en, .ref q_ba, .ref q_de, .int (nI n), .int (nI (prs t))])), (q_en, .inl (cI, 32, .inl (aE t))), (q_ba, .inl (cZ, 32, .inl (aB w))), (q_de, .inl (cI, 8, .inl (aN (dg t))))] zs.heap := hP
  have hl := lv_entry ([.ref q_lk, .int (nI p), .int (bI bd)]) (n := 4) (Nat.le_of_ble_eq_true rfl)
  rw [lg_entry_eq]
  generalize (lg_sl ([.ref q_lk, .int (nI p), .int (bI bd)]) ++ List.replicate (4 - (lg_sl ([.ref q_lk, .int (nI p), .int (bI bd)])).length) Slot.unset).toArray = ls at hl ⊢
  have hl : lv_has ls 4 [(0, .ref q_lk), (1, .int (nI p)), (2, .int (bI bd))] := hl
  obtain ⟨X2, hX2⟩ : ∃ X : Nat → Prop, ∀ (v3 : Nat), X v3 ↔ (∀ ls : Array Slot, lv_has ls 4 [(0, .ref q_lk), (1, .int (nI p)), (2, .int (bI bd)), (3, .int (nI v3))] → W zp l ze (headSpec wsX1_leastLike ({ frames := 2, cells := 0, slots := 0, locals := 46 } : Room)).room zs zm ([.ref q_lk, .int (nI p), .int (bI bd)] : List Value).toArray zbelow zmeth zc zs.heap [] 0 0 (MQ zbelow (vp_Si (fun zr : Int32 => zr = nI (lea (rel t kd bd) p))) ([.ref q_lk, .int (nI p), .int (bI bd)] : List Value).toArray zs 0 0 (fun _ => False)) (F0 zm 2 ls [])) := ⟨_, fun _ => Iff.rfl⟩
  have b2 : ∀ (v3 : Nat), B_X1_leastLike_2 kd fi ct n t w p bd X2 v3 → X2 v3 := by
    intro v3 hw
    rw [hX2]
    intro ls hl
    unfold B_X1_leastLike_2 at hw
    refine lv_iload_n hx hb dX1_leastLike_2 rfl (lv_at hl 3 rfl) ?_
    refine lv_iload_n hx hb dX1_leastLike_3 rfl (lv_at hl 1 rfl) ?_
    obtain ⟨zh1, hw⟩ := hw
    obtain ⟨zh2, hw⟩ := hw
    obtain ⟨hwt, hwf⟩ := hw
    refine z_icmp_ge hx hb zh1 zh2 (tgt := 50) dX1_leastLike_4 (by decide) (fun cc => ?_) (fun cc => ?_)
    · replace hw := hwt cc
      refine lv_iload_n hx hb dX1_leastLike_50 rfl (lv_at hl 1 rfl) ?_
      have er := hw
      exact W.iret (v := nI p) hx hb hr (fun t ht hW => ⟨_, rfl, (congrArg nI er), ht⟩) (fun _ h => by cases h) dX1_leastLike_51
    · replace hw := hwf cc
      refine lv_iload_n hx hb dX1_leastLike_7 rfl (lv_at hl 2 rfl) ?_
      obtain ⟨hwt, hwf⟩ := hw
      refine z_if_eqb hx hb (tgt := 33) dX1_leastLike_8 (by decide) (fun cc => ?_) (fun cc => ?_)
      · replace hw := hwt cc
        refine lv_aload_n hx hb dX1_leastLike_33 rfl (lv_at hl 0 rfl) ?_
        refine lv_iload_n hx hb dX1_leastLike_34 rfl (lv_at hl 3 rfl) ?_
        refine lv_iload_n hx hb dX1_leastLike_35 rfl (lv_at hl 1 rfl) ?_
        obtain ⟨zh3, hw⟩ := hw
        obtain ⟨zh4, hw⟩ := hw
        obtain ⟨zh5, hw⟩ := hw
        obtain ⟨zh6, hw⟩ := hw
        obtain ⟨zh7, hw⟩ := hw
        obtain ⟨zh8, hw⟩ := hw
        have hPc : va_P D vwCl [(q_lk, .inr (1, [.ref q_nt, .ref q_kn, .ref q_fi, .int (nI ct)])), (q_kn, .inl (cI, 8, .inl (aN kd))), (q_fi, .inl (cI, 8, .inl (aN fi))), (q_nt, .inr (2, [.ref q_en, .ref q_ba, .ref q_de, .int (nI n), .int (nI (prs t))])), (q_en, .inl (cI, 32, .inl (aE t))), (q_ba, .inl (cZ, 32, .inl (aB w))), (q_de, .inl (cI, 8, .inl (aN (dg t))))] zs.heap := hP.sub [0, 1, 2, 3, 4, 5, 6] rfl
        refine z_ro (va_runV (As := [.int (nI v3), .int (nI p)]) (rest := []) ⟨hx, hb, hml, hown, hts⟩ (k_X1_staysAlike q_lk q_kn q_fi q_nt q_en q_ba q_de kd fi ct n t w v3 p zh3 zh4 zh5 zh6 zh7 zh8) (cwV 2 hts gX1_leastLike_X1_staysAlike rfl rfl rfl (by decide +kernel) ⟨Nat.le_of_ble_eq_true rfl, Nat.le_of_ble_eq_true rfl⟩) (zPr_V hZ hPc 0 rfl rfl) rfl rfl hl.1 rfl (lv_room (Nat.le_of_ble_eq_true rfl)) dX1_leastLike_36 ⟨Nat.zero_le _, Nat.zero_le _⟩) (fun zr9 hzr9 => ?_)
        have ez := hzr9
        rw [ez]
        clear ez hzr9
        obtain ⟨hwt, hwf⟩ := hw
        refine z_if_eqb hx hb (tgt := 44) dX1_leastLike_39 (by decide) (fun cc => ?_) (fun cc => ?_)
        · replace hw := hwt cc
          refine lv_iinc (v := nI (v3 + 1)) (lv' := [(3, .int (nI (v3 + 1))), (0, .ref q_lk), (1, .int (nI p)), (2, .int (bI bd))]) hx hb dX1_leastLike_44 hl (k := 3) rfl (by rw [show Int32.ofInt 1 = nI 1 from by decide +kernel]; exact nI_add _ _) (by decide) rfl (fun ls hl => ?_)
          refine lv_goto (tgt := 2) hx hb dX1_leastLike_47 (by decide) ?_
          exact ((hX2 _).mp hw) ls (lv_sub hl [1, 2, 3, 0] rfl)
        · replace hw := hwf cc
          refine lv_iload_n hx hb dX1_leastLike_42 rfl (lv_at hl 3 rfl) ?_
          have er := hw
          exact W.iret (v := nI v3) hx hb hr (fun t ht hW => ⟨_, rfl, (congrArg nI er), ht⟩) (fun _ h => by cases h) dX1_leastLike_43
      · replace hw := hwf cc
        refine lv_aload_n hx hb dX1_leastLike_11 rfl (lv_at hl 0 rfl) ?_
        refine va_get (D := D) (ci := 1) (v := .ref q_nt) (C := RX1) (T := TX1) (N := 4) hx hb hts i_X1_leastLike_X1 hown hZ.1 hP 0 rfl rfl 0 (by decide) (hts _ m_X1_leastLike_f18) (fun _ h9 => h9) rfl dX1_leastLike_12 ?_
        refine lv_iload_n hx hb dX1_leastLike_15 rfl (lv_at hl 3 rfl) ?_
        obtain ⟨zh10, hw⟩ := hw
        have hPc : va_P D vwCl [(q_nt, .inr (2, [.ref q_en, .ref q_ba, .ref q_de, .int (nI n), .int (nI (prs t))])), (q_en, .inl (cI, 32, .inl (aE t))), (q_ba, .inl (cZ, 32, .inl (aB w))), (q_de, .inl (cI, 8, .inl (aN (dg t))))] zs.heap := hP.sub [3, 4, 5, 6] rfl
        refine z_ro (va_runV (As := [.int (nI v3)]) (rest := []) ⟨hx, hb, hml, hown, hts⟩ (k_X2_degreeOf q_nt q_en q_ba q_de n t w v3 zh10) (cwV 1 hts gX1_leastLike_X2_degreeOf rfl rfl rfl (by decide +kernel) ⟨Nat.le_of_ble_eq_true rfl, Nat.le_of_ble_eq_true rfl⟩) (zPr_V hZ hPc 0 rfl rfl) rfl rfl hl.1 rfl (lv_room (Nat.le_of_ble_eq_true rfl)) dX1_leastLike_16 ⟨Nat.zero_le _, Nat.zero_le _⟩) (fun zr11 hzr11 => ?_)
        have ez := hzr11
        rw [ez]
        clear ez hzr11
        refine lv_aload_n hx hb dX1_leastLike_19 rfl (lv_at hl 0 rfl) ?_
        refine va_get (D := D) (ci := 1) (v := .ref q_nt) (C := RX1) (T := TX1) (N := 4) hx hb hts i_X1_leastLike_X1 hown hZ.1 hP 0 rfl rfl 0 (by decide) (hts _ m_X1_leastLike_f18) (fun _ h9 => h9) rfl dX1_leastLike_20 ?_
        refine lv_iload_n hx hb dX1_leastLike_23 rfl (lv_at hl 1 rfl) ?_
        obtain ⟨zh12, hw⟩ := hw
        have hPc : va_P D vwCl [(q_nt, .inr (2, [.ref q_en, .ref q_ba, .ref q_de, .int (nI n), .int (nI (prs t))])), (q_en, .inl (cI, 32, .inl (aE t))), (q_ba, .inl (cZ, 32, .inl (aB w))), (q_de, .inl (cI, 8, .inl (aN (dg t))))] zs.heap := hP.sub [3, 4, 5, 6] rfl
        refine z_ro (va_runV (As := [.int (nI p)]) (rest := [.int (nI (dg t v3))]) ⟨hx, hb, hml, hown, hts⟩ (k_X2_degreeOf q_nt q_en q_ba q_de n t w p zh12) (cwV 1 hts gX1_leastLike_X2_degreeOf rfl rfl rfl (by decide +kernel) ⟨Nat.le_of_ble_eq_true rfl, Nat.le_of_ble_eq_true rfl⟩) (zPr_V hZ hPc 0 rfl rfl) rfl rfl hl.1 rfl (lv_room (Nat.le_of_ble_eq_true rfl)) dX1_leastLike_24 ⟨Nat.zero_le _, Nat.zero_le _⟩) (fun zr13 hzr13 => ?_)
        have ez := hzr13
        rw [ez]
        clear ez hzr13
        obtain ⟨zh14, hw⟩ := hw
        obtain ⟨zh15, hw⟩ := hw
        obtain ⟨hwt, hwf⟩ := hw
        refine z_icmp_ne hx hb zh14 zh15 (tgt := 44) dX1_leastLike_27 (by decide) (fun cc => ?_) (fun cc => ?_)
        · replace hw := hwt cc
          refine lv_iinc (v := nI (v3 + 1)) (lv' := [(3, .int (nI (v3 + 1))), (0, .ref q_lk), (1, .int (nI p)), (2, .int (bI bd))]) hx hb dX1_leastLike_44 hl (k := 3) rfl (by rw [show Int32.ofInt 1 = nI 1 from by decide +kernel]; exact nI_add _ _) (by decide) rfl (fun ls hl => ?_)
          refine lv_goto (tgt := 2) hx hb dX1_leastLike_47 (by decide) ?_
          exact ((hX2 _).mp hw) ls (lv_sub hl [1, 2, 3, 0] rfl)
        · replace hw := hwf cc
          refine lv_goto (tgt := 42) hx hb dX1_leastLike_30 (by decide) ?_
          refine lv_iload_n hx hb dX1_leastLike_42 rfl (lv_at hl 3 rfl) ?_
          have er := hw
          exact W.iret (v := nI v3) hx hb hr (fun t ht hW => ⟨_, rfl, (congrArg nI er), ht⟩) (fun _ h => by cases h) dX1_leastLike_43
  have hw := vw X2 b2
  unfold B_X1_leastLike_in at hw
  refine lv_iconst (v := nI 0) hx hb dX1_leastLike_0 (by decide +kernel) ?_
  refine lv_istore_n (lv' := [(3, .int (nI 0)), (0, .ref q_lk), (1, .int (nI p)), (2, .int (bI bd))]) hx hb dX1_leastLike_1 rfl hl (by decide) rfl (fun ls hl => ?_)
  exact ((hX2 _).mp hw) ls (lv_sub hl [1, 2, 3, 0] rfl)
theorem m_X1_split_f18 : Cond.fieldLink RX1 18 "NetWalkers$Looks" "net" "LNetWalkers$Net;" ∈ wsX1_split := by decide +kernel
theorem i_X1_split_X1 : ∀ w ∈ wsX10, w ∈ wsX1_split := by decide +kernel
theorem m_X1_split_f40 : Cond.fieldLink RX1 40 "NetWalkers$Net" "size" "I" ∈ wsX1_split := by decide +kernel
theorem i_X1_split_X2 : ∀ w ∈ wsX20, w ∈ wsX1_split := by decide +kernel
theorem m_X1_split_f15 : Cond.fieldLink RX1 15 "NetWalkers$Looks" "finer" "[I" ∈ wsX1_split := by decide +kernel
theorem m_X1_split_f25 : Cond.fieldLink RX1 25 "NetWalkers$Looks" "count" "I" ∈ wsX1_split := by decide +kernel
theorem m_X1_split_f9 : Cond.fieldLink RX1 9 "NetWalkers$Looks" "kinds" "[I" ∈ wsX1_split := by decide +kernel
set_option maxRecDepth 100000 in
set_option maxHeartbeats 4000000 in
theorem w_X1_split {l : Launch} {D : va_G} {cI cZ : ClassId} (k_X1_leastLike : K_X1_leastLike l D cI cZ) (vv : V_X1_split) : K_X1_split l D cI cZ := by
  intro q_lk q_kn q_fi q_nt q_en q_ba q_de sz kd fi ct n t w bd hpre0 hpre1 hpre2 hpre3
  have vw := vv kd fi ct n t w bd hpre0 hpre1 hpre2 hpre3
  refine Met.ofW (cc := cX1_split) (maxL := 4) (ret := none) (by decide) rfl ?_
  intro zp ze zs zm zargs zbelow zmeth zc zs1 B hml hv
  obtain ⟨rfl, hsz, hZ, hP, hD0⟩ := hv
  have hx := B.exec
  have hb := B.bytes
  have hr := B.returns
  have hts := atoms_spec (ws := wsX1_split) B.pre
  have hown : zs.vm.findClass RX1 = some zm.cls := findClass_of_methodNamed B.named
  have hlocks := B.notSynchronized
  subst hsz
  have hD := hD0.self (sz := zs.heap.size)
  generalize hAe : va_A [(q_lk, .inr (1, [.ref q_nt, .ref q_kn, .ref q_fi, .int (nI ct)])), (q_kn, .inl (cI, 8, .inl (aN kd))), (q_fi, .inl (cI, 8, .inl (aN fi))), (q_nt, .inr (2, [.ref q_en, .ref q_ba, .ref q_de, .int (nI n), .int (nI (prs t))])), (q_en, .inl (cI, 32, .inl (aE t))), (q_ba, .inl (cZ, 32, .inl (aB w))), (q_de, .inl (cI, 8, .inl (aN (dg t))))] zs.heap.size = A at hD ⊢
  have hA : ∀ q : Nat, zs.heap.size ≤ q → A q := fun q h => by rw [← hAe]; exact Or.inr h
  have hS : va_S A zs.heap zs.heap [] := va_S.rf
  have hP : va_P D vwCl [(q_lk, .inr (1, [.ref q_nt, .ref q_kn, .ref q_fi, .int (nI ct)])), (q_kn, .inl (cI, 8, .inl (aN kd))), (q_fi, .inl (cI, 8, .inl (aN fi))), (q_nt, .inr (2, [.ref q_en, .ref q_ba, .ref q_de, .int (nI n), .int (nI (prs t))])), (q_en, .inl (cI, 32, .inl (aE t))), (q_ba, .inl (cZ, 32, .inl (aB w))), (q_de, .inl (cI, 8, .inl (aN (dg t))))] zs.heap := hP
  have hl := lv_entry ([.ref q_lk, .int (bI bd)]) (n := 4) (Nat.le_of_ble_eq_true rfl)
  rw [lg_entry_eq]
  generalize (lg_sl ([.ref q_lk, .int (bI bd)]) ++ List.replicate (4 - (lg_sl ([.ref q_lk, .int (bI bd)])).length) Slot.unset).toArray = ls at hl ⊢
  have hl : lv_has ls 4 [(0, .ref q_lk), (1, .int (bI bd))] := hl
  obtain ⟨X7, hX7⟩ : ∃ X : Nat → (Nat → Nat) → (Nat → Nat) → Nat → Prop, ∀ (v2 : Nat) (c_kn : Nat → Nat) (c_fi : Nat → Nat) (c_ct : Nat), X v2 c_kn c_fi c_ct ↔ (∀ (H : Heap) (locs : List Loc), va_P D vwCl [(q_lk, .inr (1, [.ref q_nt, .ref q_kn, .ref q_fi, .int (nI c_ct)])), (q_kn, .inl (cI, 8, .inl (aN c_kn))), (q_fi, .inl (cI, 8, .inl (aN c_fi))), (q_nt, .inr (2, [.ref q_en, .ref q_ba, .ref q_de, .int (nI n), .int (nI (prs t))])), (q_en, .inl (cI, 32, .inl (aE t))), (q_ba, .inl (cZ, 32, .inl (aB w))), (q_de, .inl (cI, 8, .inl (aN (dg t))))] H → va_D A [(q_lk, .inr (1, [.ref q_nt, .ref q_kn, .ref q_fi, .int (nI c_ct)])), (q_kn, .inl (cI, 8, .inl (aN c_kn))), (q_fi, .inl (cI, 8, .inl (aN c_fi))), (q_nt, .inr (2, [.ref q_en, .ref q_ba, .ref q_de, .int (nI n), .int (nI (prs t))])), (q_en, .inl (cI, 32, .inl (aE t))), (q_ba, .inl (cZ, 32, .inl (aB w))), (q_de, .inl (cI, 8, .inl (aN (dg t))))] → va_S A zs.heap H locs → ∀ ls : Array Slot, lv_has ls 4 [(0, .ref q_lk), (1, .int (bI bd)), (2, .int (nI v2))] → W zp l ze (headSpec wsX1_split ({ frames := 3, cells := 0, slots := 0, locals := 69 } : Room)).room zs zm ([.ref q_lk, .int (bI bd)] : List Value).toArray zbelow zmeth zc H locs 0 0 (MQ zbelow (va_Qv (S := (Nat → Nat) × (Nat → Nat)) (fun zu => (∀ i, i < n → zu.1 i = lbT (rel t kd bd) n i)) (fun (zu : (Nat → Nat) × (Nat → Nat)) zt => va_P D vwCl [(q_lk, .inr (1, [.ref q_nt, .ref q_kn, .ref q_fi, .int (nI (cnn (rel t kd bd) n))])), (q_kn, .inl (cI, 8, .inl (aN zu.1))), (q_fi, .inl (cI, 8, .inl (aN zu.2))), (q_nt, .inr (2, [.ref q_en, .ref q_ba, .ref q_de, .int (nI n), .int (nI (prs t))])), (q_en, .inl (cI, 32, .inl (aE t))), (q_ba, .inl (cZ, 32, .inl (aB w))), (q_de, .inl (cI, 8, .inl (aN (dg t))))] zt.heap ∧ va_D A [(q_lk, .inr (1, [.ref q_nt, .ref q_kn, .ref q_fi, .int (nI (cnn (rel t kd bd) n))])), (q_kn, .inl (cI, 8, .inl (aN zu.1))), (q_fi, .inl (cI, 8, .inl (aN zu.2))), (q_nt, .inr (2, [.ref q_en, .ref q_ba, .ref q_de, .int (nI n), .int (nI (prs t))])), (q_en, .inl (cI, 32, .inl (aE t))), (q_ba, .inl (cZ, 32, .inl (aB w))), (q_de, .inl (cI, 8, .inl (aN (dg t))))]) A) ([.ref q_lk, .int (bI bd)] : List Value).toArray zs 0 0 A) (F0 zm 7 ls [])) := ⟨_, fun _ _ _ _ => Iff.rfl⟩
  obtain ⟨X86, hX86⟩ : ∃ X : Nat → (Nat → Nat) → (Nat → Nat) → Nat → Prop, ∀ (v2 : Nat) (c_kn : Nat → Nat) (c_fi : Nat → Nat) (c_ct : Nat), X v2 c_kn c_fi c_ct ↔ (∀ (H : Heap) (locs : List Loc), va_P D vwCl [(q_lk, .inr (1, [.ref q_nt, .ref q_kn, .ref q_fi, .int (nI c_ct)])), (q_kn, .inl (cI, 8, .inl (aN c_kn))), (q_fi, .inl (cI, 8, .inl (aN c_fi))), (q_nt, .inr (2, [.ref q_en, .ref q_ba, .ref q_de, .int (nI n), .int (nI (prs t))])), (q_en, .inl (cI, 32, .inl (aE t))), (q_ba, .inl (cZ, 32, .inl (aB w))), (q_de, .inl (cI, 8, .inl (aN (dg t))))] H → va_D A [(q_lk, .inr (1, [.ref q_nt, .ref q_kn, .ref q_fi, .int (nI c_ct)])), (q_kn, .inl (cI, 8, .inl (aN c_kn))), (q_fi, .inl (cI, 8, .inl (aN c_fi))), (q_nt, .inr (2, [.ref q_en, .ref q_ba, .ref q_de, .int (nI n), .int (nI (prs t))])), (q_en, .inl (cI, 32, .inl (aE t))), (q_ba, .inl (cZ, 32, .inl (aB w))), (q_de, .inl (cI, 8, .inl (aN (dg t))))] → va_S A zs.heap H locs → ∀ ls : Array Slot, lv_has ls 4 [(0, .ref q_lk), (1, .int (bI bd)), (2, .int (nI v2))] → W zp l ze (headSpec wsX1_split ({ frames := 3, cells := 0, slots := 0, locals := 69 } : Room)).room zs zm ([.ref q_lk, .int (bI bd)] : List Value).toArray zbelow zmeth zc H locs 0 0 (MQ zbelow (va_Qv (S := (Nat → Nat) × (Nat → Nat)) (fun zu => (∀ i, i < n → zu.1 i = lbT (rel t kd bd) n i)) (fun (zu : (Nat → Nat) × (Nat → Nat)) zt => va_P D vwCl [(q_lk, .inr (1, [.ref q_nt, .ref q_kn, .ref q_fi, .int (nI (cnn (rel t kd bd) n))])), (q_kn, .inl (cI, 8, .inl (aN zu.1))), (q_fi, .inl (cI, 8, .inl (aN zu.2))), (q_nt, .inr (2, [.ref q_en, .ref q_ba, .ref q_de, .int (nI n), .int (nI (prs t))])), (q_en, .inl (cI, 32, .inl (aE t))), (q_ba, .inl (cZ, 32, .inl (aB w))), (q_de, .inl (cI, 8, .inl (aN (dg t))))] zt.heap ∧ va_D A [(q_lk, .inr (1, [.ref q_nt, .ref q_kn, .ref q_fi, .int (nI (cnn (rel t kd bd) n))])), (q_kn, .inl (cI, 8, .inl (aN zu.1))), (q_fi, .inl (cI, 8, .inl (aN zu.2))), (q_nt, .inr (2, [.ref q_en, .ref q_ba, .ref q_de, .int (nI n), .int (nI (prs t))])), (q_en, .inl (cI, 32, .inl (aE t))), (q_ba, .inl (cZ, 32, .inl (aB w))), (q_de, .inl (cI, 8, .inl (aN (dg t))))]) A) ([.ref q_lk, .int (bI bd)] : List Value).toArray zs 0 0 A) (F0 zm 86 ls [])) := ⟨_, fun _ _ _ _ => Iff.rfl⟩
  have b7 : ∀ (v2 : Nat) (c_kn : Nat → Nat) (c_fi : Nat → Nat) (c_ct : Nat), B_X1_split_7 kd fi ct n t w bd X7 X86 v2 c_kn c_fi c_ct → X7 v2 c_kn c_fi c_ct := by
    intro v2 c_kn c_fi c_ct hw
    rw [hX7]
    intro H locs hP hD hS ls hl
    unfold B_X1_split_7 at hw
    refine lv_iload_n hx hb dX1_split_7 rfl (lv_at hl 2 rfl) ?_
    refine lv_aload_n hx hb dX1_split_8 rfl (lv_at hl 0 rfl) ?_
    refine va_get (D := D) (ci := 1) (v := .ref q_nt) (C := RX1) (T := TX1) (N := 4) hx hb hts i_X1_split_X1 hown hZ.1 hP 0 rfl rfl 0 (by decide) (hts _ m_X1_split_f18) (fun _ h9 => h9) rfl dX1_split_9 ?_
    refine va_get (D := D) (ci := 2) (v := .int (nI n)) (C := RX2) (T := TX2) (N := 5) hx hb hts i_X1_split_X2 hown hZ.1 hP 3 rfl rfl 3 (by decide) (hts _ m_X1_split_f40) (fun _ h9 => h9) rfl dX1_split_12 ?_
    obtain ⟨zh1, hw⟩ := hw
    obtain ⟨zh2, hw⟩ := hw
    obtain ⟨hwt, hwf⟩ := hw
    refine z_icmp_ge hx hb zh1 zh2 (tgt := 84) dX1_split_15 (by decide) (fun cc => ?_) (fun cc => ?_)
    · replace hw := hwt cc
      refine lv_iconst (v := nI 0) hx hb dX1_split_84 (by decide +kernel) ?_
      refine lv_istore_n (lv' := [(2, .int (nI 0)), (0, .ref q_lk), (1, .int (bI bd))]) hx hb dX1_split_85 rfl hl (by decide) rfl (fun ls hl => ?_)
      have hP9 : va_P D vwCl [(q_lk, .inr (1, [.ref q_nt, .ref q_kn, .ref q_fi, .int (nI c_ct)])), (q_kn, .inl (cI, 8, .inl (aN c_kn))), (q_fi, .inl (cI, 8, .inl (aN c_fi))), (q_nt, .inr (2, [.ref q_en, .ref q_ba, .ref q_de, .int (nI n), .int (nI (prs t))])), (q_en, .inl (cI, 32, .inl (aE t))), (q_ba, .inl (cZ, 32, .inl (aB w))), (q_de, .inl (cI, 8, .inl (aN (dg t))))] H := hP.sub [0, 1, 2, 3, 4, 5, 6] rfl
      have hD9 : va_D A [(q_lk, .inr (1, [.ref q_nt, .ref q_kn, .ref q_fi, .int (nI c_ct)])), (q_kn, .inl (cI, 8, .inl (aN c_kn))), (q_fi, .inl (cI, 8, .inl (aN c_fi))), (q_nt, .inr (2, [.ref q_en, .ref q_ba, .ref q_de, .int (nI n), .int (nI (prs t))])), (q_en, .inl (cI, 32, .inl (aE t))), (q_ba, .inl (cZ, 32, .inl (aB w))), (q_de, .inl (cI, 8, .inl (aN (dg t))))] := hD.sub [0, 1, 2, 3, 4, 5, 6] (by decide) rfl
      exact ((hX86 _ _ _ _).mp hw) _ _ hP9 hD9 hS ls (lv_sub hl [1, 2, 0] rfl)
    · replace hw := hwf cc
      refine lv_iload_n hx hb dX1_split_18 rfl (lv_at hl 2 rfl) ?_
      refine lv_aload_n hx hb dX1_split_19 rfl (lv_at hl 0 rfl) ?_
      refine va_get (D := D) (ci := 1) (v := .ref q_fi) (C := RX1) (T := TX1) (N := 4) hx hb hts i_X1_split_X1 hown hZ.1 hP 0 rfl rfl 2 (by decide) (hts _ m_X1_split_f15) (fun _ h9 => h9) rfl dX1_split_20 ?_
      refine va_alen hx hb hZ.1 hP 2 0 rfl rfl (v := nI 8) rfl dX1_split_23 ?_
      obtain ⟨zh3, hw⟩ := hw
      obtain ⟨hwt, hwf⟩ := hw
      refine z_icmp_ge hx hb zh3 (by decide) (tgt := 84) dX1_split_24 (by decide) (fun cc => ?_) (fun cc => ?_)
      · replace hw := hwt cc
        refine lv_iconst (v := nI 0) hx hb dX1_split_84 (by decide +kernel) ?_
        refine lv_istore_n (lv' := [(2, .int (nI 0)), (0, .ref q_lk), (1, .int (bI bd))]) hx hb dX1_split_85 rfl hl (by decide) rfl (fun ls hl => ?_)
        have hP9 : va_P D vwCl [(q_lk, .inr (1, [.ref q_nt, .ref q_kn, .ref q_fi, .int (nI c_ct)])), (q_kn, .inl (cI, 8, .inl (aN c_kn))), (q_fi, .inl (cI, 8, .inl (aN c_fi))), (q_nt, .inr (2, [.ref q_en, .ref q_ba, .ref q_de, .int (nI n), .int (nI (prs t))])), (q_en, .inl (cI, 32, .inl (aE t))), (q_ba, .inl (cZ, 32, .inl (aB w))), (q_de, .inl (cI, 8, .inl (aN (dg t))))] H := hP.sub [0, 1, 2, 3, 4, 5, 6] rfl
        have hD9 : va_D A [(q_lk, .inr (1, [.ref q_nt, .ref q_kn, .ref q_fi, .int (nI c_ct)])), (q_kn, .inl (cI, 8, .inl (aN c_kn))), (q_fi, .inl (cI, 8, .inl (aN c_fi))), (q_nt, .inr (2, [.ref q_en, .ref q_ba, .ref q_de, .int (nI n), .int (nI (prs t))])), (q_en, .inl (cI, 32, .inl (aE t))), (q_ba, .inl (cZ, 32, .inl (aB w))), (q_de, .inl (cI, 8, .inl (aN (dg t))))] := hD.sub [0, 1, 2, 3, 4, 5, 6] (by decide) rfl
        exact ((hX86 _ _ _ _).mp hw) _ _ hP9 hD9 hS ls (lv_sub hl [1, 2, 0] rfl)
      · replace hw := hwf cc
        refine lv_aload_n hx hb dX1_split_27 rfl (lv_at hl 0 rfl) ?_
        refine lv_iload_n hx hb dX1_split_28 rfl (lv_at hl 2 rfl) ?_
        refine lv_iload_n hx hb dX1_split_29 rfl (lv_at hl 1 rfl) ?_
        obtain ⟨zh4, hw⟩ := hw
        obtain ⟨zh5, hw⟩ := hw
        obtain ⟨zh6, hw⟩ := hw
        obtain ⟨zh7, hw⟩ := hw
        obtain ⟨zh8, hw⟩ := hw
        have hPc : va_P D vwCl [(q_lk, .inr (1, [.ref q_nt, .ref q_kn, .ref q_fi, .int (nI c_ct)])), (q_kn, .inl (cI, 8, .inl (aN c_kn))), (q_fi, .inl (cI, 8, .inl (aN c_fi))), (q_nt, .inr (2, [.ref q_en, .ref q_ba, .ref q_de, .int (nI n), .int (nI (prs t))])), (q_en, .inl (cI, 32, .inl (aE t))), (q_ba, .inl (cZ, 32, .inl (aB w))), (q_de, .inl (cI, 8, .inl (aN (dg t))))] H := hP.sub [0, 1, 2, 3, 4, 5, 6] rfl
        refine z_ro (va_runV (As := [.int (nI v2), .int (bI bd)]) (rest := []) ⟨hx, hb, hml, hown, hts⟩ (k_X1_leastLike q_lk q_kn q_fi q_nt q_en q_ba q_de c_kn c_fi c_ct n t w v2 bd zh4 zh5 zh6 zh7 zh8) (cwV 2 hts gX1_split_X1_leastLike rfl rfl rfl (by decide +kernel) ⟨Nat.le_of_ble_eq_true rfl, Nat.le_of_ble_eq_true rfl⟩) (zPr_V hZ hPc 0 rfl rfl) rfl rfl hl.1 rfl (lv_room (Nat.le_of_ble_eq_true rfl)) dX1_split_30 ⟨Nat.zero_le _, Nat.zero_le _⟩) (fun zr9 hzr9 => ?_)
        have ez := hzr9
        rw [ez]
        clear ez hzr9
        obtain ⟨zx10, ezx10⟩ : ∃ zx10 : Nat, zx10 = lea (rel t c_kn bd) v2 := ⟨_, rfl⟩
        replace hw := hw zx10 ezx10
        refine z_st (st' := [.int (nI zx10)]) (by rw [ezx10]) ?_
        refine lv_istore_n (lv' := [(3, .int (nI zx10)), (0, .ref q_lk), (1, .int (bI bd)), (2, .int (nI v2))]) hx hb dX1_split_33 rfl hl (by decide) rfl (fun ls hl => ?_)
        refine lv_iload_n hx hb dX1_split_34 rfl (lv_at hl 0 rfl) ?_
        refine lv_iload_n hx hb dX1_split_35 rfl (lv_at hl 3 rfl) ?_
        obtain ⟨zh11, hw⟩ := hw
        obtain ⟨zh12, hw⟩ := hw
        obtain ⟨hwt, hwf⟩ := hw
        refine z_icmp_ge hx hb zh11 zh12 (tgt := 58) dX1_split_36 (by decide) (fun cc => ?_) (fun cc => ?_)
        · replace hw := hwt cc
          refine lv_aload_n hx hb dX1_split_58 rfl (lv_at hl 1 rfl) ?_
          refine va_get (D := D) (ci := 1) (v := .ref q_fi) (C := RX1) (T := TX1) (N := 4) hx hb hts i_X1_split_X1 hown hZ.1 hP 0 rfl rfl 2 (by decide) (hts _ m_X1_split_f15) (fun _ h9 => h9) rfl dX1_split_59 ?_
          refine lv_iload_n hx hb dX1_split_62 rfl (lv_at hl 3 rfl) ?_
          refine lv_aload_n hx hb dX1_split_63 rfl (lv_at hl 1 rfl) ?_
          refine va_get (D := D) (ci := 1) (v := .int (nI c_ct)) (C := RX1) (T := TX1) (N := 4) hx hb hts i_X1_split_X1 hown hZ.1 hP 0 rfl rfl 3 (by decide) (hts _ m_X1_split_f25) (fun _ h9 => h9) rfl dX1_split_64 ?_
          obtain ⟨zh13, hw⟩ := hw
          refine z_iast hx hb hZ.1 hP hD hS 2 0 rfl rfl zh13 (by decide) (g := aN (upN c_fi v2 c_ct)) (aN_up _ _ _) dX1_split_67 (fun H locs hP hD hS => ?_)
          have hP : va_P D vwCl [(q_lk, .inr (1, [.ref q_nt, .ref q_kn, .ref q_fi, .int (nI c_ct)])), (q_kn, .inl (cI, 8, .inl (aN c_kn))), (q_fi, .inl (cI, 8, .inl (aN (upN c_fi v2 c_ct)))), (q_nt, .inr (2, [.ref q_en, .ref q_ba, .ref q_de, .int (nI n), .int (nI (prs t))])), (q_en, .inl (cI, 32, .inl (aE t))), (q_ba, .inl (cZ, 32, .inl (aB w))), (q_de, .inl (cI, 8, .inl (aN (dg t))))] H := hP
          have hD : va_D A [(q_lk, .inr (1, [.ref q_nt, .ref q_kn, .ref q_fi, .int (nI c_ct)])), (q_kn, .inl (cI, 8, .inl (aN c_kn))), (q_fi, .inl (cI, 8, .inl (aN (upN c_fi v2 c_ct)))), (q_nt, .inr (2, [.ref q_en, .ref q_ba, .ref q_de, .int (nI n), .int (nI (prs t))])), (q_en, .inl (cI, 32, .inl (aE t))), (q_ba, .inl (cZ, 32, .inl (aB w))), (q_de, .inl (cI, 8, .inl (aN (dg t))))] := hD
          refine lv_aload_n hx hb dX1_split_68 rfl (lv_at hl 1 rfl) ?_
          refine lv_dup hx hb dX1_split_69 rfl ?_
          refine va_get (D := D) (ci := 1) (v := .int (nI c_ct)) (C := RX1) (T := TX1) (N := 4) hx hb hts i_X1_split_X1 hown hZ.1 hP 0 rfl rfl 3 (by decide) (hts _ m_X1_split_f25) (fun _ h9 => h9) rfl dX1_split_70 ?_
          refine lv_iconst (v := nI 1) hx hb dX1_split_73 (by decide +kernel) ?_
          refine z_iadd hx hb (nI_add _ _) dX1_split_74 ?_
          refine va_put (D := D) (ci := 1) (v := .int (nI (c_ct + 1))) (ty := .int) (C := RX1) (T := TX1) (N := 4) hx hb hts i_X1_split_X1 tyX1 tyX1_ok nmX1 hown hZ.1 hP hD hS 0 rfl rfl 3 (by decide) (hts _ m_X1_split_f25) (fun _ h9 => h9) rfl (by decide +kernel) rfl rfl (Nat.le_of_ble_eq_true rfl) dX1_split_75 (fun H locs hP hD hS => ?_)
          have hP : va_P D vwCl [(q_lk, .inr (1, [.ref q_nt, .ref q_kn, .ref q_fi, .int (nI (c_ct + 1))])), (q_kn, .inl (cI, 8, .inl (aN c_kn))), (q_fi, .inl (cI, 8, .inl (aN (upN c_fi v2 c_ct)))), (q_nt, .inr (2, [.ref q_en, .ref q_ba, .ref q_de, .int (nI n), .int (nI (prs t))])), (q_en, .inl (cI, 32, .inl (aE t))), (q_ba, .inl (cZ, 32, .inl (aB w))), (q_de, .inl (cI, 8, .inl (aN (dg t))))] H := hP
          have hD : va_D A [(q_lk, .inr (1, [.ref q_nt, .ref q_kn, .ref q_fi, .int (nI (c_ct + 1))])), (q_kn, .inl (cI, 8, .inl (aN c_kn))), (q_fi, .inl (cI, 8, .inl (aN (upN c_fi v2 c_ct)))), (q_nt, .inr (2, [.ref q_en, .ref q_ba, .ref q_de, .int (nI n), .int (nI (prs t))])), (q_en, .inl (cI, 32, .inl (aE t))), (q_ba, .inl (cZ, 32, .inl (aB w))), (q_de, .inl (cI, 8, .inl (aN (dg t))))] := hD
          refine lv_iinc (v := nI (v2 + 1)) (lv' := [(2, .int (nI (v2 + 1))), (3, .int (nI zx10)), (0, .ref q_lk), (1, .int (bI bd))]) hx hb dX1_split_78 hl (k := 3) rfl (by rw [show Int32.ofInt 1 = nI 1 from by decide +kernel]; exact nI_add _ _) (by decide) rfl (fun ls hl => ?_)
          refine lv_goto (tgt := 7) hx hb dX1_split_81 (by decide) ?_
          have hP9 : va_P D vwCl [(q_lk, .inr (1, [.ref q_nt, .ref q_kn, .ref q_fi, .int (nI (c_ct + 1))])), (q_kn, .inl (cI, 8, .inl (aN c_kn))), (q_fi, .inl (cI, 8, .inl (aN (upN c_fi v2 c_ct)))), (q_nt, .inr (2, [.ref q_en, .ref q_ba, .ref q_de, .int (nI n), .int (nI (prs t))])), (q_en, .inl (cI, 32, .inl (aE t))), (q_ba, .inl (cZ, 32, .inl (aB w))), (q_de, .inl (cI, 8, .inl (aN (dg t))))] H := hP.sub [0, 1, 2, 3, 4, 5, 6] rfl
          have hD9 : va_D A [(q_lk, .inr (1, [.ref q_nt, .ref q_kn, .ref q_fi, .int (nI (c_ct + 1))])), (q_kn, .inl (cI, 8, .inl (aN c_kn))), (q_fi, .inl (cI, 8, .inl (aN (upN c_fi v2 c_ct)))), (q_nt, .inr (2, [.ref q_en, .ref q_ba, .ref q_de, .int (nI n), .int (nI (prs t))])), (q_en, .inl (cI, 32, .inl (aE t))), (q_ba, .inl (cZ, 32, .inl (aB w))), (q_de, .inl (cI, 8, .inl (aN (dg t))))] := hD.sub [0, 1, 2, 3, 4, 5, 6] (by decide) rfl
          exact ((hX7 _ _ _ _).mp hw) _ _ hP9 hD9 hS ls (lv_sub hl [2, 3, 0] rfl)
        · replace hw := hwf cc
          refine lv_iload_n hx hb dX1_split_39 rfl (lv_at hl 0 rfl) ?_
          obtain ⟨zh14, hw⟩ := hw
          refine z_if_lt hx hb zh14 (tgt := 58) dX1_split_40 (by decide) ?_
          refine lv_aload_n hx hb dX1_split_43 rfl (lv_at hl 1 rfl) ?_
          refine va_get (D := D) (ci := 1) (v := .ref q_fi) (C := RX1) (T := TX1) (N := 4) hx hb hts i_X1_split_X1 hown hZ.1 hP 0 rfl rfl 2 (by decide) (hts _ m_X1_split_f15) (fun _ h9 => h9) rfl dX1_split_44 ?_
          refine lv_iload_n hx hb dX1_split_47 rfl (lv_at hl 3 rfl) ?_
          refine lv_aload_n hx hb dX1_split_48 rfl (lv_at hl 1 rfl) ?_
          refine va_get (D := D) (ci := 1) (v := .ref q_fi) (C := RX1) (T := TX1) (N := 4) hx hb hts i_X1_split_X1 hown hZ.1 hP 0 rfl rfl 2 (by decide) (hts _ m_X1_split_f15) (fun _ h9 => h9) rfl dX1_split_49 ?_
          refine lv_iload_n hx hb dX1_split_52 rfl (lv_at hl 0 rfl) ?_
          obtain ⟨zh15, hw⟩ := hw
          refine z_iald hx hb hZ.1 hP 2 0 rfl rfl zh15 (by decide) (v := nI (c_fi zx10)) rfl dX1_split_53 ?_
          obtain ⟨zh16, hw⟩ := hw
          refine z_iast hx hb hZ.1 hP hD hS 2 0 rfl rfl zh16 (by decide) (g := aN (upN c_fi v2 (c_fi zx10))) (aN_up _ _ _) dX1_split_54 (fun H locs hP hD hS => ?_)
          have hP : va_P D vwCl [(q_lk, .inr (1, [.ref q_nt, .ref q_kn, .ref q_fi, .int (nI c_ct)])), (q_kn, .inl (cI, 8, .inl (aN c_kn))), (q_fi, .inl (cI, 8, .inl (aN (upN c_fi v2 (c_fi zx10))))), (q_nt, .inr (2, [.ref q_en, .ref q_ba, .ref q_de, .int (nI n), .int (nI (prs t))])), (q_en, .inl (cI, 32, .inl (aE t))), (q_ba, .inl (cZ, 32, .inl (aB w))), (q_de, .inl (cI, 8, .inl (aN (dg t))))] H := hP
          have hD : va_D A [(q_lk, .inr (1, [.ref q_nt, .ref q_kn, .ref q_fi, .int (nI c_ct)])), (q_kn, .inl (cI, 8, .inl (aN c_kn))), (q_fi, .inl (cI, 8, .inl (aN (upN c_fi v2 (c_fi zx10))))), (q_nt, .inr (2, [.ref q_en, .ref q_ba, .ref q_de, .int (nI n), .int (nI (prs t))])), (q_en, .inl (cI, 32, .inl (aE t))), (q_ba, .inl (cZ, 32, .inl (aB w))), (q_de, .inl (cI, 8, .inl (aN (dg t))))] := hD
          refine lv_goto (tgt := 78) hx hb dX1_split_55 (by decide) ?_
          refine lv_iinc (v := nI (v2 + 1)) (lv' := [(2, .int (nI (v2 + 1))), (3, .int (nI zx10)), (0, .ref q_lk), (1, .int (bI bd))]) hx hb dX1_split_78 hl (k := 3) rfl (by rw [show Int32.ofInt 1 = nI 1 from by decide +kernel]; exact nI_add _ _) (by decide) rfl (fun ls hl => ?_)
          refine lv_goto (tgt := 7) hx hb dX1_split_81 (by decide) ?_
          have hP9 : va_P D vwCl [(q_lk, .inr (1, [.ref q_nt, .ref q_kn, .ref q_fi, .int (nI c_ct)])), (q_kn, .inl (cI, 8, .inl (aN c_kn))), (q_fi, .inl (cI, 8, .inl (aN (upN c_fi v2 (c_fi zx10))))), (q_nt, .inr (2, [.ref q_en, .ref q_ba, .ref q_de, .int (nI n), .int (nI (prs t))])), (q_en, .inl (cI, 32, .inl (aE t))), (q_ba, .inl (cZ, 32, .inl (aB w))), (q_de, .inl (cI, 8, .inl (aN (dg t))))] H := hP.sub [0, 1, 2, 3, 4, 5, 6] rfl
          have hD9 : va_D A [(q_lk, .inr (1, [.ref q_nt, .ref q_kn, .ref q_fi, .int (nI c_ct)])), (q_kn, .inl (cI, 8, .inl (aN c_kn))), (q_fi, .inl (cI, 8, .inl (aN (upN c_fi v2 (c_fi zx10))))), (q_nt, .inr (2, [.ref q_en, .ref q_ba, .ref q_de, .int (nI n), .int (nI (prs t))])), (q_en, .inl (cI, 32, .inl (aE t))), (q_ba, .inl (cZ, 32, .inl (aB w))), (q_de, .inl (cI, 8, .inl (aN (dg t))))] := hD.sub [0, 1, 2, 3, 4, 5, 6] (by decide) rfl
          exact ((hX7 _ _ _ _).mp hw) _ _ hP9 hD9 hS ls (lv_sub hl [2, 3, 0] rfl)
  have b86 : ∀ (v2 : Nat) (c_kn : Nat → Nat) (c_fi : Nat → Nat) (c_ct : Nat), B_X1_split_86 kd fi ct n t w bd X7 X86 v2 c_kn c_fi c_ct → X86 v2 c_kn c_fi c_ct := by
    intro v2 c_kn c_fi c_ct hw
    rw [hX86]
    intro H locs hP hD hS ls hl
    unfold B_X1_split_86 at hw
    refine lv_iload_n hx hb dX1_split_86 rfl (lv_at hl 2 rfl) ?_
    refine lv_aload_n hx hb dX1_split_87 rfl (lv_at hl 0 rfl) ?_
    refine va_get (D := D) (ci := 1) (v := .ref q_kn) (C := RX1) (T := TX1) (N := 4) hx hb hts i_X1_split_X1 hown hZ.1 hP 0 rfl rfl 1 (by decide) (hts _ m_X1_split_f9) (fun _ h9 => h9) rfl dX1_split_88 ?_
    refine va_alen hx hb hZ.1 hP 1 0 rfl rfl (v := nI 8) rfl dX1_split_91 ?_
    obtain ⟨zh17, hw⟩ := hw
    obtain ⟨hwt, hwf⟩ := hw
    refine z_icmp_ge hx hb zh17 (by decide) (tgt := 122) dX1_split_92 (by decide) (fun cc => ?_) (fun cc => ?_)
    · replace hw := hwt cc
      obtain ⟨kd9, fi9, po0, ec_kn, ec_fi, ec_ct⟩ := hw
      have hP9 : va_P D vwCl [(q_lk, .inr (1, [.ref q_nt, .ref q_kn, .ref q_fi, .int (nI c_ct)])), (q_kn, .inl (cI, 8, .inl (aN c_kn))), (q_fi, .inl (cI, 8, .inl (aN c_fi))), (q_nt, .inr (2, [.ref q_en, .ref q_ba, .ref q_de, .int (nI n), .int (nI (prs t))])), (q_en, .inl (cI, 32, .inl (aE t))), (q_ba, .inl (cZ, 32, .inl (aB w))), (q_de, .inl (cI, 8, .inl (aN (dg t))))] H := hP.sub [0, 1, 2, 3, 4, 5, 6] rfl
      have hD9 : va_D A [(q_lk, .inr (1, [.ref q_nt, .ref q_kn, .ref q_fi, .int (nI c_ct)])), (q_kn, .inl (cI, 8, .inl (aN c_kn))), (q_fi, .inl (cI, 8, .inl (aN c_fi))), (q_nt, .inr (2, [.ref q_en, .ref q_ba, .ref q_de, .int (nI n), .int (nI (prs t))])), (q_en, .inl (cI, 32, .inl (aE t))), (q_ba, .inl (cZ, 32, .inl (aB w))), (q_de, .inl (cI, 8, .inl (aN (dg t))))] := hD.sub [0, 1, 2, 3, 4, 5, 6] (by decide) rfl
      have hP9 : va_P D vwCl [(q_lk, .inr (1, [.ref q_nt, .ref q_kn, .ref q_fi, .int (nI c_ct)])), (q_kn, .inl (cI, 8, .inl (aN kd9))), (q_fi, .inl (cI, 8, .inl (aN c_fi))), (q_nt, .inr (2, [.ref q_en, .ref q_ba, .ref q_de, .int (nI n), .int (nI (prs t))])), (q_en, .inl (cI, 32, .inl (aE t))), (q_ba, .inl (cZ, 32, .inl (aB w))), (q_de, .inl (cI, 8, .inl (aN (dg t))))] H := z_arr hP9 1 rfl (fun zi hi => congrArg nI (ec_kn zi hi))
      have hD9 : va_D A [(q_lk, .inr (1, [.ref q_nt, .ref q_kn, .ref q_fi, .int (nI c_ct)])), (q_kn, .inl (cI, 8, .inl (aN kd9))), (q_fi, .inl (cI, 8, .inl (aN c_fi))), (q_nt, .inr (2, [.ref q_en, .ref q_ba, .ref q_de, .int (nI n), .int (nI (prs t))])), (q_en, .inl (cI, 32, .inl (aE t))), (q_ba, .inl (cZ, 32, .inl (aB w))), (q_de, .inl (cI, 8, .inl (aN (dg t))))] := hD9.set (p := 1) (e := .inl (cI, 8, .inl (aN kd9))) rfl
      have hP9 : va_P D vwCl [(q_lk, .inr (1, [.ref q_nt, .ref q_kn, .ref q_fi, .int (nI c_ct)])), (q_kn, .inl (cI, 8, .inl (aN kd9))), (q_fi, .inl (cI, 8, .inl (aN fi9))), (q_nt, .inr (2, [.ref q_en, .ref q_ba, .ref q_de, .int (nI n), .int (nI (prs t))])), (q_en, .inl (cI, 32, .inl (aE t))), (q_ba, .inl (cZ, 32, .inl (aB w))), (q_de, .inl (cI, 8, .inl (aN (dg t))))] H := z_arr hP9 2 rfl (fun zi hi => congrArg nI (ec_fi zi hi))
      have hD9 : va_D A [(q_lk, .inr (1, [.ref q_nt, .ref q_kn, .ref q_fi, .int (nI c_ct)])), (q_kn, .inl (cI, 8, .inl (aN kd9))), (q_fi, .inl (cI, 8, .inl (aN fi9))), (q_nt, .inr (2, [.ref q_en, .ref q_ba, .ref q_de, .int (nI n), .int (nI (prs t))])), (q_en, .inl (cI, 32, .inl (aE t))), (q_ba, .inl (cZ, 32, .inl (aB w))), (q_de, .inl (cI, 8, .inl (aN (dg t))))] := hD9.set (p := 2) (e := .inl (cI, 8, .inl (aN fi9))) rfl
      have hP9 : va_P D vwCl [(q_lk, .inr (1, [.ref q_nt, .ref q_kn, .ref q_fi, .int (nI (cnn (rel t kd bd) n))])), (q_kn, .inl (cI, 8, .inl (aN kd9))), (q_fi, .inl (cI, 8, .inl (aN fi9))), (q_nt, .inr (2, [.ref q_en, .ref q_ba, .ref q_de, .int (nI n), .int (nI (prs t))])), (q_en, .inl (cI, 32, .inl (aE t))), (q_ba, .inl (cZ, 32, .inl (aB w))), (q_de, .inl (cI, 8, .inl (aN (dg t))))] H := (congrArg (fun z9 : Nat => va_P D vwCl [(q_lk, .inr (1, [.ref q_nt, .ref q_kn, .ref q_fi, .int (nI z9)])), (q_kn, .inl (cI, 8, .inl (aN kd9))), (q_fi, .inl (cI, 8, .inl (aN fi9))), (q_nt, .inr (2, [.ref q_en, .ref q_ba, .ref q_de, .int (nI n), .int (nI (prs t))])), (q_en, .inl (cI, 32, .inl (aE t))), (q_ba, .inl (cZ, 32, .inl (aB w))), (q_de, .inl (cI, 8, .inl (aN (dg t))))] H) ec_ct).mp hP9
      have hD9 : va_D A [(q_lk, .inr (1, [.ref q_nt, .ref q_kn, .ref q_fi, .int (nI (cnn (rel t kd bd) n))])), (q_kn, .inl (cI, 8, .inl (aN kd9))), (q_fi, .inl (cI, 8, .inl (aN fi9))), (q_nt, .inr (2, [.ref q_en, .ref q_ba, .ref q_de, .int (nI n), .int (nI (prs t))])), (q_en, .inl (cI, 32, .inl (aE t))), (q_ba, .inl (cZ, 32, .inl (aB w))), (q_de, .inl (cI, 8, .inl (aN (dg t))))] := (congrArg (fun z9 : Nat => va_D A [(q_lk, .inr (1, [.ref q_nt, .ref q_kn, .ref q_fi, .int (nI z9)])), (q_kn, .inl (cI, 8, .inl (aN kd9))), (q_fi, .inl (cI, 8, .inl (aN fi9))), (q_nt, .inr (2, [.ref q_en, .ref q_ba, .ref q_de, .int (nI n), .int (nI (prs t))])), (q_en, .inl (cI, 32, .inl (aE t))), (q_ba, .inl (cZ, 32, .inl (aB w))), (q_de, .inl (cI, 8, .inl (aN (dg t))))]) ec_ct).mp hD9
      exact W.vret hx hb hr (fun t ht hW => ⟨⟨(kd9, fi9), rfl, po0, by rw [ht]; exact hP9, hD9⟩, hS.F ht⟩) hS.2.2 dX1_split_122
    · replace hw := hwf cc
      refine lv_iload_n hx hb dX1_split_95 rfl (lv_at hl 2 rfl) ?_
      refine lv_aload_n hx hb dX1_split_96 rfl (lv_at hl 0 rfl) ?_
      refine va_get (D := D) (ci := 1) (v := .ref q_fi) (C := RX1) (T := TX1) (N := 4) hx hb hts i_X1_split_X1 hown hZ.1 hP 0 rfl rfl 2 (by decide) (hts _ m_X1_split_f15) (fun _ h9 => h9) rfl dX1_split_97 ?_
      refine va_alen hx hb hZ.1 hP 2 0 rfl rfl (v := nI 8) rfl dX1_split_100 ?_
      obtain ⟨zh18, hw⟩ := hw
      obtain ⟨hwt, hwf⟩ := hw
      refine z_icmp_ge hx hb zh18 (by decide) (tgt := 122) dX1_split_101 (by decide) (fun cc => ?_) (fun cc => ?_)
      · replace hw := hwt cc
        obtain ⟨kd9, fi9, po0, ec_kn, ec_fi, ec_ct⟩ := hw
        have hP9 : va_P D vwCl [(q_lk, .inr (1, [.ref q_nt, .ref q_kn, .ref q_fi, .int (nI c_ct)])), (q_kn, .inl (cI, 8, .inl (aN c_kn))), (q_fi, .inl (cI, 8, .inl (aN c_fi))), (q_nt, .inr (2, [.ref q_en, .ref q_ba, .ref q_de, .int (nI n), .int (nI (prs t))])), (q_en, .inl (cI, 32, .inl (aE t))), (q_ba, .inl (cZ, 32, .inl (aB w))), (q_de, .inl (cI, 8, .inl (aN (dg t))))] H := hP.sub [0, 1, 2, 3, 4, 5, 6] rfl
        have hD9 : va_D A [(q_lk, .inr (1, [.ref q_nt, .ref q_kn, .ref q_fi, .int (nI c_ct)])), (q_kn, .inl (cI, 8, .inl (aN c_kn))), (q_fi, .inl (cI, 8, .inl (aN c_fi))), (q_nt, .inr (2, [.ref q_en, .ref q_ba, .ref q_de, .int (nI n), .int (nI (prs t))])), (q_en, .inl (cI, 32, .inl (aE t))), (q_ba, .inl (cZ, 32, .inl (aB w))), (q_de, .inl (cI, 8, .inl (aN (dg t))))] := hD.sub [0, 1, 2, 3, 4, 5, 6] (by decide) rfl
        have hP9 : va_P D vwCl [(q_lk, .inr (1, [.ref q_nt, .ref q_kn, .ref q_fi, .int (nI c_ct)])), (q_kn, .inl (cI, 8, .inl (aN kd9))), (q_fi, .inl (cI, 8, .inl (aN c_fi))), (q_nt, .inr (2, [.ref q_en, .ref q_ba, .ref q_de, .int (nI n), .int (nI (prs t))])), (q_en, .inl (cI, 32, .inl (aE t))), (q_ba, .inl (cZ, 32, .inl (aB w))), (q_de, .inl (cI, 8, .inl (aN (dg t))))] H := z_arr hP9 1 rfl (fun zi hi => congrArg nI (ec_kn zi hi))
        have hD9 : va_D A [(q_lk, .inr (1, [.ref q_nt, .ref q_kn, .ref q_fi, .int (nI c_ct)])), (q_kn, .inl (cI, 8, .inl (aN kd9))), (q_fi, .inl (cI, 8, .inl (aN c_fi))), (q_nt, .inr (2, [.ref q_en, .ref q_ba, .ref q_de, .int (nI n), .int (nI (prs t))])), (q_en, .inl (cI, 32, .inl (aE t))), (q_ba, .inl (cZ, 32, .inl (aB w))), (q_de, .inl (cI, 8, .inl (aN (dg t))))] := hD9.set (p := 1) (e := .inl (cI, 8, .inl (aN kd9))) rfl
        have hP9 : va_P D vwCl [(q_lk, .inr (1, [.ref q_nt, .ref q_kn, .ref q_fi, .int (nI c_ct)])), (q_kn, .inl (cI, 8, .inl (aN kd9))), (q_fi, .inl (cI, 8, .inl (aN fi9))), (q_nt, .inr (2, [.ref q_en, .ref q_ba, .ref q_de, .int (nI n), .int (nI (prs t))])), (q_en, .inl (cI, 32, .inl (aE t))), (q_ba, .inl (cZ, 32, .inl (aB w))), (q_de, .inl (cI, 8, .inl (aN (dg t))))] H := z_arr hP9 2 rfl (fun zi hi => congrArg nI (ec_fi zi hi))
        have hD9 : va_D A [(q_lk, .inr (1, [.ref q_nt, .ref q_kn, .ref q_fi, .int (nI c_ct)])), (q_kn, .inl (cI, 8, .inl (aN kd9))), (q_fi, .inl (cI, 8, .inl (aN fi9))), (q_nt, .inr (2, [.ref q_en, .ref q_ba, .ref q_de, .int (nI n), .int (nI (prs t))])), (q_en, .inl (cI, 32, .inl (aE t))), (q_ba, .inl (cZ, 32, .inl (aB w))), (q_de, .inl (cI, 8, .inl (aN (dg t))))] := hD9.set (p := 2) (e := .inl (cI, 8, .inl (aN fi9))) rfl
        have hP9 : va_P D vwCl [(q_lk, .inr (1, [.ref q_nt, .ref q_kn, .ref q_fi, .int (nI (cnn (rel t kd bd) n))])), (q_kn, .inl (cI, 8, .inl (aN kd9))), (q_fi, .inl (cI, 8, .inl (aN fi9))), (q_nt, .inr (2, [.ref q_en, .ref q_ba, .ref q_de, .int (nI n), .int (nI (prs t))])), (q_en, .inl (cI, 32, .inl (aE t))), (q_ba, .inl (cZ, 32, .inl (aB w))), (q_de, .inl (cI, 8, .inl (aN (dg t))))] H := (congrArg (fun z9 : Nat => va_P D vwCl [(q_lk, .inr (1, [.ref q_nt, .ref q_kn, .ref q_fi, .int (nI z9)])), (q_kn, .inl (cI, 8, .inl (aN kd9))), (q_fi, .inl (cI, 8, .inl (aN fi9))), (q_nt, .inr (2, [.ref q_en, .ref q_ba, .ref q_de, .int (nI n), .int (nI (prs t))])), (q_en, .inl (cI, 32, .inl (aE t))), (q_ba, .inl (cZ, 32, .inl (aB w))), (q_de, .inl (cI, 8, .inl (aN (dg t))))] H) ec_ct).mp hP9
        have hD9 : va_D A [(q_lk, .inr (1, [.ref q_nt, .ref q_kn, .ref q_fi, .int (nI (cnn (rel t kd bd) n))])), (q_kn, .inl (cI, 8, .inl (aN kd9))), (q_fi, .inl (cI, 8, .inl (aN fi9))), (q_nt, .inr (2, [.ref q_en, .ref q_ba, .ref q_de, .int (nI n), .int (nI (prs t))])), (q_en, .inl (cI, 32, .inl (aE t))), (q_ba, .inl (cZ, 32, .inl (aB w))), (q_de, .inl (cI, 8, .inl (aN (dg t))))] := (congrArg (fun z9 : Nat => va_D A [(q_lk, .inr (1, [.ref q_nt, .ref q_kn, .ref q_fi, .int (nI z9)])), (q_kn, .inl (cI, 8, .inl (aN kd9))), (q_fi, .inl (cI, 8, .inl (aN fi9))), (q_nt, .inr (2, [.ref q_en, .ref q_ba, .ref q_de, .int (nI n), .int (nI (prs t))])), (q_en, .inl (cI, 32, .inl (aE t))), (q_ba, .inl (cZ, 32, .inl (aB w))), (q_de, .inl (cI, 8, .inl (aN (dg t))))]) ec_ct).mp hD9
        exact W.vret hx hb hr (fun t ht hW => ⟨⟨(kd9, fi9), rfl, po0, by rw [ht]; exact hP9, hD9⟩, hS.F ht⟩) hS.2.2 dX1_split_122
      · replace hw := hwf cc
        refine lv_aload_n hx hb dX1_split_104 rfl (lv_at hl 0 rfl) ?_
        refine va_get (D := D) (ci := 1) (v := .ref q_kn) (C := RX1) (T := TX1) (N := 4) hx hb hts i_X1_split_X1 hown hZ.1 hP 0 rfl rfl 1 (by decide) (hts _ m_X1_split_f9) (fun _ h9 => h9) rfl dX1_split_105 ?_
        refine lv_iload_n hx hb dX1_split_108 rfl (lv_at hl 2 rfl) ?_
        refine lv_aload_n hx hb dX1_split_109 rfl (lv_at hl 0 rfl) ?_
        refine va_get (D := D) (ci := 1) (v := .ref q_fi) (C := RX1) (T := TX1) (N := 4) hx hb hts i_X1_split_X1 hown hZ.1 hP 0 rfl rfl 2 (by decide) (hts _ m_X1_split_f15) (fun _ h9 => h9) rfl dX1_split_110 ?_
        refine lv_iload_n hx hb dX1_split_113 rfl (lv_at hl 2 rfl) ?_
        obtain ⟨zh19, hw⟩ := hw
        refine z_iald hx hb hZ.1 hP 2 0 rfl rfl zh19 (by decide) (v := nI (c_fi v2)) rfl dX1_split_114 ?_
        obtain ⟨zh20, hw⟩ := hw
        refine z_iast hx hb hZ.1 hP hD hS 1 0 rfl rfl zh20 (by decide) (g := aN (upN c_kn v2 (c_fi v2))) (aN_up _ _ _) dX1_split_115 (fun H locs hP hD hS => ?_)
        have hP : va_P D vwCl [(q_lk, .inr (1, [.ref q_nt, .ref q_kn, .ref q_fi, .int (nI c_ct)])), (q_kn, .inl (cI, 8, .inl (aN (upN c_kn v2 (c_fi v2))))), (q_fi, .inl (cI, 8, .inl (aN c_fi))), (q_nt, .inr (2, [.ref q_en, .ref q_ba, .ref q_de, .int (nI n), .int (nI (prs t))])), (q_en, .inl (cI, 32, .inl (aE t))), (q_ba, .inl (cZ, 32, .inl (aB w))), (q_de, .inl (cI, 8, .inl (aN (dg t))))] H := hP
        have hD : va_D A [(q_lk, .inr (1, [.ref q_nt, .ref q_kn, .ref q_fi, .int (nI c_ct)])), (q_kn, .inl (cI, 8, .inl (aN (upN c_kn v2 (c_fi v2))))), (q_fi, .inl (cI, 8, .inl (aN c_fi))), (q_nt, .inr (2, [.ref q_en, .ref q_ba, .ref q_de, .int (nI n), .int (nI (prs t))])), (q_en, .inl (cI, 32, .inl (aE t))), (q_ba, .inl (cZ, 32, .inl (aB w))), (q_de, .inl (cI, 8, .inl (aN (dg t))))] := hD
        refine lv_iinc (v := nI (v2 + 1)) (lv' := [(2, .int (nI (v2 + 1))), (0, .ref q_lk), (1, .int (bI bd))]) hx hb dX1_split_116 hl (k := 2) rfl (by rw [show Int32.ofInt 1 = nI 1 from by decide +kernel]; exact nI_add _ _) (by decide) rfl (fun ls hl => ?_)
        refine lv_goto (tgt := 86) hx hb dX1_split_119 (by decide) ?_
        have hP9 : va_P D vwCl [(q_lk, .inr (1, [.ref q_nt, .ref q_kn, .ref q_fi, .int (nI c_ct)])), (q_kn, .inl (cI, 8, .inl (aN (upN c_kn v2 (c_fi v2))))), (q_fi, .inl (cI, 8, .inl (aN c_fi))), (q_nt, .inr (2, [.ref q_en, .ref q_ba, .ref q_de, .int (nI n), .int (nI (prs t))])), (q_en, .inl (cI, 32, .inl (aE t))), (q_ba, .inl (cZ, 32, .inl (aB w))), (q_de, .inl (cI, 8, .inl (aN (dg t))))] H := hP.sub [0, 1, 2, 3, 4, 5, 6] rfl
        have hD9 : va_D A [(q_lk, .inr (1, [.ref q_nt, .ref q_kn, .ref q_fi, .int (nI c_ct)])), (q_kn, .inl (cI, 8, .inl (aN (upN c_kn v2 (c_fi v2))))), (q_fi, .inl (cI, 8, .inl (aN c_fi))), (q_nt, .inr (2, [.ref q_en, .ref q_ba, .ref q_de, .int (nI n), .int (nI (prs t))])), (q_en, .inl (cI, 32, .inl (aE t))), (q_ba, .inl (cZ, 32, .inl (aB w))), (q_de, .inl (cI, 8, .inl (aN (dg t))))] := hD.sub [0, 1, 2, 3, 4, 5, 6] (by decide) rfl
        exact ((hX86 _ _ _ _).mp hw) _ _ hP9 hD9 hS ls (lv_sub hl [1, 2, 0] rfl)
  have hw := vw X7 X86 b7 b86
  unfold B_X1_split_in at hw
  refine lv_aload_n hx hb dX1_split_0 rfl (lv_at hl 0 rfl) ?_
  refine lv_iconst (v := nI 0) hx hb dX1_split_1 (by decide +kernel) ?_
  refine va_put (D := D) (ci := 1) (v := .int (nI 0)) (ty := .int) (C := RX1) (T := TX1) (N := 4) hx hb hts i_X1_split_X1 tyX1 tyX1_ok nmX1 hown hZ.1 hP hD hS 0 rfl rfl 3 (by decide) (hts _ m_X1_split_f25) (fun _ h9 => h9) rfl (by decide +kernel) rfl rfl (Nat.le_of_ble_eq_true rfl) dX1_split_2 (fun H locs hP hD hS => ?_)
  have hP : va_P D vwCl [(q_lk, .inr (1, [.ref q_nt, .ref q_kn, .ref q_fi, .int (nI 0)])), (q_kn, .inl (cI, 8, .inl (aN kd))), (q_fi, .inl (cI, 8, .inl (aN fi))), (q_nt, .inr (2, [.ref q_en, .ref q_ba, .ref q_de, .int (nI n), .int (nI (prs t))])), (q_en, .inl (cI, 32, .inl (aE t))), (q_ba, .inl (cZ, 32, .inl (aB w))), (q_de, .inl (cI, 8, .inl (aN (dg t))))] H := hP
  have hD : va_D A [(q_lk, .inr (1, [.ref q_nt, .ref q_kn, .ref q_fi, .int (nI 0)])), (q_kn, .inl (cI, 8, .inl (aN kd))), (q_fi, .inl (cI, 8, .inl (aN fi))), (q_nt, .inr (2, [.ref q_en, .ref q_ba, .ref q_de, .int (nI n), .int (nI (prs t))])), (q_en, .inl (cI, 32, .inl (aE t))), (q_ba, .inl (cZ, 32, .inl (aB w))), (q_de, .inl (cI, 8, .inl (aN (dg t))))] := hD
  refine lv_iconst (v := nI 0) hx hb dX1_split_5 (by decide +kernel) ?_
  refine lv_istore_n (lv' := [(2, .int (nI 0)), (0, .ref q_lk), (1, .int (bI bd))]) hx hb dX1_split_6 rfl hl (by decide) rfl (fun ls hl => ?_)
  have hP9 : va_P D vwCl [(q_lk, .inr (1, [.ref q_nt, .ref q_kn, .ref q_fi, .int (nI 0)])), (q_kn, .inl (cI, 8, .inl (aN kd))), (q_fi, .inl (cI, 8, .inl (aN fi))), (q_nt, .inr (2, [.ref q_en, .ref q_ba, .ref q_de, .int (nI n), .int (nI (prs t))])), (q_en, .inl (cI, 32, .inl (aE t))), (q_ba, .inl (cZ, 32, .inl (aB w))), (q_de, .inl (cI, 8, .inl (aN (dg t))))] H := hP.sub [0, 1, 2, 3, 4, 5, 6] rfl
  have hD9 : va_D A [(q_lk, .inr (1, [.ref q_nt, .ref q_kn, .ref q_fi, .int (nI 0)])), (q_kn, .inl (cI, 8, .inl (aN kd))), (q_fi, .inl (cI, 8, .inl (aN fi))), (q_nt, .inr (2, [.ref q_en, .ref q_ba, .ref q_de, .int (nI n), .int (nI (prs t))])), (q_en, .inl (cI, 32, .inl (aE t))), (q_ba, .inl (cZ, 32, .inl (aB w))), (q_de, .inl (cI, 8, .inl (aN (dg t))))] := hD.sub [0, 1, 2, 3, 4, 5, 6] (by decide) rfl
  exact ((hX7 _ _ _ _).mp hw) _ _ hP9 hD9 hS ls (lv_sub hl [1, 2, 0] rfl)
theorem m_X1_lookAtDegrees_f9 : Cond.fieldLink RX1 9 "NetWalkers$Looks" "kinds" "[I" ∈ wsX1_lookAtDegrees := by decide +kernel
theorem i_X1_lookAtDegrees_X1 : ∀ w ∈ wsX10, w ∈ wsX1_lookAtDegrees := by decide +kernel
set_option maxRecDepth 100000 in
set_option maxHeartbeats 4000000 in
theorem w_X1_lookAtDegrees {l : Launch} {D : va_G} {cI cZ : ClassId} (k_X1_split : K_X1_split l D cI cZ) (vv : V_X1_lookAtDegrees) : K_X1_lookAtDegrees l D cI cZ := by
  intro q_lk q_kn q_fi q_nt q_en q_ba q_de sz kd fi ct n t w hpre0 hpre1
  have vw := vv kd fi ct n t w hpre0 hpre1
  refine Met.ofW (cc := cX1_lookAtDegrees) (maxL := 2) (ret := none) (by decide) rfl ?_
  intro zp ze zs zm zargs zbelow zmeth zc zs1 B hml hv
  obtain ⟨rfl, hsz, hZ, hP, hD0⟩ := hv
  have hx := B.exec
  have hb := B.bytes
  have hr := B.returns
  have hts := atoms_spec (ws := wsX1_lookAtDegrees) B.pre
  have hown : zs.vm.findClass RX1 = some zm.cls := findClass_of_methodNamed B.named
  have hlocks := B.notSynchronized
  subst hsz
  have hD := hD0.self (sz := zs.heap.size)
  generalize hAe : va_A [(q_lk, .inr (1, [.ref q_nt, .ref q_kn, .ref q_fi, .int (nI ct)])), (q_kn, .inl (cI, 8, .inl (aN kd))), (q_fi, .inl (cI, 8, .inl (aN fi))), (q_nt, .inr (2, [.ref q_en, .ref q_ba, .ref q_de, .int (nI n), .int (nI (prs t))])), (q_en, .inl (cI, 32, .inl (aE t))), (q_ba, .inl (cZ, 32, .inl (aB w))), (q_de, .inl (cI, 8, .inl (aN (dg t))))] zs.heap.size = A at hD ⊢
  have hA : ∀ q : Nat, zs.heap.size ≤ q → A q := fun q h => by rw [← hAe]; exact Or.inr h
  have hS : va_S A zs.heap zs.heap [] := va_S.rf
  have hP : va_P D vwCl [(q_lk, .inr (1, [.ref q_nt, .ref q_kn, .ref q_fi, .int (nI ct)])), (q_kn, .inl (cI, 8, .inl (aN kd))), (q_fi, .inl (cI, 8, .inl (aN fi))), (q_nt, .inr (2, [.ref q_en, .ref q_ba, .ref q_de, .int (nI n), .int (nI (prs t))])), (q_en, .inl (cI, 32, .inl (aE t))), (q_ba, .inl (cZ, 32, .inl (aB w))), (q_de, .inl (cI, 8, .inl (aN (dg t))))] zs.heap := hP
  have hl := lv_entry ([.ref q_lk]) (n := 2) (Nat.le_of_ble_eq_true rfl)
  rw [lg_entry_eq]
  generalize (lg_sl ([.ref q_lk]) ++ List.replicate (2 - (lg_sl ([.ref q_lk])).length) Slot.unset).toArray = ls at hl ⊢
  have hl : lv_has ls 2 [(0, .ref q_lk)] := hl
  obtain ⟨X2, hX2⟩ : ∃ X : Nat → (Nat → Nat) → (Nat → Nat) → Nat → Prop, ∀ (v1 : Nat) (c_kn : Nat → Nat) (c_fi : Nat → Nat) (c_ct : Nat), X v1 c_kn c_fi c_ct ↔ (∀ (H : Heap) (locs : List Loc), va_P D vwCl [(q_lk, .inr (1, [.ref q_nt, .ref q_kn, .ref q_fi, .int (nI c_ct)])), (q_kn, .inl (cI, 8, .inl (aN c_kn))), (q_fi, .inl (cI, 8, .inl (aN c_fi))), (q_nt, .inr (2, [.ref q_en, .ref q_ba, .ref q_de, .int (nI n), .int (nI (prs t))])), (q_en, .inl (cI, 32, .inl (aE t))), (q_ba, .inl (cZ, 32, .inl (aB w))), (q_de, .inl (cI, 8, .inl (aN (dg t))))] H → va_D A [(q_lk, .inr (1, [.ref q_nt, .ref q_kn, .ref q_fi, .int (nI c_ct)])), (q_kn, .inl (cI, 8, .inl (aN c_kn))), (q_fi, .inl (cI, 8, .inl (aN c_fi))), (q_nt, .inr (2, [.ref q_en, .ref q_ba, .ref q_de, .int (nI n), .int (nI (prs t))])), (q_en, .inl (cI, 32, .inl (aE t))), (q_ba, .inl (cZ, 32, .inl (aB w))), (q_de, .inl (cI, 8, .inl (aN (dg t))))] → va_S A zs.heap H locs → ∀ ls : Array Slot, lv_has ls 2 [(0, .ref q_lk), (1, .int (nI v1))] → W zp l ze (headSpec wsX1_lookAtDegrees ({ frames := 4, cells := 0, slots := 0, locals := 92 } : Room)).room zs zm ([.ref q_lk] : List Value).toArray zbelow zmeth zc H locs 0 0 (MQ zbelow (va_Qv (S := (Nat → Nat) × (Nat → Nat)) (fun zu => (∀ i, i < n → zu.1 i = kK n t 0 i)) (fun (zu : (Nat → Nat) × (Nat → Nat)) zt => va_P D vwCl [(q_lk, .inr (1, [.ref q_nt, .ref q_kn, .ref q_fi, .int (nI (cK n t 0))])), (q_kn, .inl (cI, 8, .inl (aN zu.1))), (q_fi, .inl (cI, 8, .inl (aN zu.2))), (q_nt, .inr (2, [.ref q_en, .ref q_ba, .ref q_de, .int (nI n), .int (nI (prs t))])), (q_en, .inl (cI, 32, .inl (aE t))), (q_ba, .inl (cZ, 32, .inl (aB w))), (q_de, .inl (cI, 8, .inl (aN (dg t))))] zt.heap ∧ va_D A [(q_lk, .inr (1, [.ref q_nt, .ref q_kn, .ref q_fi, .int (nI (cK n t 0))])), (q_kn, .inl (cI, 8, .inl (aN zu.1))), (q_fi, .inl (cI, 8, .inl (aN zu.2))), (q_nt, .inr (2, [.ref q_en, .ref q_ba, .ref q_de, .int (nI n), .int (nI (prs t))])), (q_en, .inl (cI, 32, .inl (aE t))), (q_ba, .inl (cZ, 32, .inl (aB w))), (q_de, .inl (cI, 8, .inl (aN (dg t))))]) A) ([.ref q_lk] : List Value).toArray zs 0 0 A) (F0 zm 2 ls [])) := ⟨_, fun _ _ _ _ => Iff.rfl⟩
  have b2 : ∀ (v1 : Nat) (c_kn : Nat → Nat) (c_fi : Nat → Nat) (c_ct : Nat), B_X1_lookAtDegrees_2 kd fi ct n t w X2 v1 c_kn c_fi c_ct → X2 v1 c_kn c_fi c_ct := by
    intro v1 c_kn c_fi c_ct hw
    rw [hX2]
    intro H locs hP hD hS ls hl
    unfold B_X1_lookAtDegrees_2 at hw
    refine lv_iload_n hx hb dX1_lookAtDegrees_2 rfl (lv_at hl 1 rfl) ?_
    refine lv_aload_n hx hb dX1_lookAtDegrees_3 rfl (lv_at hl 0 rfl) ?_
    refine va_get (D := D) (ci := 1) (v := .ref q_kn) (C := RX1) (T := TX1) (N := 4) hx hb hts i_X1_lookAtDegrees_X1 hown hZ.1 hP 0 rfl rfl 1 (by decide) (hts _ m_X1_lookAtDegrees_f9) (fun _ h9 => h9) rfl dX1_lookAtDegrees_4 ?_
    refine va_alen hx hb hZ.1 hP 1 0 rfl rfl (v := nI 8) rfl dX1_lookAtDegrees_7 ?_
    obtain ⟨zh1, hw⟩ := hw
    obtain ⟨hwt, hwf⟩ := hw
    refine z_icmp_ge hx hb zh1 (by decide) (tgt := 24) dX1_lookAtDegrees_8 (by decide) (fun cc => ?_) (fun cc => ?_)
    · replace hw := hwt cc
      refine lv_aload_n hx hb dX1_lookAtDegrees_24 rfl (lv_at hl 0 rfl) ?_
      refine lv_iconst (v := nI 1) hx hb dX1_lookAtDegrees_25 (by decide +kernel) ?_
      refine z_st (st' := [.int (bI true), .ref q_lk]) (by first | rfl | simp only []) ?_
      obtain ⟨zh2, hw⟩ := hw
      obtain ⟨zh3, hw⟩ := hw
      obtain ⟨zh4, hw⟩ := hw
      obtain ⟨zh5, hw⟩ := hw
      have hPc : va_P D vwCl [(q_lk, .inr (1, [.ref q_nt, .ref q_kn, .ref q_fi, .int (nI c_ct)])), (q_kn, .inl (cI, 8, .inl (aN c_kn))), (q_fi, .inl (cI, 8, .inl (aN c_fi))), (q_nt, .inr (2, [.ref q_en, .ref q_ba, .ref q_de, .int (nI n), .int (nI (prs t))])), (q_en, .inl (cI, 32, .inl (aE t))), (q_ba, .inl (cZ, 32, .inl (aB w))), (q_de, .inl (cI, 8, .inl (aN (dg t))))] H := hP.sub [0, 1, 2, 3, 4, 5, 6] rfl
      have hDc : va_D A [(q_lk, .inr (1, [.ref q_nt, .ref q_kn, .ref q_fi, .int (nI c_ct)])), (q_kn, .inl (cI, 8, .inl (aN c_kn))), (q_fi, .inl (cI, 8, .inl (aN c_fi))), (q_nt, .inr (2, [.ref q_en, .ref q_ba, .ref q_de, .int (nI n), .int (nI (prs t))])), (q_en, .inl (cI, 32, .inl (aE t))), (q_ba, .inl (cZ, 32, .inl (aB w))), (q_de, .inl (cI, 8, .inl (aN (dg t))))] := hD.sub [0, 1, 2, 3, 4, 5, 6] (by decide) rfl
      have hFc := va_free (wc := [(q_lk, .inr (1, [.ref q_nt, .ref q_kn, .ref q_fi, .int (nI c_ct)])), (q_kn, .inl (cI, 8, .inl (aN c_kn))), (q_fi, .inl (cI, 8, .inl (aN c_fi))), (q_nt, .inr (2, [.ref q_en, .ref q_ba, .ref q_de, .int (nI n), .int (nI (prs t))])), (q_en, .inl (cI, 32, .inl (aE t))), (q_ba, .inl (cZ, 32, .inl (aB w))), (q_de, .inl (cI, 8, .inl (aN (dg t))))]) hD hS hA [0, 1, 2, 3, 4, 5, 6] rfl
      refine va_callv (va_runV (As := [.int (bI true)]) (rest := []) ⟨hx, hb, hml, hown, hts⟩ (k_X1_split q_lk q_kn q_fi q_nt q_en q_ba q_de H.size c_kn c_fi c_ct n t w true zh2 zh3 zh4 zh5) (cwV 1 hts gX1_lookAtDegrees_X1_split rfl rfl rfl (by decide +kernel) ⟨Nat.le_of_ble_eq_true rfl, Nat.le_of_ble_eq_true rfl⟩) (zPw_V hZ hPc (hDc.weaken (fun _ _ _ _ => trivial)) 0 rfl rfl) rfl rfl hl.1 rfl (lv_room (Nat.le_of_ble_eq_true rfl)) dX1_lookAtDegrees_26 ⟨Nat.zero_le _, Nat.zero_le _⟩) hS (fun q _ h => hFc q h) hFc (fun zu zt H1 locs1 ht hvm hq hB hz1 hk1 hS => ?_)
      obtain ⟨zkd96, zfi97⟩ := zu
      have zp8 := hq
      obtain ⟨hP1, hD1⟩ := hB
      rw [ht] at hP1
      replace hw := hw zkd96 zfi97 zp8
      obtain ⟨hP, hD⟩ := va_join (wr := []) (w1 := [(q_lk, .inr (1, [.ref q_nt, .ref q_kn, .ref q_fi, .int (nI (cnn (rel t c_kn true) n))])), (q_kn, .inl (cI, 8, .inl (aN zkd96))), (q_fi, .inl (cI, 8, .inl (aN zfi97))), (q_nt, .inr (2, [.ref q_en, .ref q_ba, .ref q_de, .int (nI n), .int (nI (prs t))])), (q_en, .inl (cI, 32, .inl (aE t))), (q_ba, .inl (cZ, 32, .inl (aB w))), (q_de, .inl (cI, 8, .inl (aN (dg t))))]) hP hD [0, 1, 2, 3, 4, 5, 6] [] rfl rfl (by decide) (by decide) hk1 hFc hP1 hD1
      have hP : va_P D vwCl [(q_lk, .inr (1, [.ref q_nt, .ref q_kn, .ref q_fi, .int (nI (cnn (rel t c_kn true) n))])), (q_kn, .inl (cI, 8, .inl (aN zkd96))), (q_fi, .inl (cI, 8, .inl (aN zfi97))), (q_nt, .inr (2, [.ref q_en, .ref q_ba, .ref q_de, .int (nI n), .int (nI (prs t))])), (q_en, .inl (cI, 32, .inl (aE t))), (q_ba, .inl (cZ, 32, .inl (aB w))), (q_de, .inl (cI, 8, .inl (aN (dg t))))] H1 := hP
      have hD : va_D A [(q_lk, .inr (1, [.ref q_nt, .ref q_kn, .ref q_fi, .int (nI (cnn (rel t c_kn true) n))])), (q_kn, .inl (cI, 8, .inl (aN zkd96))), (q_fi, .inl (cI, 8, .inl (aN zfi97))), (q_nt, .inr (2, [.ref q_en, .ref q_ba, .ref q_de, .int (nI n), .int (nI (prs t))])), (q_en, .inl (cI, 32, .inl (aE t))), (q_ba, .inl (cZ, 32, .inl (aB w))), (q_de, .inl (cI, 8, .inl (aN (dg t))))] := hD
      clear hP1 hD1 hk1 hz1 hFc hDc hPc ht hvm
      obtain ⟨kd9, fi9, po0, ec_kn, ec_fi, ec_ct⟩ := hw
      have hP9 : va_P D vwCl [(q_lk, .inr (1, [.ref q_nt, .ref q_kn, .ref q_fi, .int (nI (cnn (rel t c_kn true) n))])), (q_kn, .inl (cI, 8, .inl (aN zkd96))), (q_fi, .inl (cI, 8, .inl (aN zfi97))), (q_nt, .inr (2, [.ref q_en, .ref q_ba, .ref q_de, .int (nI n), .int (nI (prs t))])), (q_en, .inl (cI, 32, .inl (aE t))), (q_ba, .inl (cZ, 32, .inl (aB w))), (q_de, .inl (cI, 8, .inl (aN (dg t))))] H1 := hP.sub [0, 1, 2, 3, 4, 5, 6] rfl
      have hD9 : va_D A [(q_lk, .inr (1, [.ref q_nt, .ref q_kn, .ref q_fi, .int (nI (cnn (rel t c_kn true) n))])), (q_kn, .inl (cI, 8, .inl (aN zkd96))), (q_fi, .inl (cI, 8, .inl (aN zfi97))), (q_nt, .inr (2, [.ref q_en, .ref q_ba, .ref q_de, .int (nI n), .int (nI (prs t))])), (q_en, .inl (cI, 32, .inl (aE t))), (q_ba, .inl (cZ, 32, .inl (aB w))), (q_de, .inl (cI, 8, .inl (aN (dg t))))] := hD.sub [0, 1, 2, 3, 4, 5, 6] (by decide) rfl
      have hP9 : va_P D vwCl [(q_lk, .inr (1, [.ref q_nt, .ref q_kn, .ref q_fi, .int (nI (cnn (rel t c_kn true) n))])), (q_kn, .inl (cI, 8, .inl (aN kd9))), (q_fi, .inl (cI, 8, .inl (aN zfi97))), (q_nt, .inr (2, [.ref q_en, .ref q_ba, .ref q_de, .int (nI n), .int (nI (prs t))])), (q_en, .inl (cI, 32, .inl (aE t))), (q_ba, .inl (cZ, 32, .inl (aB w))), (q_de, .inl (cI, 8, .inl (aN (dg t))))] H1 := z_arr hP9 1 rfl (fun zi hi => congrArg nI (ec_kn zi hi))
      have hD9 : va_D A [(q_lk, .inr (1, [.ref q_nt, .ref q_kn, .ref q_fi, .int (nI (cnn (rel t c_kn true) n))])), (q_kn, .inl (cI, 8, .inl (aN kd9))), (q_fi, .inl (cI, 8, .inl (aN zfi97))), (q_nt, .inr (2, [.ref q_en, .ref q_ba, .ref q_de, .int (nI n), .int (nI (prs t))])), (q_en, .inl (cI, 32, .inl (aE t))), (q_ba, .inl (cZ, 32, .inl (aB w))), (q_de, .inl (cI, 8, .inl (aN (dg t))))] := hD9.set (p := 1) (e := .inl (cI, 8, .inl (aN kd9))) rfl
      have hP9 : va_P D vwCl [(q_lk, .inr (1, [.ref q_nt, .ref q_kn, .ref q_fi, .int (nI (cnn (rel t c_kn true) n))])), (q_kn, .inl (cI, 8, .inl (aN kd9))), (q_fi, .inl (cI, 8, .inl (aN fi9))), (q_nt, .inr (2, [.ref q_en, .ref q_ba, .ref q_de, .int (nI n), .int (nI (prs t))])), (q_en, .inl (cI, 32, .inl (aE t))), (q_ba, .inl (cZ, 32, .inl (aB w))), (q_de, .inl (cI, 8, .inl (aN (dg t))))] H1 := z_arr hP9 2 rfl (fun zi hi => congrArg nI (ec_fi zi hi))
      have hD9 : va_D A [(q_lk, .inr (1, [.ref q_nt, .ref q_kn, .ref q_fi, .int (nI (cnn (rel t c_kn true) n))])), (q_kn, .inl (cI, 8, .inl (aN kd9))), (q_fi, .inl (cI, 8, .inl (aN fi9))), (q_nt, .inr (2, [.ref q_en, .ref q_ba, .ref q_de, .int (nI n), .int (nI (prs t))])), (q_en, .inl (cI, 32, .inl (aE t))), (q_ba, .inl (cZ, 32, .inl (aB w))), (q_de, .inl (cI, 8, .inl (aN (dg t))))] := hD9.set (p := 2) (e := .inl (cI, 8, .inl (aN fi9))) rfl
      have hP9 : va_P D vwCl [(q_lk, .inr (1, [.ref q_nt, .ref q_kn, .ref q_fi, .int (nI (cK n t 0))])), (q_kn, .inl (cI, 8, .inl (aN kd9))), (q_fi, .inl (cI, 8, .inl (aN fi9))), (q_nt, .inr (2, [.ref q_en, .ref q_ba, .ref q_de, .int (nI n), .int (nI (prs t))])), (q_en, .inl (cI, 32, .inl (aE t))), (q_ba, .inl (cZ, 32, .inl (aB w))), (q_de, .inl (cI, 8, .inl (aN (dg t))))] H1 := (congrArg (fun z9 : Nat => va_P D vwCl [(q_lk, .inr (1, [.ref q_nt, .ref q_kn, .ref q_fi, .int (nI z9)])), (q_kn, .inl (cI, 8, .inl (aN kd9))), (q_fi, .inl (cI, 8, .inl (aN fi9))), (q_nt, .inr (2, [.ref q_en, .ref q_ba, .ref q_de, .int (nI n), .int (nI (prs t))])), (q_en, .inl (cI, 32, .inl (aE t))), (q_ba, .inl (cZ, 32, .inl (aB w))), (q_de, .inl (cI, 8, .inl (aN (dg t))))] H1) ec_ct).mp hP9
      have hD9 : va_D A [(q_lk, .inr (1, [.ref q_nt, .ref q_kn, .ref q_fi, .int (nI (cK n t 0))])), (q_kn, .inl (cI, 8, .inl (aN kd9))), (q_fi, .inl (cI, 8, .inl (aN fi9))), (q_nt, .inr (2, [.ref q_en, .ref q_ba, .ref q_de, .int (nI n), .int (nI (prs t))])), (q_en, .inl (cI, 32, .inl (aE t))), (q_ba, .inl (cZ, 32, .inl (aB w))), (q_de, .inl (cI, 8, .inl (aN (dg t))))] := (congrArg (fun z9 : Nat => va_D A [(q_lk, .inr (1, [.ref q_nt, .ref q_kn, .ref q_fi, .int (nI z9)])), (q_kn, .inl (cI, 8, .inl (aN kd9))), (q_fi, .inl (cI, 8, .inl (aN fi9))), (q_nt, .inr (2, [.ref q_en, .ref q_ba, .ref q_de, .int (nI n), .int (nI (prs t))])), (q_en, .inl (cI, 32, .inl (aE t))), (q_ba, .inl (cZ, 32, .inl (aB w))), (q_de, .inl (cI, 8, .inl (aN (dg t))))]) ec_ct).mp hD9
      exact W.vret hx hb hr (fun t ht hW => ⟨⟨(kd9, fi9), rfl, po0, by rw [ht]; exact hP9, hD9⟩, hS.F ht⟩) hS.2.2 dX1_lookAtDegrees_29
    · replace hw := hwf cc
      refine lv_aload_n hx hb dX1_lookAtDegrees_11 rfl (lv_at hl 0 rfl) ?_
      refine va_get (D := D) (ci := 1) (v := .ref q_kn) (C := RX1) (T := TX1) (N := 4) hx hb hts i_X1_lookAtDegrees_X1 hown hZ.1 hP 0 rfl rfl 1 (by decide) (hts _ m_X1_lookAtDegrees_f9) (fun _ h9 => h9) rfl dX1_lookAtDegrees_12 ?_
      refine lv_iload_n hx hb dX1_lookAtDegrees_15 rfl (lv_at hl 1 rfl) ?_
      refine lv_iconst (v := nI 0) hx hb dX1_lookAtDegrees_16 (by decide +kernel) ?_
      obtain ⟨zh10, hw⟩ := hw
      refine z_iast hx hb hZ.1 hP hD hS 1 0 rfl rfl zh10 (by decide) (g := aN (upN c_kn v1 0)) (aN_up _ _ _) dX1_lookAtDegrees_17 (fun H locs hP hD hS => ?_)
      have hP : va_P D vwCl [(q_lk, .inr (1, [.ref q_nt, .ref q_kn, .ref q_fi, .int (nI c_ct)])), (q_kn, .inl (cI, 8, .inl (aN (upN c_kn v1 0)))), (q_fi, .inl (cI, 8, .inl (aN c_fi))), (q_nt, .inr (2, [.ref q_en, .ref q_ba, .ref q_de, .int (nI n), .int (nI (prs t))])), (q_en, .inl (cI, 32, .inl (aE t))), (q_ba, .inl (cZ, 32, .inl (aB w))), (q_de, .inl (cI, 8, .inl (aN (dg t))))] H := hP
      have hD : va_D A [(q_lk, .inr (1, [.ref q_nt, .ref q_kn, .ref q_fi, .int (nI c_ct)])), (q_kn, .inl (cI, 8, .inl (aN (upN c_kn v1 0)))), (q_fi, .inl (cI, 8, .inl (aN c_fi))), (q_nt, .inr (2, [.ref q_en, .ref q_ba, .ref q_de, .int (nI n), .int (nI (prs t))])), (q_en, .inl (cI, 32, .inl (aE t))), (q_ba, .inl (cZ, 32, .inl (aB w))), (q_de, .inl (cI, 8, .inl (aN (dg t))))] := hD
      refine lv_iinc (v := nI (v1 + 1)) (lv' := [(1, .int (nI (v1 + 1))), (0, .ref q_lk)]) hx hb dX1_lookAtDegrees_18 hl (k := 1) rfl (by rw [show Int32.ofInt 1 = nI 1 from by decide +kernel]; exact nI_add _ _) (by decide) rfl (fun ls hl => ?_)
      refine lv_goto (tgt := 2) hx hb dX1_lookAtDegrees_21 (by decide) ?_
      have hP9 : va_P D vwCl [(q_lk, .inr (1, [.ref q_nt, .ref q_kn, .ref q_fi, .int (nI c_ct)])), (q_kn, .inl (cI, 8, .inl (aN (upN c_kn v1 0)))), (q_fi, .inl (cI, 8, .inl (aN c_fi))), (q_nt, .inr (2, [.ref q_en, .ref q_ba, .ref q_de, .int (nI n), .int (nI (prs t))])), (q_en, .inl (cI, 32, .inl (aE t))), (q_ba, .inl (cZ, 32, .inl (aB w))), (q_de, .inl (cI, 8, .inl (aN (dg t))))] H := hP.sub [0, 1, 2, 3, 4, 5, 6] rfl
      have hD9 : va_D A [(q_lk, .inr (1, [.ref q_nt, .ref q_kn, .ref q_fi, .int (nI c_ct)])), (q_kn, .inl (cI, 8, .inl (aN (upN c_kn v1 0)))), (q_fi, .inl (cI, 8, .inl (aN c_fi))), (q_nt, .inr (2, [.ref q_en, .ref q_ba, .ref q_de, .int (nI n), .int (nI (prs t))])), (q_en, .inl (cI, 32, .inl (aE t))), (q_ba, .inl (cZ, 32, .inl (aB w))), (q_de, .inl (cI, 8, .inl (aN (dg t))))] := hD.sub [0, 1, 2, 3, 4, 5, 6] (by decide) rfl
      exact ((hX2 _ _ _ _).mp hw) _ _ hP9 hD9 hS ls (lv_sub hl [1, 0] rfl)
  have hw := vw X2 b2
  unfold B_X1_lookAtDegrees_in at hw
  refine lv_iconst (v := nI 0) hx hb dX1_lookAtDegrees_0 (by decide +kernel) ?_
  refine lv_istore_n (lv' := [(1, .int (nI 0)), (0, .ref q_lk)]) hx hb dX1_lookAtDegrees_1 rfl hl (by decide) rfl (fun ls hl => ?_)
  have hP9 : va_P D vwCl [(q_lk, .inr (1, [.ref q_nt, .ref q_kn, .ref q_fi, .int (nI ct)])), (q_kn, .inl (cI, 8, .inl (aN kd))), (q_fi, .inl (cI, 8, .inl (aN fi))), (q_nt, .inr (2, [.ref q_en, .ref q_ba, .ref q_de, .int (nI n), .int (nI (prs t))])), (q_en, .inl (cI, 32, .inl (aE t))), (q_ba, .inl (cZ, 32, .inl (aB w))), (q_de, .inl (cI, 8, .inl (aN (dg t))))] zs.heap := hP.sub [0, 1, 2, 3, 4, 5, 6] rfl
  have hD9 : va_D A [(q_lk, .inr (1, [.ref q_nt, .ref q_kn, .ref q_fi, .int (nI ct)])), (q_kn, .inl (cI, 8, .inl (aN kd))), (q_fi, .inl (cI, 8, .inl (aN fi))), (q_nt, .inr (2, [.ref q_en, .ref q_ba, .ref q_de, .int (nI n), .int (nI (prs t))])), (q_en, .inl (cI, 32, .inl (aE t))), (q_ba, .inl (cZ, 32, .inl (aB w))), (q_de, .inl (cI, 8, .inl (aN (dg t))))] := hD.sub [0, 1, 2, 3, 4, 5, 6] (by decide) rfl
  exact ((hX2 _ _ _ _).mp hw) _ _ hP9 hD9 hS ls (lv_sub hl [1, 0] rfl)
set_option maxRecDepth 100000 in
set_option maxHeartbeats 4000000 in
theorem w_X1_lookDeeper {l : Launch} {D : va_G} {cI cZ : ClassId} (k_X1_split : K_X1_split l D cI cZ) (vv : V_X1_lookDeeper) : K_X1_lookDeeper l D cI cZ := by
  intro q_lk q_kn q_fi q_nt q_en q_ba q_de sz kd fi ct n t w k hpre0 hpre1 hpre2
  have vw := vv kd fi ct n t w k hpre0 hpre1 hpre2
  refine Met.ofW (cc := cX1_lookDeeper) (maxL := 1) (ret := none) (by decide) rfl ?_
  intro zp ze zs zm zargs zbelow zmeth zc zs1 B hml hv
  obtain ⟨rfl, hsz, hZ, hP, hD0⟩ := hv
  have hx := B.exec
  have hb := B.bytes
  have hr := B.returns
  have hts := atoms_spec (ws := wsX1_lookDeeper) B.pre
  have hown : zs.vm.findClass RX1 = some zm.cls := findClass_of_methodNamed B.named
  have hlocks := B.notSynchronized
  subst hsz
  have hD := hD0.self (sz := zs.heap.size)
  generalize hAe : va_A [(q_lk, .inr (1, [.ref q_nt, .ref q_kn, .ref q_fi, .int (nI ct)])), (q_kn, .inl (cI, 8, .inl (aN kd))), (q_fi, .inl (cI, 8, .inl (aN fi))), (q_nt, .inr (2, [.ref q_en, .ref q_ba, .ref q_de, .int (nI n), .int (nI (prs t))])), (q_en, .inl (cI, 32, .inl (aE t))), (q_ba, .inl (cZ, 32, .inl (aB w))), (q_de, .inl (cI, 8, .inl (aN (dg t))))] zs.heap.size = A at hD ⊢
  have hA : ∀ q : Nat, zs.heap.size ≤ q → A q := fun q h => by rw [← hAe]; exact Or.inr h
  have hS : va_S A zs.heap zs.heap [] := va_S.rf
  have hP : va_P D vwCl [(q_lk, .inr (1, [.ref q_nt, .ref q_kn, .ref q_fi, .int (nI ct)])), (q_kn, .inl (cI, 8, .inl (aN kd))), (q_fi, .inl (cI, 8, .inl (aN fi))), (q_nt, .inr (2, [.ref q_en, .ref q_ba, .ref q_de, .int (nI n), .int (nI (prs t))])), (q_en, .inl (cI, 32, .inl (aE t))), (q_ba, .inl (cZ, 32, .inl (aB w))), (q_de, .inl (cI, 8, .inl (aN (dg t))))] zs.heap := hP
  have hl := lv_entry ([.ref q_lk]) (n := 1) (Nat.le_of_ble_eq_true rfl)
  rw [lg_entry_eq]
  generalize (lg_sl ([.ref q_lk]) ++ List.replicate (1 - (lg_sl ([.ref q_lk])).length) Slot.unset).toArray = ls at hl ⊢
  have hl : lv_has ls 1 [(0, .ref q_lk)] := hl
  have hw := vw
  unfold B_X1_lookDeeper_in at hw
  refine lv_aload_n hx hb dX1_lookDeeper_0 rfl (lv_at hl 0 rfl) ?_
  refine lv_iconst (v := nI 0) hx hb dX1_lookDeeper_1 (by decide +kernel) ?_
  refine z_st (st' := [.int (bI false), .ref q_lk]) (by first | rfl | simp only []) ?_
  obtain ⟨zh1, hw⟩ := hw
  obtain ⟨zh2, hw⟩ := hw
  obtain ⟨zh3, hw⟩ := hw
  obtain ⟨zh4, hw⟩ := hw
  have hPc : va_P D vwCl [(q_lk, .inr (1, [.ref q_nt, .ref q_kn, .ref q_fi, .int (nI ct)])), (q_kn, .inl (cI, 8, .inl (aN kd))), (q_fi, .inl (cI, 8, .inl (aN fi))), (q_nt, .inr (2, [.ref q_en, .ref q_ba, .ref q_de, .int (nI n), .int (nI (prs t))])), (q_en, .inl (cI, 32, .inl (aE t))), (q_ba, .inl (cZ, 32, .inl (aB w))), (q_de, .inl (cI, 8, .inl (aN (dg t))))] zs.heap := hP.sub [0, 1, 2, 3, 4, 5, 6] rfl
  have hDc : va_D A [(q_lk, .inr (1, [.ref q_nt, .ref q_kn, .ref q_fi, .int (nI ct)])), (q_kn, .inl (cI, 8, .inl (aN kd))), (q_fi, .inl (cI, 8, .inl (aN fi))), (q_nt, .inr (2, [.ref q_en, .ref q_ba, .ref q_de, .int (nI n), .int (nI (prs t))])), (q_en, .inl (cI, 32, .inl (aE t))), (q_ba, .inl (cZ, 32, .inl (aB w))), (q_de, .inl (cI, 8, .inl (aN (dg t))))] := hD.sub [0, 1, 2, 3, 4, 5, 6] (by decide) rfl
  have hFc := va_free (wc := [(q_lk, .inr (1, [.ref q_nt, .ref q_kn, .ref q_fi, .int (nI ct)])), (q_kn, .inl (cI, 8, .inl (aN kd))), (q_fi, .inl (cI, 8, .inl (aN fi))), (q_nt, .inr (2, [.ref q_en, .ref q_ba, .ref q_de, .int (nI n), .int (nI (prs t))])), (q_en, .inl (cI, 32, .inl (aE t))), (q_ba, .inl (cZ, 32, .inl (aB w))), (q_de, .inl (cI, 8, .inl (aN (dg t))))]) hD hS hA [0, 1, 2, 3, 4, 5, 6] rfl
  refine va_callv (va_runV (As := [.int (bI false)]) (rest := []) ⟨hx, hb, hml, hown, hts⟩ (k_X1_split q_lk q_kn q_fi q_nt q_en q_ba q_de zs.heap.size kd fi ct n t w false zh1 zh2 zh3 zh4) (cwV 1 hts gX1_lookDeeper_X1_split rfl rfl rfl (by decide +kernel) ⟨Nat.le_of_ble_eq_true rfl, Nat.le_of_ble_eq_true rfl⟩) (zPw_V hZ hPc (hDc.weaken (fun _ _ _ _ => trivial)) 0 rfl rfl) rfl rfl hl.1 rfl (lv_room (Nat.le_of_ble_eq_true rfl)) dX1_lookDeeper_2 ⟨Nat.zero_le _, Nat.zero_le _⟩) hS (fun q _ h => hFc q h) hFc (fun zu zt H1 locs1 ht hvm hq hB hz1 hk1 hS => ?_)
  obtain ⟨zkd95, zfi96⟩ := zu
  have zp7 := hq
  obtain ⟨hP1, hD1⟩ := hB
  rw [ht] at hP1
  replace hw := hw zkd95 zfi96 zp7
  obtain ⟨hP, hD⟩ := va_join (wr := []) (w1 := [(q_lk, .inr (1, [.ref q_nt, .ref q_kn, .ref q_fi, .int (nI (cnn (rel t kd false) n))])), (q_kn, .inl (cI, 8, .inl (aN zkd95))), (q_fi, .inl (cI, 8, .inl (aN zfi96))), (q_nt, .inr (2, [.ref q_en, .ref q_ba, .ref q_de, .int (nI n), .int (nI (prs t))])), (q_en, .inl (cI, 32, .inl (aE t))), (q_ba, .inl (cZ, 32, .inl (aB w))), (q_de, .inl (cI, 8, .inl (aN (dg t))))]) hP hD [0, 1, 2, 3, 4, 5, 6] [] rfl rfl (by decide) (by decide) hk1 hFc hP1 hD1
  have hP : va_P D vwCl [(q_lk, .inr (1, [.ref q_nt, .ref q_kn, .ref q_fi, .int (nI (cnn (rel t kd false) n))])), (q_kn, .inl (cI, 8, .inl (aN zkd95))), (q_fi, .inl (cI, 8, .inl (aN zfi96))), (q_nt, .inr (2, [.ref q_en, .ref q_ba, .ref q_de, .int (nI n), .int (nI (prs t))])), (q_en, .inl (cI, 32, .inl (aE t))), (q_ba, .inl (cZ, 32, .inl (aB w))), (q_de, .inl (cI, 8, .inl (aN (dg t))))] H1 := hP
  have hD : va_D A [(q_lk, .inr (1, [.ref q_nt, .ref q_kn, .ref q_fi, .int (nI (cnn (rel t kd false) n))])), (q_kn, .inl (cI, 8, .inl (aN zkd95))), (q_fi, .inl (cI, 8, .inl (aN zfi96))), (q_nt, .inr (2, [.ref q_en, .ref q_ba, .ref q_de, .int (nI n), .int (nI (prs t))])), (q_en, .inl (cI, 32, .inl (aE t))), (q_ba, .inl (cZ, 32, .inl (aB w))), (q_de, .inl (cI, 8, .inl (aN (dg t))))] := hD
  clear hP1 hD1 hk1 hz1 hFc hDc hPc ht hvm
  obtain ⟨kd9, fi9, po0, ec_kn, ec_fi, ec_ct⟩ := hw
  have hP9 : va_P D vwCl [(q_lk, .inr (1, [.ref q_nt, .ref q_kn, .ref q_fi, .int (nI (cnn (rel t kd false) n))])), (q_kn, .inl (cI, 8, .inl (aN zkd95))), (q_fi, .inl (cI, 8, .inl (aN zfi96))), (q_nt, .inr (2, [.ref q_en, .ref q_ba, .ref q_de, .int (nI n), .int (nI (prs t))])), (q_en, .inl (cI, 32, .inl (aE t))), (q_ba, .inl (cZ, 32, .inl (aB w))), (q_de, .inl (cI, 8, .inl (aN (dg t))))] H1 := hP.sub [0, 1, 2, 3, 4, 5, 6] rfl
  have hD9 : va_D A [(q_lk, .inr (1, [.ref q_nt, .ref q_kn, .ref q_fi, .int (nI (cnn (rel t kd false) n))])), (q_kn, .inl (cI, 8, .inl (aN zkd95))), (q_fi, .inl (cI, 8, .inl (aN zfi96))), (q_nt, .inr (2, [.ref q_en, .ref q_ba, .ref q_de, .int (nI n), .int (nI (prs t))])), (q_en, .inl (cI, 32, .inl (aE t))), (q_ba, .inl (cZ, 32, .inl (aB w))), (q_de, .inl (cI, 8, .inl (aN (dg t))))] := hD.sub [0, 1, 2, 3, 4, 5, 6] (by decide) rfl
  have hP9 : va_P D vwCl [(q_lk, .inr (1, [.ref q_nt, .ref q_kn, .ref q_fi, .int (nI (cnn (rel t kd false) n))])), (q_kn, .inl (cI, 8, .inl (aN kd9))), (q_fi, .inl (cI, 8, .inl (aN zfi96))), (q_nt, .inr (2, [.ref q_en, .ref q_ba, .ref q_de, .int (nI n), .int (nI (prs t))])), (q_en, .inl (cI, 32, .inl (aE t))), (q_ba, .inl (cZ, 32, .inl (aB w))), (q_de, .inl (cI, 8, .inl (aN (dg t))))] H1 := z_arr hP9 1 rfl (fun zi hi => congrArg nI (ec_kn zi hi))
  have hD9 : va_D A [(q_lk, .inr (1, [.ref q_nt, .ref q_kn, .ref q_fi, .int (nI (cnn (rel t kd false) n))])), (q_kn, .inl (cI, 8, .inl (aN kd9))), (q_fi, .inl (cI, 8, .inl (aN zfi96))), (q_nt, .inr (2, [.ref q_en, .ref q_ba, .ref q_de, .int (nI n), .int (nI (prs t))])), (q_en, .inl (cI, 32, .inl (aE t))), (q_ba, .inl (cZ, 32, .inl (aB w))), (q_de, .inl (cI, 8, .inl (aN (dg t))))] := hD9.set (p := 1) (e := .inl (cI, 8, .inl (aN kd9))) rfl
  have hP9 : va_P D vwCl [(q_lk, .inr (1, [.ref q_nt, .ref q_kn, .ref q_fi, .int (nI (cnn (rel t kd false) n))])), (q_kn, .inl (cI, 8, .inl (aN kd9))), (q_fi, .inl (cI, 8, .inl (aN fi9))), (q_nt, .inr (2, [.ref q_en, .ref q_ba, .ref q_de, .int (nI n), .int (nI (prs t))])), (q_en, .inl (cI, 32, .inl (aE t))), (q_ba, .inl (cZ, 32, .inl (aB w))), (q_de, .inl (cI, 8, .inl (aN (dg t))))] H1 := z_arr hP9 2 rfl (fun zi hi => congrArg nI (ec_fi zi hi))
  have hD9 : va_D A [(q_lk, .inr (1, [.ref q_nt, .ref q_kn, .ref q_fi, .int (nI (cnn (rel t kd false) n))])), (q_kn, .inl (cI, 8, .inl (aN kd9))), (q_fi, .inl (cI, 8, .inl (aN fi9))), (q_nt, .inr (2, [.ref q_en, .ref q_ba, .ref q_de, .int (nI n), .int (nI (prs t))])), (q_en, .inl (cI, 32, .inl (aE t))), (q_ba, .inl (cZ, 32, .inl (aB w))), (q_de, .inl (cI, 8, .inl (aN (dg t))))] := hD9.set (p := 2) (e := .inl (cI, 8, .inl (aN fi9))) rfl
  have hP9 : va_P D vwCl [(q_lk, .inr (1, [.ref q_nt, .ref q_kn, .ref q_fi, .int (nI (cK n t (k + 1)))])), (q_kn, .inl (cI, 8, .inl (aN kd9))), (q_fi, .inl (cI, 8, .inl (aN fi9))), (q_nt, .inr (2, [.ref q_en, .ref q_ba, .ref q_de, .int (nI n), .int (nI (prs t))])), (q_en, .inl (cI, 32, .inl (aE t))), (q_ba, .inl (cZ, 32, .inl (aB w))), (q_de, .inl (cI, 8, .inl (aN (dg t))))] H1 := (congrArg (fun z9 : Nat => va_P D vwCl [(q_lk, .inr (1, [.ref q_nt, .ref q_kn, .ref q_fi, .int (nI z9)])), (q_kn, .inl (cI, 8, .inl (aN kd9))), (q_fi, .inl (cI, 8, .inl (aN fi9))), (q_nt, .inr (2, [.ref q_en, .ref q_ba, .ref q_de, .int (nI n), .int (nI (prs t))])), (q_en, .inl (cI, 32, .inl (aE t))), (q_ba, .inl (cZ, 32, .inl (aB w))), (q_de, .inl (cI, 8, .inl (aN (dg t))))] H1) ec_ct).mp hP9
  have hD9 : va_D A [(q_lk, .inr (1, [.ref q_nt, .ref q_kn, .ref q_fi, .int (nI (cK n t (k + 1)))])), (q_kn, .inl (cI, 8, .inl (aN kd9))), (q_fi, .inl (cI, 8, .inl (aN fi9))), (q_nt, .inr (2, [.ref q_en, .ref q_ba, .ref q_de, .int (nI n), .int (nI (prs t))])), (q_en, .inl (cI, 32, .inl (aE t))), (q_ba, .inl (cZ, 32, .inl (aB w))), (q_de, .inl (cI, 8, .inl (aN (dg t))))] := (congrArg (fun z9 : Nat => va_D A [(q_lk, .inr (1, [.ref q_nt, .ref q_kn, .ref q_fi, .int (nI z9)])), (q_kn, .inl (cI, 8, .inl (aN kd9))), (q_fi, .inl (cI, 8, .inl (aN fi9))), (q_nt, .inr (2, [.ref q_en, .ref q_ba, .ref q_de, .int (nI n), .int (nI (prs t))])), (q_en, .inl (cI, 32, .inl (aE t))), (q_ba, .inl (cZ, 32, .inl (aB w))), (q_de, .inl (cI, 8, .inl (aN (dg t))))]) ec_ct).mp hD9
  exact W.vret hx hb hr (fun t ht hW => ⟨⟨(kd9, fi9), rfl, po0, by rw [ht]; exact hP9, hD9⟩, hS.F ht⟩) hS.2.2 dX1_lookDeeper_5
theorem m_X1_lookTo_f25 : Cond.fieldLink RX1 25 "NetWalkers$Looks" "count" "I" ∈ wsX1_lookTo := by decide +kernel
theorem i_X1_lookTo_X1 : ∀ w ∈ wsX10, w ∈ wsX1_lookTo := by decide +kernel
set_option maxRecDepth 100000 in
set_option maxHeartbeats 4000000 in
theorem w_X1_lookTo {l : Launch} {D : va_G} {cI cZ : ClassId} (k_X1_lookDeeper : K_X1_lookDeeper l D cI cZ) (k_X1_lookAtDegrees : K_X1_lookAtDegrees l D cI cZ) (vv : V_X1_lookTo) : K_X1_lookTo l D cI cZ := by
  intro q_lk q_kn q_fi q_nt q_en q_ba q_de sz kd fi ct n t w d hpre0 hpre1 hpre2
  have vw := vv kd fi ct n t w d hpre0 hpre1 hpre2
  refine Met.ofW (cc := cX1_lookTo) (maxL := 4) (ret := (some .int)) (by decide) rfl ?_
  intro zp ze zs zm zargs zbelow zmeth zc zs1 B hml hv
  obtain ⟨rfl, hsz, hZ, hP, hD0⟩ := hv
  have hx := B.exec
  have hb := B.bytes
  have hr := B.returns
  have hts := atoms_spec (ws := wsX1_lookTo) B.pre
  have hown : zs.vm.findClass RX1 = some zm.cls := findClass_of_methodNamed B.named
  have hlocks := B.notSynchronized
  subst hsz
  have hD := hD0.self (sz := zs.heap.size)
  generalize hAe : va_A [(q_lk, .inr (1, [.ref q_nt, .ref q_kn, .ref q_fi, .int (nI ct)])), (q_kn, .inl (cI, 8, .inl (aN kd))), (q_fi, .inl (cI, 8, .inl (aN fi))), (q_nt, .inr (2, [.ref q_en, .ref q_ba, .ref q_de, .int (nI n), .int (nI (prs t))])), (q_en, .inl (cI, 32, .inl (aE t))), (q_ba, .inl (cZ, 32, .inl (aB w))), (q_de, .inl (cI, 8, .inl (aN (dg t))))] zs.heap.size = A at hD ⊢
  have hA : ∀ q : Nat, zs.heap.size ≤ q → A q := fun q h => by rw [← hAe]; exact Or.inr h
  have hS : va_S A zs.heap zs.heap [] := va_S.rf
  have hP : va_P D vwCl [(q_lk, .inr (1, [.ref q_nt, .ref q_kn, .ref q_fi, .int (nI ct)])), (q_kn, .inl (cI, 8, .inl (aN kd))), (q_fi, .inl (cI, 8, .inl (aN fi))), (q_nt, .inr (2, [.ref q_en, .ref q_ba, .ref q_de, .int (nI n), .int (nI (prs t))])), (q_en, .inl (cI, 32, .inl (aE t))), (q_ba, .inl (cZ, 32, .inl (aB w))), (q_de, .inl (cI, 8, .inl (aN (dg t))))] zs.heap := hP
  have hl := lv_entry ([.ref q_lk, .int (nI d)]) (n := 4) (Nat.le_of_ble_eq_true rfl)
  rw [lg_entry_eq]
  generalize (lg_sl ([.ref q_lk, .int (nI d)]) ++ List.replicate (4 - (lg_sl ([.ref q_lk, .int (nI d)])).length) Slot.unset).toArray = ls at hl ⊢
  have hl : lv_has ls 4 [(0, .ref q_lk), (1, .int (nI d))] := hl
  obtain ⟨X6, hX6⟩ : ∃ X : Nat → (Nat → Nat) → (Nat → Nat) → Nat → Prop, ∀ (v2 : Nat) (c_kn : Nat → Nat) (c_fi : Nat → Nat) (c_ct : Nat), X v2 c_kn c_fi c_ct ↔ (∀ (H : Heap) (locs : List Loc), va_P D vwCl [(q_lk, .inr (1, [.ref q_nt, .ref q_kn, .ref q_fi, .int (nI c_ct)])), (q_kn, .inl (cI, 8, .inl (aN c_kn))), (q_fi, .inl (cI, 8, .inl (aN c_fi))), (q_nt, .inr (2, [.ref q_en, .ref q_ba, .ref q_de, .int (nI n), .int (nI (prs t))])), (q_en, .inl (cI, 32, .inl (aE t))), (q_ba, .inl (cZ, 32, .inl (aB w))), (q_de, .inl (cI, 8, .inl (aN (dg t))))] H → va_D A [(q_lk, .inr (1, [.ref q_nt, .ref q_kn, .ref q_fi, .int (nI c_ct)])), (q_kn, .inl (cI, 8, .inl (aN c_kn))), (q_fi, .inl (cI, 8, .inl (aN c_fi))), (q_nt, .inr (2, [.ref q_en, .ref q_ba, .ref q_de, .int (nI n), .int (nI (prs t))])), (q_en, .inl (cI, 32, .inl (aE t))), (q_ba, .inl (cZ, 32, .inl (aB w))), (q_de, .inl (cI, 8, .inl (aN (dg t))))] → va_S A zs.heap H locs → ∀ ls : Array Slot, lv_has ls 4 [(0, .ref q_lk), (1, .int (nI d)), (2, .int (nI v2))] → W zp l ze (headSpec wsX1_lookTo ({ frames := 5, cells := 0, slots := 0, locals := 113 } : Room)).room zs zm ([.ref q_lk, .int (nI d)] : List Value).toArray zbelow zmeth zc H locs 0 0 (MQ zbelow (va_Qi (S := (Nat → Nat) × (Nat → Nat)) (fun zr zu => (∀ i, i < n → zu.1 i = kK n t d i) ∧ zr = nI (dpF n t d 0)) (fun (zu : (Nat → Nat) × (Nat → Nat)) zt => va_P D vwCl [(q_lk, .inr (1, [.ref q_nt, .ref q_kn, .ref q_fi, .int (nI (cK n t d))])), (q_kn, .inl (cI, 8, .inl (aN zu.1))), (q_fi, .inl (cI, 8, .inl (aN zu.2))), (q_nt, .inr (2, [.ref q_en, .ref q_ba, .ref q_de, .int (nI n), .int (nI (prs t))])), (q_en, .inl (cI, 32, .inl (aE t))), (q_ba, .inl (cZ, 32, .inl (aB w))), (q_de, .inl (cI, 8, .inl (aN (dg t))))] zt.heap ∧ va_D A [(q_lk, .inr (1, [.ref q_nt, .ref q_kn, .ref q_fi, .int (nI (cK n t d))])), (q_kn, .inl (cI, 8, .inl (aN zu.1))), (q_fi, .inl (cI, 8, .inl (aN zu.2))), (q_nt, .inr (2, [.ref q_en, .ref q_ba, .ref q_de, .int (nI n), .int (nI (prs t))])), (q_en, .inl (cI, 32, .inl (aE t))), (q_ba, .inl (cZ, 32, .inl (aB w))), (q_de, .inl (cI, 8, .inl (aN (dg t))))]) A) ([.ref q_lk, .int (nI d)] : List Value).toArray zs 0 0 A) (F0 zm 6 ls [])) := ⟨_, fun _ _ _ _ => Iff.rfl⟩
  have b6 : ∀ (v2 : Nat) (c_kn : Nat → Nat) (c_fi : Nat → Nat) (c_ct : Nat), B_X1_lookTo_6 kd fi ct n t w d X6 v2 c_kn c_fi c_ct → X6 v2 c_kn c_fi c_ct := by
    intro v2 c_kn c_fi c_ct hw
    rw [hX6]
    intro H locs hP hD hS ls hl
    unfold B_X1_lookTo_6 at hw
    refine lv_iload_n hx hb dX1_lookTo_6 rfl (lv_at hl 2 rfl) ?_
    refine lv_iload_n hx hb dX1_lookTo_7 rfl (lv_at hl 1 rfl) ?_
    obtain ⟨zh1, hw⟩ := hw
    obtain ⟨zh2, hw⟩ := hw
    obtain ⟨hwt, hwf⟩ := hw
    refine z_icmp_ge hx hb zh1 zh2 (tgt := 36) dX1_lookTo_8 (by decide) (fun cc => ?_) (fun cc => ?_)
    · replace hw := hwt cc
      refine lv_iload_n hx hb dX1_lookTo_36 rfl (lv_at hl 1 rfl) ?_
      obtain ⟨kd9, fi9, po0, er, ec_kn, ec_fi, ec_ct⟩ := hw
      have hP9 : va_P D vwCl [(q_lk, .inr (1, [.ref q_nt, .ref q_kn, .ref q_fi, .int (nI c_ct)])), (q_kn, .inl (cI, 8, .inl (aN c_kn))), (q_fi, .inl (cI, 8, .inl (aN c_fi))), (q_nt, .inr (2, [.ref q_en, .ref q_ba, .ref q_de, .int (nI n), .int (nI (prs t))])), (q_en, .inl (cI, 32, .inl (aE t))), (q_ba, .inl (cZ, 32, .inl (aB w))), (q_de, .inl (cI, 8, .inl (aN (dg t))))] H := hP.sub [0, 1, 2, 3, 4, 5, 6] rfl
      have hD9 : va_D A [(q_lk, .inr (1, [.ref q_nt, .ref q_kn, .ref q_fi, .int (nI c_ct)])), (q_kn, .inl (cI, 8, .inl (aN c_kn))), (q_fi, .inl (cI, 8, .inl (aN c_fi))), (q_nt, .inr (2, [.ref q_en, .ref q_ba, .ref q_de, .int (nI n), .int (nI (prs t))])), (q_en, .inl (cI, 32, .inl (aE t))), (q_ba, .inl (cZ, 32, .inl (aB w))), (q_de, .inl (cI, 8, .inl (aN (dg t))))] := hD.sub [0, 1, 2, 3, 4, 5, 6] (by decide) rfl
      have hP9 : va_P D vwCl [(q_lk, .inr (1, [.ref q_nt, .ref q_kn, .ref q_fi, .int (nI c_ct)])), (q_kn, .inl (cI, 8, .inl (aN kd9))), (q_fi, .inl (cI, 8, .inl (aN c_fi))), (q_nt, .inr (2, [.ref q_en, .ref q_ba, .ref q_de, .int (nI n), .int (nI (prs t))])), (q_en, .inl (cI, 32, .inl (aE t))), (q_ba, .inl (cZ, 32, .inl (aB w))), (q_de, .inl (cI, 8, .inl (aN (dg t))))] H := z_arr hP9 1 rfl (fun zi hi => congrArg nI (ec_kn zi hi))
      have hD9 : va_D A [(q_lk, .inr (1, [.ref q_nt, .ref q_kn, .ref q_fi, .int (nI c_ct)])), (q_kn, .inl (cI, 8, .inl (aN kd9))), (q_fi, .inl (cI, 8, .inl (aN c_fi))), (q_nt, .inr (2, [.ref q_en, .ref q_ba, .ref q_de, .int (nI n), .int (nI (prs t))])), (q_en, .inl (cI, 32, .inl (aE t))), (q_ba, .inl (cZ, 32, .inl (aB w))), (q_de, .inl (cI, 8, .inl (aN (dg t))))] := hD9.set (p := 1) (e := .inl (cI, 8, .inl (aN kd9))) rfl
      have hP9 : va_P D vwCl [(q_lk, .inr (1, [.ref q_nt, .ref q_kn, .ref q_fi, .int (nI c_ct)])), (q_kn, .inl (cI, 8, .inl (aN kd9))), (q_fi, .inl (cI, 8, .inl (aN fi9))), (q_nt, .inr (2, [.ref q_en, .ref q_ba, .ref q_de, .int (nI n), .int (nI (prs t))])), (q_en, .inl (cI, 32, .inl (aE t))), (q_ba, .inl (cZ, 32, .inl (aB w))), (q_de, .inl (cI, 8, .inl (aN (dg t))))] H := z_arr hP9 2 rfl (fun zi hi => congrArg nI (ec_fi zi hi))
      have hD9 : va_D A [(q_lk, .inr (1, [.ref q_nt, .ref q_kn, .ref q_fi, .int (nI c_ct)])), (q_kn, .inl (cI, 8, .inl (aN kd9))), (q_fi, .inl (cI, 8, .inl (aN fi9))), (q_nt, .inr (2, [.ref q_en, .ref q_ba, .ref q_de, .int (nI n), .int (nI (prs t))])), (q_en, .inl (cI, 32, .inl (aE t))), (q_ba, .inl (cZ, 32, .inl (aB w))), (q_de, .inl (cI, 8, .inl (aN (dg t))))] := hD9.set (p := 2) (e := .inl (cI, 8, .inl (aN fi9))) rfl
      have hP9 : va_P D vwCl [(q_lk, .inr (1, [.ref q_nt, .ref q_kn, .ref q_fi, .int (nI (cK n t d))])), (q_kn, .inl (cI, 8, .inl (aN kd9))), (q_fi, .inl (cI, 8, .inl (aN fi9))), (q_nt, .inr (2, [.ref q_en, .ref q_ba, .ref q_de, .int (nI n), .int (nI (prs t))])), (q_en, .inl (cI, 32, .inl (aE t))), (q_ba, .inl (cZ, 32, .inl (aB w))), (q_de, .inl (cI, 8, .inl (aN (dg t))))] H := (congrArg (fun z9 : Nat => va_P D vwCl [(q_lk, .inr (1, [.ref q_nt, .ref q_kn, .ref q_fi, .int (nI z9)])), (q_kn, .inl (cI, 8, .inl (aN kd9))), (q_fi, .inl (cI, 8, .inl (aN fi9))), (q_nt, .inr (2, [.ref q_en, .ref q_ba, .ref q_de, .int (nI n), .int (nI (prs t))])), (q_en, .inl (cI, 32, .inl (aE t))), (q_ba, .inl (cZ, 32, .inl (aB w))), (q_de, .inl (cI, 8, .inl (aN (dg t))))] H) ec_ct).mp hP9
      have hD9 : va_D A [(q_lk, .inr (1, [.ref q_nt, .ref q_kn, .ref q_fi, .int (nI (cK n t d))])), (q_kn, .inl (cI, 8, .inl (aN kd9))), (q_fi, .inl (cI, 8, .inl (aN fi9))), (q_nt, .inr (2, [.ref q_en, .ref q_ba, .ref q_de, .int (nI n), .int (nI (prs t))])), (q_en, .inl (cI, 32, .inl (aE t))), (q_ba, .inl (cZ, 32, .inl (aB w))), (q_de, .inl (cI, 8, .inl (aN (dg t))))] := (congrArg (fun z9 : Nat => va_D A [(q_lk, .inr (1, [.ref q_nt, .ref q_kn, .ref q_fi, .int (nI z9)])), (q_kn, .inl (cI, 8, .inl (aN kd9))), (q_fi, .inl (cI, 8, .inl (aN fi9))), (q_nt, .inr (2, [.ref q_en, .ref q_ba, .ref q_de, .int (nI n), .int (nI (prs t))])), (q_en, .inl (cI, 32, .inl (aE t))), (q_ba, .inl (cZ, 32, .inl (aB w))), (q_de, .inl (cI, 8, .inl (aN (dg t))))]) ec_ct).mp hD9
      exact W.iret (v := nI d) hx hb hr (fun t ht hW => ⟨⟨_, (kd9, fi9), rfl, ⟨po0, (congrArg nI er)⟩, by rw [ht]; exact hP9, hD9⟩, hS.F ht⟩) hS.2.2 dX1_lookTo_37
    · replace hw := hwf cc
      refine lv_aload_n hx hb dX1_lookTo_11 rfl (lv_at hl 0 rfl) ?_
      refine va_get (D := D) (ci := 1) (v := .int (nI c_ct)) (C := RX1) (T := TX1) (N := 4) hx hb hts i_X1_lookTo_X1 hown hZ.1 hP 0 rfl rfl 3 (by decide) (hts _ m_X1_lookTo_f25) (fun _ h9 => h9) rfl dX1_lookTo_12 ?_
      refine lv_istore_n (lv' := [(3, .int (nI c_ct)), (0, .ref q_lk), (1, .int (nI d)), (2, .int (nI v2))]) hx hb dX1_lookTo_15 rfl hl (by decide) rfl (fun ls hl => ?_)
      refine lv_aload_n hx hb dX1_lookTo_16 rfl (lv_at hl 1 rfl) ?_
      obtain ⟨zk3, hw⟩ := hw
      obtain ⟨zh4, hw⟩ := hw
      obtain ⟨zh5, hw⟩ := hw
      obtain ⟨zh6, hw⟩ := hw
      have hPc : va_P D vwCl [(q_lk, .inr (1, [.ref q_nt, .ref q_kn, .ref q_fi, .int (nI c_ct)])), (q_kn, .inl (cI, 8, .inl (aN c_kn))), (q_fi, .inl (cI, 8, .inl (aN c_fi))), (q_nt, .inr (2, [.ref q_en, .ref q_ba, .ref q_de, .int (nI n), .int (nI (prs t))])), (q_en, .inl (cI, 32, .inl (aE t))), (q_ba, .inl (cZ, 32, .inl (aB w))), (q_de, .inl (cI, 8, .inl (aN (dg t))))] H := hP.sub [0, 1, 2, 3, 4, 5, 6] rfl
      have hDc : va_D A [(q_lk, .inr (1, [.ref q_nt, .ref q_kn, .ref q_fi, .int (nI c_ct)])), (q_kn, .inl (cI, 8, .inl (aN c_kn))), (q_fi, .inl (cI, 8, .inl (aN c_fi))), (q_nt, .inr (2, [.ref q_en, .ref q_ba, .ref q_de, .int (nI n), .int (nI (prs t))])), (q_en, .inl (cI, 32, .inl (aE t))), (q_ba, .inl (cZ, 32, .inl (aB w))), (q_de, .inl (cI, 8, .inl (aN (dg t))))] := hD.sub [0, 1, 2, 3, 4, 5, 6] (by decide) rfl
      have hFc := va_free (wc := [(q_lk, .inr (1, [.ref q_nt, .ref q_kn, .ref q_fi, .int (nI c_ct)])), (q_kn, .inl (cI, 8, .inl (aN c_kn))), (q_fi, .inl (cI, 8, .inl (aN c_fi))), (q_nt, .inr (2, [.ref q_en, .ref q_ba, .ref q_de, .int (nI n), .int (nI (prs t))])), (q_en, .inl (cI, 32, .inl (aE t))), (q_ba, .inl (cZ, 32, .inl (aB w))), (q_de, .inl (cI, 8, .inl (aN (dg t))))]) hD hS hA [0, 1, 2, 3, 4, 5, 6] rfl
      refine va_callv (va_runV (As := []) (rest := []) ⟨hx, hb, hml, hown, hts⟩ (k_X1_lookDeeper q_lk q_kn q_fi q_nt q_en q_ba q_de H.size c_kn c_fi c_ct n t w zk3 zh4 zh5 zh6) (cwV 0 hts gX1_lookTo_X1_lookDeeper rfl rfl rfl (by decide +kernel) ⟨Nat.le_of_ble_eq_true rfl, Nat.le_of_ble_eq_true rfl⟩) (zPw_V hZ hPc (hDc.weaken (fun _ _ _ _ => trivial)) 0 rfl rfl) rfl rfl hl.1 rfl (lv_room (Nat.le_of_ble_eq_true rfl)) dX1_lookTo_17 ⟨Nat.zero_le _, Nat.zero_le _⟩) hS (fun q _ h => hFc q h) hFc (fun zu zt H1 locs1 ht hvm hq hB hz1 hk1 hS => ?_)
      obtain ⟨zkd97, zfi98⟩ := zu
      have zp9 := hq
      obtain ⟨hP1, hD1⟩ := hB
      rw [ht] at hP1
      replace hw := hw zkd97 zfi98 zp9
      obtain ⟨hP, hD⟩ := va_join (wr := []) (w1 := [(q_lk, .inr (1, [.ref q_nt, .ref q_kn, .ref q_fi, .int (nI (cK n t (zk3 + 1)))])), (q_kn, .inl (cI, 8, .inl (aN zkd97))), (q_fi, .inl (cI, 8, .inl (aN zfi98))), (q_nt, .inr (2, [.ref q_en, .ref q_ba, .ref q_de, .int (nI n), .int (nI (prs t))])), (q_en, .inl (cI, 32, .inl (aE t))), (q_ba, .inl (cZ, 32, .inl (aB w))), (q_de, .inl (cI, 8, .inl (aN (dg t))))]) hP hD [0, 1, 2, 3, 4, 5, 6] [] rfl rfl (by decide) (by decide) hk1 hFc hP1 hD1
      have hP : va_P D vwCl [(q_lk, .inr (1, [.ref q_nt, .ref q_kn, .ref q_fi, .int (nI (cK n t (zk3 + 1)))])), (q_kn, .inl (cI, 8, .inl (aN zkd97))), (q_fi, .inl (cI, 8, .inl (aN zfi98))), (q_nt, .inr (2, [.ref q_en, .ref q_ba, .ref q_de, .int (nI n), .int (nI (prs t))])), (q_en, .inl (cI, 32, .inl (aE t))), (q_ba, .inl (cZ, 32, .inl (aB w))), (q_de, .inl (cI, 8, .inl (aN (dg t))))] H1 := hP
      have hD : va_D A [(q_lk, .inr (1, [.ref q_nt, .ref q_kn, .ref q_fi, .int (nI (cK n t (zk3 + 1)))])), (q_kn, .inl (cI, 8, .inl (aN zkd97))), (q_fi, .inl (cI, 8, .inl (aN zfi98))), (q_nt, .inr (2, [.ref q_en, .ref q_ba, .ref q_de, .int (nI n), .int (nI (prs t))])), (q_en, .inl (cI, 32, .inl (aE t))), (q_ba, .inl (cZ, 32, .inl (aB w))), (q_de, .inl (cI, 8, .inl (aN (dg t))))] := hD
      clear hP1 hD1 hk1 hz1 hFc hDc hPc ht hvm
      refine lv_aload_n hx hb dX1_lookTo_20 rfl (lv_at hl 1 rfl) ?_
      refine va_get (D := D) (ci := 1) (v := .int (nI (cK n t (zk3 + 1)))) (C := RX1) (T := TX1) (N := 4) hx hb hts i_X1_lookTo_X1 hown hZ.1 hP 0 rfl rfl 3 (by decide) (hts _ m_X1_lookTo_f25) (fun _ h9 => h9) rfl dX1_lookTo_21 ?_
      refine lv_iload_n hx hb dX1_lookTo_24 rfl (lv_at hl 0 rfl) ?_
      obtain ⟨zh11, hw⟩ := hw
      obtain ⟨zh12, hw⟩ := hw
      obtain ⟨hwt, hwf⟩ := hw
      refine z_icmp_ne hx hb zh11 zh12 (tgt := 30) dX1_lookTo_25 (by decide) (fun cc => ?_) (fun cc => ?_)
      · replace hw := hwt cc
        refine lv_iinc (v := nI (v2 + 1)) (lv' := [(2, .int (nI (v2 + 1))), (3, .int (nI c_ct)), (0, .ref q_lk), (1, .int (nI d))]) hx hb dX1_lookTo_30 hl (k := 3) rfl (by rw [show Int32.ofInt 1 = nI 1 from by decide +kernel]; exact nI_add _ _) (by decide) rfl (fun ls hl => ?_)
        refine lv_goto (tgt := 6) hx hb dX1_lookTo_33 (by decide) ?_
        have hP9 : va_P D vwCl [(q_lk, .inr (1, [.ref q_nt, .ref q_kn, .ref q_fi, .int (nI (cK n t (zk3 + 1)))])), (q_kn, .inl (cI, 8, .inl (aN zkd97))), (q_fi, .inl (cI, 8, .inl (aN zfi98))), (q_nt, .inr (2, [.ref q_en, .ref q_ba, .ref q_de, .int (nI n), .int (nI (prs t))])), (q_en, .inl (cI, 32, .inl (aE t))), (q_ba, .inl (cZ, 32, .inl (aB w))), (q_de, .inl (cI, 8, .inl (aN (dg t))))] H1 := hP.sub [0, 1, 2, 3, 4, 5, 6] rfl
        have hD9 : va_D A [(q_lk, .inr (1, [.ref q_nt, .ref q_kn, .ref q_fi, .int (nI (cK n t (zk3 + 1)))])), (q_kn, .inl (cI, 8, .inl (aN zkd97))), (q_fi, .inl (cI, 8, .inl (aN zfi98))), (q_nt, .inr (2, [.ref q_en, .ref q_ba, .ref q_de, .int (nI n), .int (nI (prs t))])), (q_en, .inl (cI, 32, .inl (aE t))), (q_ba, .inl (cZ, 32, .inl (aB w))), (q_de, .inl (cI, 8, .inl (aN (dg t))))] := hD.sub [0, 1, 2, 3, 4, 5, 6] (by decide) rfl
        exact ((hX6 _ _ _ _).mp hw) _ _ hP9 hD9 hS ls (lv_sub hl [2, 3, 0] rfl)
      · replace hw := hwf cc
        refine lv_iload_n hx hb dX1_lookTo_28 rfl (lv_at hl 3 rfl) ?_
        obtain ⟨kd9, fi9, po0, er, ec_kn, ec_fi, ec_ct⟩ := hw
        have hP9 : va_P D vwCl [(q_lk, .inr (1, [.ref q_nt, .ref q_kn, .ref q_fi, .int (nI (cK n t (zk3 + 1)))])), (q_kn, .inl (cI, 8, .inl (aN zkd97))), (q_fi, .inl (cI, 8, .inl (aN zfi98))), (q_nt, .inr (2, [.ref q_en, .ref q_ba, .ref q_de, .int (nI n), .int (nI (prs t))])), (q_en, .inl (cI, 32, .inl (aE t))), (q_ba, .inl (cZ, 32, .inl (aB w))), (q_de, .inl (cI, 8, .inl (aN (dg t))))] H1 := hP.sub [0, 1, 2, 3, 4, 5, 6] rfl
        have hD9 : va_D A [(q_lk, .inr (1, [.ref q_nt, .ref q_kn, .ref q_fi, .int (nI (cK n t (zk3 + 1)))])), (q_kn, .inl (cI, 8, .inl (aN zkd97))), (q_fi, .inl (cI, 8, .inl (aN zfi98))), (q_nt, .inr (2, [.ref q_en, .ref q_ba, .ref q_de, .int (nI n), .int (nI (prs t))])), (q_en, .inl (cI, 32, .inl (aE t))), (q_ba, .inl (cZ, 32, .inl (aB w))), (q_de, .inl (cI, 8, .inl (aN (dg t))))] := hD.sub [0, 1, 2, 3, 4, 5, 6] (by decide) rfl
        have hP9 : va_P D vwCl [(q_lk, .inr (1, [.ref q_nt, .ref q_kn, .ref q_fi, .int (nI (cK n t (zk3 + 1)))])), (q_kn, .inl (cI, 8, .inl (aN kd9))), (q_fi, .inl (cI, 8, .inl (aN zfi98))), (q_nt, .inr (2, [.ref q_en, .ref q_ba, .ref q_de, .int (nI n), .int (nI (prs t))])), (q_en, .inl (cI, 32, .inl (aE t))), (q_ba, .inl (cZ, 32, .inl (aB w))), (q_de, .inl (cI, 8, .inl (aN (dg t))))] H1 := z_arr hP9 1 rfl (fun zi hi => congrArg nI (ec_kn zi hi))
        have hD9 : va_D A [(q_lk, .inr (1, [.ref q_nt, .ref q_kn, .ref q_fi, .int (nI (cK n t (zk3 + 1)))])), (q_kn, .inl (cI, 8, .inl (aN kd9))), (q_fi, .inl (cI, 8, .inl (aN zfi98))), (q_nt, .inr (2, [.ref q_en, .ref q_ba, .ref q_de, .int (nI n), .int (nI (prs t))])), (q_en, .inl (cI, 32, .inl (aE t))), (q_ba, .inl (cZ, 32, .inl (aB w))), (q_de, .inl (cI, 8, .inl (aN (dg t))))] := hD9.set (p := 1) (e := .inl (cI, 8, .inl (aN kd9))) rfl
        have hP9 : va_P D vwCl [(q_lk, .inr (1, [.ref q_nt, .ref q_kn, .ref q_fi, .int (nI (cK n t (zk3 + 1)))])), (q_kn, .inl (cI, 8, .inl (aN kd9))), (q_fi, .inl (cI, 8, .inl (aN fi9))), (q_nt, .inr (2, [.ref q_en, .ref q_ba, .ref q_de, .int (nI n), .int (nI (prs t))])), (q_en, .inl (cI, 32, .inl (aE t))), (q_ba, .inl (cZ, 32, .inl (aB w))), (q_de, .inl (cI, 8, .inl (aN (dg t))))] H1 := z_arr hP9 2 rfl (fun zi hi => congrArg nI (ec_fi zi hi))
        have hD9 : va_D A [(q_lk, .inr (1, [.ref q_nt, .ref q_kn, .ref q_fi, .int (nI (cK n t (zk3 + 1)))])), (q_kn, .inl (cI, 8, .inl (aN kd9))), (q_fi, .inl (cI, 8, .inl (aN fi9))), (q_nt, .inr (2, [.ref q_en, .ref q_ba, .ref q_de, .int (nI n), .int (nI (prs t))])), (q_en, .inl (cI, 32, .inl (aE t))), (q_ba, .inl (cZ, 32, .inl (aB w))), (q_de, .inl (cI, 8, .inl (aN (dg t))))] := hD9.set (p := 2) (e := .inl (cI, 8, .inl (aN fi9))) rfl
        have hP9 : va_P D vwCl [(q_lk, .inr (1, [.ref q_nt, .ref q_kn, .ref q_fi, .int (nI (cK n t d))])), (q_kn, .inl (cI, 8, .inl (aN kd9))), (q_fi, .inl (cI, 8, .inl (aN fi9))), (q_nt, .inr (2, [.ref q_en, .ref q_ba, .ref q_de, .int (nI n), .int (nI (prs t))])), (q_en, .inl (cI, 32, .inl (aE t))), (q_ba, .inl (cZ, 32, .inl (aB w))), (q_de, .inl (cI, 8, .inl (aN (dg t))))] H1 := (congrArg (fun z9 : Nat => va_P D vwCl [(q_lk, .inr (1, [.ref q_nt, .ref q_kn, .ref q_fi, .int (nI z9)])), (q_kn, .inl (cI, 8, .inl (aN kd9))), (q_fi, .inl (cI, 8, .inl (aN fi9))), (q_nt, .inr (2, [.ref q_en, .ref q_ba, .ref q_de, .int (nI n), .int (nI (prs t))])), (q_en, .inl (cI, 32, .inl (aE t))), (q_ba, .inl (cZ, 32, .inl (aB w))), (q_de, .inl (cI, 8, .inl (aN (dg t))))] H1) ec_ct).mp hP9
        have hD9 : va_D A [(q_lk, .inr (1, [.ref q_nt, .ref q_kn, .ref q_fi, .int (nI (cK n t d))])), (q_kn, .inl (cI, 8, .inl (aN kd9))), (q_fi, .inl (cI, 8, .inl (aN fi9))), (q_nt, .inr (2, [.ref q_en, .ref q_ba, .ref q_de, .int (nI n), .int (nI (prs t))])), (q_en, .inl (cI, 32, .inl (aE t))), (q_ba, .inl (cZ, 32, .inl (aB w))), (q_de, .inl (cI, 8, .inl (aN (dg t))))] := (congrArg (fun z9 : Nat => va_D A [(q_lk, .inr (1, [.ref q_nt, .ref q_kn, .ref q_fi, .int (nI z9)])), (q_kn, .inl (cI, 8, .inl (aN kd9))), (q_fi, .inl (cI, 8, .inl (aN fi9))), (q_nt, .inr (2, [.ref q_en, .ref q_ba, .ref q_de, .int (nI n), .int (nI (prs t))])), (q_en, .inl (cI, 32, .inl (aE t))), (q_ba, .inl (cZ, 32, .inl (aB w))), (q_de, .inl (cI, 8, .inl (aN (dg t))))]) ec_ct).mp hD9
        exact W.iret (v := nI v2) hx hb hr (fun t ht hW => ⟨⟨_, (kd9, fi9), rfl, ⟨po0, (congrArg nI er)⟩, by rw [ht]; exact hP9, hD9⟩, hS.F ht⟩) hS.2.2 dX1_lookTo_29
  have hw := vw X6 b6
  unfold B_X1_lookTo_in at hw
  refine lv_aload_n hx hb dX1_lookTo_0 rfl (lv_at hl 0 rfl) ?_
  obtain ⟨zh13, hw⟩ := hw
  obtain ⟨zh14, hw⟩ := hw
  have hPc : va_P D vwCl [(q_lk, .inr (1, [.ref q_nt, .ref q_kn, .ref q_fi, .int (nI ct)])), (q_kn, .inl (cI, 8, .inl (aN kd))), (q_fi, .inl (cI, 8, .inl (aN fi))), (q_nt, .inr (2, [.ref q_en, .ref q_ba, .ref q_de, .int (nI n), .int (nI (prs t))])), (q_en, .inl (cI, 32, .inl (aE t))), (q_ba, .inl (cZ, 32, .inl (aB w))), (q_de, .inl (cI, 8, .inl (aN (dg t))))] zs.heap := hP.sub [0, 1, 2, 3, 4, 5, 6] rfl
  have hDc : va_D A [(q_lk, .inr (1, [.ref q_nt, .ref q_kn, .ref q_fi, .int (nI ct)])), (q_kn, .inl (cI, 8, .inl (aN kd))), (q_fi, .inl (cI, 8, .inl (aN fi))), (q_nt, .inr (2, [.ref q_en, .ref q_ba, .ref q_de, .int (nI n), .int (nI (prs t))])), (q_en, .inl (cI, 32, .inl (aE t))), (q_ba, .inl (cZ, 32, .inl (aB w))), (q_de, .inl (cI, 8, .inl (aN (dg t))))] := hD.sub [0, 1, 2, 3, 4, 5, 6] (by decide) rfl
  have hFc := va_free (wc := [(q_lk, .inr (1, [.ref q_nt, .ref q_kn, .ref q_fi, .int (nI ct)])), (q_kn, .inl (cI, 8, .inl (aN kd))), (q_fi, .inl (cI, 8, .inl (aN fi))), (q_nt, .inr (2, [.ref q_en, .ref q_ba, .ref q_de, .int (nI n), .int (nI (prs t))])), (q_en, .inl (cI, 32, .inl (aE t))), (q_ba, .inl (cZ, 32, .inl (aB w))), (q_de, .inl (cI, 8, .inl (aN (dg t))))]) hD hS hA [0, 1, 2, 3, 4, 5, 6] rfl
  refine va_callv (va_runV (As := []) (rest := []) ⟨hx, hb, hml, hown, hts⟩ (k_X1_lookAtDegrees q_lk q_kn q_fi q_nt q_en q_ba q_de zs.heap.size kd fi ct n t w zh13 zh14) (cwV 0 hts gX1_lookTo_X1_lookAtDegrees rfl rfl rfl (by decide +kernel) ⟨Nat.le_of_ble_eq_true rfl, Nat.le_of_ble_eq_true rfl⟩) (zPw_V hZ hPc (hDc.weaken (fun _ _ _ _ => trivial)) 0 rfl rfl) rfl rfl hl.1 rfl (lv_room (Nat.le_of_ble_eq_true rfl)) dX1_lookTo_1 ⟨Nat.zero_le _, Nat.zero_le _⟩) hS (fun q _ h => hFc q h) hFc (fun zu zt H1 locs1 ht hvm hq hB hz1 hk1 hS => ?_)
  obtain ⟨zkd915, zfi916⟩ := zu
  have zp17 := hq
  obtain ⟨hP1, hD1⟩ := hB
  rw [ht] at hP1
  replace hw := hw zkd915 zfi916 zp17
  obtain ⟨hP, hD⟩ := va_join (wr := []) (w1 := [(q_lk, .inr (1, [.ref q_nt, .ref q_kn, .ref q_fi, .int (nI (cK n t 0))])), (q_kn, .inl (cI, 8, .inl (aN zkd915))), (q_fi, .inl (cI, 8, .inl (aN zfi916))), (q_nt, .inr (2, [.ref q_en, .ref q_ba, .ref q_de, .int (nI n), .int (nI (prs t))])), (q_en, .inl (cI, 32, .inl (aE t))), (q_ba, .inl (cZ, 32, .inl (aB w))), (q_de, .inl (cI, 8, .inl (aN (dg t))))]) hP hD [0, 1, 2, 3, 4, 5, 6] [] rfl rfl (by decide) (by decide) hk1 hFc hP1 hD1
  have hP : va_P D vwCl [(q_lk, .inr (1, [.ref q_nt, .ref q_kn, .ref q_fi, .int (nI (cK n t 0))])), (q_kn, .inl (cI, 8, .inl (aN zkd915))), (q_fi, .inl (cI, 8, .inl (aN zfi916))), (q_nt, .inr (2, [.ref q_en, .ref q_ba, .ref q_de, .int (nI n), .int (nI (prs t))])), (q_en, .inl (cI, 32, .inl (aE t))), (q_ba, .inl (cZ, 32, .inl (aB w))), (q_de, .inl (cI, 8, .inl (aN (dg t))))] H1 := hP
  have hD : va_D A [(q_lk, .inr (1, [.ref q_nt, .ref q_kn, .ref q_fi, .int (nI (cK n t 0))])), (q_kn, .inl (cI, 8, .inl (aN zkd915))), (q_fi, .inl (cI, 8, .inl (aN zfi916))), (q_nt, .inr (2, [.ref q_en, .ref q_ba, .ref q_de, .int (nI n), .int (nI (prs t))])), (q_en, .inl (cI, 32, .inl (aE t))), (q_ba, .inl (cZ, 32, .inl (aB w))), (q_de, .inl (cI, 8, .inl (aN (dg t))))] := hD
  clear hP1 hD1 hk1 hz1 hFc hDc hPc ht hvm
  refine lv_iconst (v := nI 0) hx hb dX1_lookTo_4 (by decide +kernel) ?_
  refine lv_istore_n (lv' := [(2, .int (nI 0)), (0, .ref q_lk), (1, .int (nI d))]) hx hb dX1_lookTo_5 rfl hl (by decide) rfl (fun ls hl => ?_)
  have hP9 : va_P D vwCl [(q_lk, .inr (1, [.ref q_nt, .ref q_kn, .ref q_fi, .int (nI (cK n t 0))])), (q_kn, .inl (cI, 8, .inl (aN zkd915))), (q_fi, .inl (cI, 8, .inl (aN zfi916))), (q_nt, .inr (2, [.ref q_en, .ref q_ba, .ref q_de, .int (nI n), .int (nI (prs t))])), (q_en, .inl (cI, 32, .inl (aE t))), (q_ba, .inl (cZ, 32, .inl (aB w))), (q_de, .inl (cI, 8, .inl (aN (dg t))))] H1 := hP.sub [0, 1, 2, 3, 4, 5, 6] rfl
  have hD9 : va_D A [(q_lk, .inr (1, [.ref q_nt, .ref q_kn, .ref q_fi, .int (nI (cK n t 0))])), (q_kn, .inl (cI, 8, .inl (aN zkd915))), (q_fi, .inl (cI, 8, .inl (aN zfi916))), (q_nt, .inr (2, [.ref q_en, .ref q_ba, .ref q_de, .int (nI n), .int (nI (prs t))])), (q_en, .inl (cI, 32, .inl (aE t))), (q_ba, .inl (cZ, 32, .inl (aB w))), (q_de, .inl (cI, 8, .inl (aN (dg t))))] := hD.sub [0, 1, 2, 3, 4, 5, 6] (by decide) rfl
  exact ((hX6 _ _ _ _).mp hw) _ _ hP9 hD9 hS ls (lv_sub hl [1, 2, 0] rfl)
set_option maxRecDepth 100000 in
set_option maxHeartbeats 4000000 in
theorem w_X1_depthApart {l : Launch} {D : va_G} {cI cZ : ClassId} (k_X1_kindOf : K_X1_kindOf l D cI cZ) (k_X1_lookDeeper : K_X1_lookDeeper l D cI cZ) (k_X1_lookAtDegrees : K_X1_lookAtDegrees l D cI cZ) (vv : V_X1_depthApart) : K_X1_depthApart l D cI cZ := by
  intro q_lk q_kn q_fi q_nt q_en q_ba q_de sz kd fi ct n t w a b hpre0 hpre1 hpre2 hpre3
  have vw := vv kd fi ct n t w a b hpre0 hpre1 hpre2 hpre3
  refine Met.ofW (cc := cX1_depthApart) (maxL := 4) (ret := (some .int)) (by decide) rfl ?_
  intro zp ze zs zm zargs zbelow zmeth zc zs1 B hml hv
  obtain ⟨rfl, hsz, hZ, hP, hD0⟩ := hv
  have hx := B.exec
  have hb := B.bytes
  have hr := B.returns
  have hts := atoms_spec (ws := wsX1_depthApart) B.pre
  have hown : zs.vm.findClass RX1 = some zm.cls := findClass_of_methodNamed B.named
  have hlocks := B.notSynchronized
  subst hsz
  have hD := hD0.self (sz := zs.heap.size)
  generalize hAe : va_A [(q_lk, .inr (1, [.ref q_nt, .ref q_kn, .ref q_fi, .int (nI ct)])), (q_kn, .inl (cI, 8, .inl (aN kd))), (q_fi, .inl (cI, 8, .inl (aN fi))), (q_nt, .inr (2, [.ref q_en, .ref q_ba, .ref q_de, .int (nI n), .int (nI (prs t))])), (q_en, .inl (cI, 32, .inl (aE t))), (q_ba, .inl (cZ, 32, .inl (aB w))), (q_de, .inl (cI, 8, .inl (aN (dg t))))] zs.heap.size = A at hD ⊢
  have hA : ∀ q : Nat, zs.heap.size ≤ q → A q := fun q h => by rw [← hAe]; exact Or.inr h
  have hS : va_S A zs.heap zs.heap [] := va_S.rf
  have hP : va_P D vwCl [(q_lk, .inr (1, [.ref q_nt, .ref q_kn, .ref q_fi, .int (nI ct)])), (q_kn, .inl (cI, 8, .inl (aN kd))), (q_fi, .inl (cI, 8, .inl (aN fi))), (q_nt, .inr (2, [.ref q_en, .ref q_ba, .ref q_de, .int (nI n), .int (nI (prs t))])), (q_en, .inl (cI, 32, .inl (aE t))), (q_ba, .inl (cZ, 32, .inl (aB w))), (q_de, .inl (cI, 8, .inl (aN (dg t))))] zs.heap := hP
  have hl := lv_entry ([.ref q_lk, .int (nI a), .int (nI b)]) (n := 4) (Nat.le_of_ble_eq_true rfl)
  rw [lg_entry_eq]
  generalize (lg_sl ([.ref q_lk, .int (nI a), .int (nI b)]) ++ List.replicate (4 - (lg_sl ([.ref q_lk, .int (nI a), .int (nI b)])).length) Slot.unset).toArray = ls at hl ⊢
  have hl : lv_has ls 4 [(0, .ref q_lk), (1, .int (nI a)), (2, .int (nI b))] := hl
  obtain ⟨X6, hX6⟩ : ∃ X : Nat → (Nat → Nat) → (Nat → Nat) → Nat → Prop, ∀ (v3 : Nat) (c_kn : Nat → Nat) (c_fi : Nat → Nat) (c_ct : Nat), X v3 c_kn c_fi c_ct ↔ (∀ (H : Heap) (locs : List Loc), va_P D vwCl [(q_lk, .inr (1, [.ref q_nt, .ref q_kn, .ref q_fi, .int (nI c_ct)])), (q_kn, .inl (cI, 8, .inl (aN c_kn))), (q_fi, .inl (cI, 8, .inl (aN c_fi))), (q_nt, .inr (2, [.ref q_en, .ref q_ba, .ref q_de, .int (nI n), .int (nI (prs t))])), (q_en, .inl (cI, 32, .inl (aE t))), (q_ba, .inl (cZ, 32, .inl (aB w))), (q_de, .inl (cI, 8, .inl (aN (dg t))))] H → va_D A [(q_lk, .inr (1, [.ref q_nt, .ref q_kn, .ref q_fi, .int (nI c_ct)])), (q_kn, .inl (cI, 8, .inl (aN c_kn))), (q_fi, .inl (cI, 8, .inl (aN c_fi))), (q_nt, .inr (2, [.ref q_en, .ref q_ba, .ref q_de, .int (nI n), .int (nI (prs t))])), (q_en, .inl (cI, 32, .inl (aE t))), (q_ba, .inl (cZ, 32, .inl (aB w))), (q_de, .inl (cI, 8, .inl (aN (dg t))))] → va_S A zs.heap H locs → ∀ ls : Array Slot, lv_has ls 4 [(0, .ref q_lk), (1, .int (nI a)), (2, .int (nI b)), (3, .int (nI v3))] → W zp l ze (headSpec wsX1_depthApart ({ frames := 5, cells := 0, slots := 0, locals := 113 } : Room)).room zs zm ([.ref q_lk, .int (nI a), .int (nI b)] : List Value).toArray zbelow zmeth zc H locs 0 0 (MQ zbelow (va_Qi (S := (Nat → Nat) × (Nat → Nat) × Nat) (fun zr zu => zr = apV n t a b) (fun (zu : (Nat → Nat) × (Nat → Nat) × Nat) zt => va_P D vwCl [(q_lk, .inr (1, [.ref q_nt, .ref q_kn, .ref q_fi, .int (nI zu.2.2)])), (q_kn, .inl (cI, 8, .inl (aN zu.1))), (q_fi, .inl (cI, 8, .inl (aN zu.2.1))), (q_nt, .inr (2, [.ref q_en, .ref q_ba, .ref q_de, .int (nI n), .int (nI (prs t))])), (q_en, .inl (cI, 32, .inl (aE t))), (q_ba, .inl (cZ, 32, .inl (aB w))), (q_de, .inl (cI, 8, .inl (aN (dg t))))] zt.heap ∧ va_D A [(q_lk, .inr (1, [.ref q_nt, .ref q_kn, .ref q_fi, .int (nI zu.2.2)])), (q_kn, .inl (cI, 8, .inl (aN zu.1))), (q_fi, .inl (cI, 8, .inl (aN zu.2.1))), (q_nt, .inr (2, [.ref q_en, .ref q_ba, .ref q_de, .int (nI n), .int (nI (prs t))])), (q_en, .inl (cI, 32, .inl (aE t))), (q_ba, .inl (cZ, 32, .inl (aB w))), (q_de, .inl (cI, 8, .inl (aN (dg t))))]) A) ([.ref q_lk, .int (nI a), .int (nI b)] : List Value).toArray zs 0 0 A) (F0 zm 6 ls [])) := ⟨_, fun _ _ _ _ => Iff.rfl⟩
  have b6 : ∀ (v3 : Nat) (c_kn : Nat → Nat) (c_fi : Nat → Nat) (c_ct : Nat), B_X1_depthApart_6 kd fi ct n t w a b X6 v3 c_kn c_fi c_ct → X6 v3 c_kn c_fi c_ct := by
    intro v3 c_kn c_fi c_ct hw
    rw [hX6]
    intro H locs hP hD hS ls hl
    unfold B_X1_depthApart_6 at hw
    refine lv_iload_n hx hb dX1_depthApart_6 rfl (lv_at hl 3 rfl) ?_
    refine lv_bipush (v := nI 8) hx hb dX1_depthApart_7 (by decide +kernel) ?_
    obtain ⟨zh1, hw⟩ := hw
    obtain ⟨hwt, hwf⟩ := hw
    refine z_icmp_ge hx hb zh1 (by decide) (tgt := 37) dX1_depthApart_9 (by decide) (fun cc => ?_) (fun cc => ?_)
    · replace hw := hwt cc
      refine lv_bipush (v := (-6)) hx hb dX1_depthApart_37 (by decide +kernel) ?_
      obtain ⟨kd9, fi9, ct9, er, ec_kn, ec_fi, ec_ct⟩ := hw
      have hP9 : va_P D vwCl [(q_lk, .inr (1, [.ref q_nt, .ref q_kn, .ref q_fi, .int (nI c_ct)])), (q_kn, .inl (cI, 8, .inl (aN c_kn))), (q_fi, .inl (cI, 8, .inl (aN c_fi))), (q_nt, .inr (2, [.ref q_en, .ref q_ba, .ref q_de, .int (nI n), .int (nI (prs t))])), (q_en, .inl (cI, 32, .inl (aE t))), (q_ba, .inl (cZ, 32, .inl (aB w))), (q_de, .inl (cI, 8, .inl (aN (dg t))))] H := hP.sub [0, 1, 2, 3, 4, 5, 6] rfl
      have hD9 : va_D A [(q_lk, .inr (1, [.ref q_nt, .ref q_kn, .ref q_fi, .int (nI c_ct)])), (q_kn, .inl (cI, 8, .inl (aN c_kn))), (q_fi, .inl (cI, 8, .inl (aN c_fi))), (q_nt, .inr (2, [.ref q_en, .ref q_ba, .ref q_de, .int (nI n), .int (nI (prs t))])), (q_en, .inl (cI, 32, .inl (aE t))), (q_ba, .inl (cZ, 32, .inl (aB w))), (q_de, .inl (cI, 8, .inl (aN (dg t))))] := hD.sub [0, 1, 2, 3, 4, 5, 6] (by decide) rfl
      have hP9 : va_P D vwCl [(q_lk, .inr (1, [.ref q_nt, .ref q_kn, .ref q_fi, .int (nI c_ct)])), (q_kn, .inl (cI, 8, .inl (aN kd9))), (q_fi, .inl (cI, 8, .inl (aN c_fi))), (q_nt, .inr (2, [.ref q_en, .ref q_ba, .ref q_de, .int (nI n), .int (nI (prs t))])), (q_en, .inl (cI, 32, .inl (aE t))), (q_ba, .inl (cZ, 32, .inl (aB w))), (q_de, .inl (cI, 8, .inl (aN (dg t))))] H := z_arr hP9 1 rfl (fun zi hi => congrArg nI (ec_kn zi hi))
      have hD9 : va_D A [(q_lk, .inr (1, [.ref q_nt, .ref q_kn, .ref q_fi, .int (nI c_ct)])), (q_kn, .inl (cI, 8, .inl (aN kd9))), (q_fi, .inl (cI, 8, .inl (aN c_fi))), (q_nt, .inr (2, [.ref q_en, .ref q_ba, .ref q_de, .int (nI n), .int (nI (prs t))])), (q_en, .inl (cI, 32, .inl (aE t))), (q_ba, .inl (cZ, 32, .inl (aB w))), (q_de, .inl (cI, 8, .inl (aN (dg t))))] := hD9.set (p := 1) (e := .inl (cI, 8, .inl (aN kd9))) rfl
      have hP9 : va_P D vwCl [(q_lk, .inr (1, [.ref q_nt, .ref q_kn, .ref q_fi, .int (nI c_ct)])), (q_kn, .inl (cI, 8, .inl (aN kd9))), (q_fi, .inl (cI, 8, .inl (aN fi9))), (q_nt, .inr (2, [.ref q_en, .ref q_ba, .ref q_de, .int (nI n), .int (nI (prs t))])), (q_en, .inl (cI, 32, .inl (aE t))), (q_ba, .inl (cZ, 32, .inl (aB w))), (q_de, .inl (cI, 8, .inl (aN (dg t))))] H := z_arr hP9 2 rfl (fun zi hi => congrArg nI (ec_fi zi hi))
      have hD9 : va_D A [(q_lk, .inr (1, [.ref q_nt, .ref q_kn, .ref q_fi, .int (nI c_ct)])), (q_kn, .inl (cI, 8, .inl (aN kd9))), (q_fi, .inl (cI, 8, .inl (aN fi9))), (q_nt, .inr (2, [.ref q_en, .ref q_ba, .ref q_de, .int (nI n), .int (nI (prs t))])), (q_en, .inl (cI, 32, .inl (aE t))), (q_ba, .inl (cZ, 32, .inl (aB w))), (q_de, .inl (cI, 8, .inl (aN (dg t))))] := hD9.set (p := 2) (e := .inl (cI, 8, .inl (aN fi9))) rfl
      have hP9 : va_P D vwCl [(q_lk, .inr (1, [.ref q_nt, .ref q_kn, .ref q_fi, .int (nI ct9)])), (q_kn, .inl (cI, 8, .inl (aN kd9))), (q_fi, .inl (cI, 8, .inl (aN fi9))), (q_nt, .inr (2, [.ref q_en, .ref q_ba, .ref q_de, .int (nI n), .int (nI (prs t))])), (q_en, .inl (cI, 32, .inl (aE t))), (q_ba, .inl (cZ, 32, .inl (aB w))), (q_de, .inl (cI, 8, .inl (aN (dg t))))] H := (congrArg (fun z9 : Nat => va_P D vwCl [(q_lk, .inr (1, [.ref q_nt, .ref q_kn, .ref q_fi, .int (nI z9)])), (q_kn, .inl (cI, 8, .inl (aN kd9))), (q_fi, .inl (cI, 8, .inl (aN fi9))), (q_nt, .inr (2, [.ref q_en, .ref q_ba, .ref q_de, .int (nI n), .int (nI (prs t))])), (q_en, .inl (cI, 32, .inl (aE t))), (q_ba, .inl (cZ, 32, .inl (aB w))), (q_de, .inl (cI, 8, .inl (aN (dg t))))] H) ec_ct).mp hP9
      have hD9 : va_D A [(q_lk, .inr (1, [.ref q_nt, .ref q_kn, .ref q_fi, .int (nI ct9)])), (q_kn, .inl (cI, 8, .inl (aN kd9))), (q_fi, .inl (cI, 8, .inl (aN fi9))), (q_nt, .inr (2, [.ref q_en, .ref q_ba, .ref q_de, .int (nI n), .int (nI (prs t))])), (q_en, .inl (cI, 32, .inl (aE t))), (q_ba, .inl (cZ, 32, .inl (aB w))), (q_de, .inl (cI, 8, .inl (aN (dg t))))] := (congrArg (fun z9 : Nat => va_D A [(q_lk, .inr (1, [.ref q_nt, .ref q_kn, .ref q_fi, .int (nI z9)])), (q_kn, .inl (cI, 8, .inl (aN kd9))), (q_fi, .inl (cI, 8, .inl (aN fi9))), (q_nt, .inr (2, [.ref q_en, .ref q_ba, .ref q_de, .int (nI n), .int (nI (prs t))])), (q_en, .inl (cI, 32, .inl (aE t))), (q_ba, .inl (cZ, 32, .inl (aB w))), (q_de, .inl (cI, 8, .inl (aN (dg t))))]) ec_ct).mp hD9
      exact W.iret (v := (-6)) hx hb hr (fun t ht hW => ⟨⟨_, (kd9, fi9, ct9), rfl, er, by rw [ht]; exact hP9, hD9⟩, hS.F ht⟩) hS.2.2 dX1_depthApart_39
    · replace hw := hwf cc
      refine lv_aload_n hx hb dX1_depthApart_12 rfl (lv_at hl 0 rfl) ?_
      refine lv_iload_n hx hb dX1_depthApart_13 rfl (lv_at hl 1 rfl) ?_
      obtain ⟨zh2, hw⟩ := hw
      have hPc : va_P D vwCl [(q_lk, .inr (1, [.ref q_nt, .ref q_kn, .ref q_fi, .int (nI c_ct)])), (q_kn, .inl (cI, 8, .inl (aN c_kn))), (q_fi, .inl (cI, 8, .inl (aN c_fi))), (q_nt, .inr (2, [.ref q_en, .ref q_ba, .ref q_de, .int (nI n), .int (nI (prs t))])), (q_en, .inl (cI, 32, .inl (aE t))), (q_ba, .inl (cZ, 32, .inl (aB w))), (q_de, .inl (cI, 8, .inl (aN (dg t))))] H := hP.sub [0, 1, 2, 3, 4, 5, 6] rfl
      refine z_ro (va_runV (As := [.int (nI a)]) (rest := []) ⟨hx, hb, hml, hown, hts⟩ (k_X1_kindOf q_lk q_kn q_fi q_nt q_en q_ba q_de c_kn c_fi c_ct n t w a zh2) (cwV 1 hts gX1_depthApart_X1_kindOf rfl rfl rfl (by decide +kernel) ⟨Nat.le_of_ble_eq_true rfl, Nat.le_of_ble_eq_true rfl⟩) (zPr_V hZ hPc 0 rfl rfl) rfl rfl hl.1 rfl (lv_room (Nat.le_of_ble_eq_true rfl)) dX1_depthApart_14 ⟨Nat.zero_le _, Nat.zero_le _⟩) (fun zr3 hzr3 => ?_)
      have ez := hzr3
      rw [ez]
      clear ez hzr3
      refine lv_aload_n hx hb dX1_depthApart_17 rfl (lv_at hl 0 rfl) ?_
      refine lv_iload_n hx hb dX1_depthApart_18 rfl (lv_at hl 2 rfl) ?_
      obtain ⟨zh4, hw⟩ := hw
      have hPc : va_P D vwCl [(q_lk, .inr (1, [.ref q_nt, .ref q_kn, .ref q_fi, .int (nI c_ct)])), (q_kn, .inl (cI, 8, .inl (aN c_kn))), (q_fi, .inl (cI, 8, .inl (aN c_fi))), (q_nt, .inr (2, [.ref q_en, .ref q_ba, .ref q_de, .int (nI n), .int (nI (prs t))])), (q_en, .inl (cI, 32, .inl (aE t))), (q_ba, .inl (cZ, 32, .inl (aB w))), (q_de, .inl (cI, 8, .inl (aN (dg t))))] H := hP.sub [0, 1, 2, 3, 4, 5, 6] rfl
      refine z_ro (va_runV (As := [.int (nI b)]) (rest := [.int (nI (c_kn a))]) ⟨hx, hb, hml, hown, hts⟩ (k_X1_kindOf q_lk q_kn q_fi q_nt q_en q_ba q_de c_kn c_fi c_ct n t w b zh4) (cwV 1 hts gX1_depthApart_X1_kindOf rfl rfl rfl (by decide +kernel) ⟨Nat.le_of_ble_eq_true rfl, Nat.le_of_ble_eq_true rfl⟩) (zPr_V hZ hPc 0 rfl rfl) rfl rfl hl.1 rfl (lv_room (Nat.le_of_ble_eq_true rfl)) dX1_depthApart_19 ⟨Nat.zero_le _, Nat.zero_le _⟩) (fun zr5 hzr5 => ?_)
      have ez := hzr5
      rw [ez]
      clear ez hzr5
      obtain ⟨zh6, hw⟩ := hw
      obtain ⟨zh7, hw⟩ := hw
      obtain ⟨hwt, hwf⟩ := hw
      refine z_icmp_eq hx hb zh6 zh7 (tgt := 27) dX1_depthApart_22 (by decide) (fun cc => ?_) (fun cc => ?_)
      · replace hw := hwt cc
        refine lv_aload_n hx hb dX1_depthApart_27 rfl (lv_at hl 0 rfl) ?_
        obtain ⟨zk8, hw⟩ := hw
        obtain ⟨zh9, hw⟩ := hw
        obtain ⟨zh10, hw⟩ := hw
        obtain ⟨zh11, hw⟩ := hw
        have hPc : va_P D vwCl [(q_lk, .inr (1, [.ref q_nt, .ref q_kn, .ref q_fi, .int (nI c_ct)])), (q_kn, .inl (cI, 8, .inl (aN c_kn))), (q_fi, .inl (cI, 8, .inl (aN c_fi))), (q_nt, .inr (2, [.ref q_en, .ref q_ba, .ref q_de, .int (nI n), .int (nI (prs t))])), (q_en, .inl (cI, 32, .inl (aE t))), (q_ba, .inl (cZ, 32, .inl (aB w))), (q_de, .inl (cI, 8, .inl (aN (dg t))))] H := hP.sub [0, 1, 2, 3, 4, 5, 6] rfl
        have hDc : va_D A [(q_lk, .inr (1, [.ref q_nt, .ref q_kn, .ref q_fi, .int (nI c_ct)])), (q_kn, .inl (cI, 8, .inl (aN c_kn))), (q_fi, .inl (cI, 8, .inl (aN c_fi))), (q_nt, .inr (2, [.ref q_en, .ref q_ba, .ref q_de, .int (nI n), .int (nI (prs t))])), (q_en, .inl (cI, 32, .inl (aE t))), (q_ba, .inl (cZ, 32, .inl (aB w))), (q_de, .inl (cI, 8, .inl (aN (dg t))))] := hD.sub [0, 1, 2, 3, 4, 5, 6] (by decide) rfl
        have hFc := va_free (wc := [(q_lk, .inr (1, [.ref q_nt, .ref q_kn, .ref q_fi, .int (nI c_ct)])), (q_kn, .inl (cI, 8, .inl (aN c_kn))), (q_fi, .inl (cI, 8, .inl (aN c_fi))), (q_nt, .inr (2, [.ref q_en, .ref q_ba, .ref q_de, .int (nI n), .int (nI (prs t))])), (q_en, .inl (cI, 32, .inl (aE t))), (q_ba, .inl (cZ, 32, .inl (aB w))), (q_de, .inl (cI, 8, .inl (aN (dg t))))]) hD hS hA [0, 1, 2, 3, 4, 5, 6] rfl
        refine va_callv (va_runV (As := []) (rest := []) ⟨hx, hb, hml, hown, hts⟩ (k_X1_lookDeeper q_lk q_kn q_fi q_nt q_en q_ba q_de H.size c_kn c_fi c_ct n t w zk8 zh9 zh10 zh11) (cwV 0 hts gX1_depthApart_X1_lookDeeper rfl rfl rfl (by decide +kernel) ⟨Nat.le_of_ble_eq_true rfl, Nat.le_of_ble_eq_true rfl⟩) (zPw_V hZ hPc (hDc.weaken (fun _ _ _ _ => trivial)) 0 rfl rfl) rfl rfl hl.1 rfl (lv_room (Nat.le_of_ble_eq_true rfl)) dX1_depthApart_28 ⟨Nat.zero_le _, Nat.zero_le _⟩) hS (fun q _ h => hFc q h) hFc (fun zu zt H1 locs1 ht hvm hq hB hz1 hk1 hS => ?_)
        obtain ⟨zkd912, zfi913⟩ := zu
        have zp14 := hq
        obtain ⟨hP1, hD1⟩ := hB
        rw [ht] at hP1
        replace hw := hw zkd912 zfi913 zp14
        obtain ⟨hP, hD⟩ := va_join (wr := []) (w1 := [(q_lk, .inr (1, [.ref q_nt, .ref q_kn, .ref q_fi, .int (nI (cK n t (zk8 + 1)))])), (q_kn, .inl (cI, 8, .inl (aN zkd912))), (q_fi, .inl (cI, 8, .inl (aN zfi913))), (q_nt, .inr (2, [.ref q_en, .ref q_ba, .ref q_de, .int (nI n), .int (nI (prs t))])), (q_en, .inl (cI, 32, .inl (aE t))), (q_ba, .inl (cZ, 32, .inl (aB w))), (q_de, .inl (cI, 8, .inl (aN (dg t))))]) hP hD [0, 1, 2, 3, 4, 5, 6] [] rfl rfl (by decide) (by decide) hk1 hFc hP1 hD1
        have hP : va_P D vwCl [(q_lk, .inr (1, [.ref q_nt, .ref q_kn, .ref q_fi, .int (nI (cK n t (zk8 + 1)))])), (q_kn, .inl (cI, 8, .inl (aN zkd912))), (q_fi, .inl (cI, 8, .inl (aN zfi913))), (q_nt, .inr (2, [.ref q_en, .ref q_ba, .ref q_de, .int (nI n), .int (nI (prs t))])), (q_en, .inl (cI, 32, .inl (aE t))), (q_ba, .inl (cZ, 32, .inl (aB w))), (q_de, .inl (cI, 8, .inl (aN (dg t))))] H1 := hP
        have hD : va_D A [(q_lk, .inr (1, [.ref q_nt, .ref q_kn, .ref q_fi, .int (nI (cK n t (zk8 + 1)))])), (q_kn, .inl (cI, 8, .inl (aN zkd912))), (q_fi, .inl (cI, 8, .inl (aN zfi913))), (q_nt, .inr (2, [.ref q_en, .ref q_ba, .ref q_de, .int (nI n), .int (nI (prs t))])), (q_en, .inl (cI, 32, .inl (aE t))), (q_ba, .inl (cZ, 32, .inl (aB w))), (q_de, .inl (cI, 8, .inl (aN (dg t))))] := hD
        clear hP1 hD1 hk1 hz1 hFc hDc hPc ht hvm
        refine lv_iinc (v := nI (v3 + 1)) (lv' := [(3, .int (nI (v3 + 1))), (0, .ref q_lk), (1, .int (nI a)), (2, .int (nI b))]) hx hb dX1_depthApart_31 hl (k := 3) rfl (by rw [show Int32.ofInt 1 = nI 1 from by decide +kernel]; exact nI_add _ _) (by decide) rfl (fun ls hl => ?_)
        refine lv_goto (tgt := 6) hx hb dX1_depthApart_34 (by decide) ?_
        have hP9 : va_P D vwCl [(q_lk, .inr (1, [.ref q_nt, .ref q_kn, .ref q_fi, .int (nI (cK n t (zk8 + 1)))])), (q_kn, .inl (cI, 8, .inl (aN zkd912))), (q_fi, .inl (cI, 8, .inl (aN zfi913))), (q_nt, .inr (2, [.ref q_en, .ref q_ba, .ref q_de, .int (nI n), .int (nI (prs t))])), (q_en, .inl (cI, 32, .inl (aE t))), (q_ba, .inl (cZ, 32, .inl (aB w))), (q_de, .inl (cI, 8, .inl (aN (dg t))))] H1 := hP.sub [0, 1, 2, 3, 4, 5, 6] rfl
        have hD9 : va_D A [(q_lk, .inr (1, [.ref q_nt, .ref q_kn, .ref q_fi, .int (nI (cK n t (zk8 + 1)))])), (q_kn, .inl (cI, 8, .inl (aN zkd912))), (q_fi, .inl (cI, 8, .inl (aN zfi913))), (q_nt, .inr (2, [.ref q_en, .ref q_ba, .ref q_de, .int (nI n), .int (nI (prs t))])), (q_en, .inl (cI, 32, .inl (aE t))), (q_ba, .inl (cZ, 32, .inl (aB w))), (q_de, .inl (cI, 8, .inl (aN (dg t))))] := hD.sub [0, 1, 2, 3, 4, 5, 6] (by decide) rfl
        exact ((hX6 _ _ _ _).mp hw) _ _ hP9 hD9 hS ls (lv_sub hl [1, 2, 3, 0] rfl)
      · replace hw := hwf cc
        refine lv_iload_n hx hb dX1_depthApart_25 rfl (lv_at hl 3 rfl) ?_
        obtain ⟨kd9, fi9, ct9, er, ec_kn, ec_fi, ec_ct⟩ := hw
        have hP9 : va_P D vwCl [(q_lk, .inr (1, [.ref q_nt, .ref q_kn, .ref q_fi, .int (nI c_ct)])), (q_kn, .inl (cI, 8, .inl (aN c_kn))), (q_fi, .inl (cI, 8, .inl (aN c_fi))), (q_nt, .inr (2, [.ref q_en, .ref q_ba, .ref q_de, .int (nI n), .int (nI (prs t))])), (q_en, .inl (cI, 32, .inl (aE t))), (q_ba, .inl (cZ, 32, .inl (aB w))), (q_de, .inl (cI, 8, .inl (aN (dg t))))] H := hP.sub [0, 1, 2, 3, 4, 5, 6] rfl
        have hD9 : va_D A [(q_lk, .inr (1, [.ref q_nt, .ref q_kn, .ref q_fi, .int (nI c_ct)])), (q_kn, .inl (cI, 8, .inl (aN c_kn))), (q_fi, .inl (cI, 8, .inl (aN c_fi))), (q_nt, .inr (2, [.ref q_en, .ref q_ba, .ref q_de, .int (nI n), .int (nI (prs t))])), (q_en, .inl (cI, 32, .inl (aE t))), (q_ba, .inl (cZ, 32, .inl (aB w))), (q_de, .inl (cI, 8, .inl (aN (dg t))))] := hD.sub [0, 1, 2, 3, 4, 5, 6] (by decide) rfl
        have hP9 : va_P D vwCl [(q_lk, .inr (1, [.ref q_nt, .ref q_kn, .ref q_fi, .int (nI c_ct)])), (q_kn, .inl (cI, 8, .inl (aN kd9))), (q_fi, .inl (cI, 8, .inl (aN c_fi))), (q_nt, .inr (2, [.ref q_en, .ref q_ba, .ref q_de, .int (nI n), .int (nI (prs t))])), (q_en, .inl (cI, 32, .inl (aE t))), (q_ba, .inl (cZ, 32, .inl (aB w))), (q_de, .inl (cI, 8, .inl (aN (dg t))))] H := z_arr hP9 1 rfl (fun zi hi => congrArg nI (ec_kn zi hi))
        have hD9 : va_D A [(q_lk, .inr (1, [.ref q_nt, .ref q_kn, .ref q_fi, .int (nI c_ct)])), (q_kn, .inl (cI, 8, .inl (aN kd9))), (q_fi, .inl (cI, 8, .inl (aN c_fi))), (q_nt, .inr (2, [.ref q_en, .ref q_ba, .ref q_de, .int (nI n), .int (nI (prs t))])), (q_en, .inl (cI, 32, .inl (aE t))), (q_ba, .inl (cZ, 32, .inl (aB w))), (q_de, .inl (cI, 8, .inl (aN (dg t))))] := hD9.set (p := 1) (e := .inl (cI, 8, .inl (aN kd9))) rfl
        have hP9 : va_P D vwCl [(q_lk, .inr (1, [.ref q_nt, .ref q_kn, .ref q_fi, .int (nI c_ct)])), (q_kn, .inl (cI, 8, .inl (aN kd9))), (q_fi, .inl (cI, 8, .inl (aN fi9))), (q_nt, .inr (2, [.ref q_en, .ref q_ba, .ref q_de, .int (nI n), .int (nI (prs t))])), (q_en, .inl (cI, 32, .inl (aE t))), (q_ba, .inl (cZ, 32, .inl (aB w))), (q_de, .inl (cI, 8, .inl (aN (dg t))))] H := z_arr hP9 2 rfl (fun zi hi => congrArg nI (ec_fi zi hi))
        have hD9 : va_D A [(q_lk, .inr (1, [.ref q_nt, .ref q_kn, .ref q_fi, .int (nI c_ct)])), (q_kn, .inl (cI, 8, .inl (aN kd9))), (q_fi, .inl (cI, 8, .inl (aN fi9))), (q_nt, .inr (2, [.ref q_en, .ref q_ba, .ref q_de, .int (nI n), .int (nI (prs t))])), (q_en, .inl (cI, 32, .inl (aE t))), (q_ba, .inl (cZ, 32, .inl (aB w))), (q_de, .inl (cI, 8, .inl (aN (dg t))))] := hD9.set (p := 2) (e := .inl (cI, 8, .inl (aN fi9))) rfl
        have hP9 : va_P D vwCl [(q_lk, .inr (1, [.ref q_nt, .ref q_kn, .ref q_fi, .int (nI ct9)])), (q_kn, .inl (cI, 8, .inl (aN kd9))), (q_fi, .inl (cI, 8, .inl (aN fi9))), (q_nt, .inr (2, [.ref q_en, .ref q_ba, .ref q_de, .int (nI n), .int (nI (prs t))])), (q_en, .inl (cI, 32, .inl (aE t))), (q_ba, .inl (cZ, 32, .inl (aB w))), (q_de, .inl (cI, 8, .inl (aN (dg t))))] H := (congrArg (fun z9 : Nat => va_P D vwCl [(q_lk, .inr (1, [.ref q_nt, .ref q_kn, .ref q_fi, .int (nI z9)])), (q_kn, .inl (cI, 8, .inl (aN kd9))), (q_fi, .inl (cI, 8, .inl (aN fi9))), (q_nt, .inr (2, [.ref q_en, .ref q_ba, .ref q_de, .int (nI n), .int (nI (prs t))])), (q_en, .inl (cI, 32, .inl (aE t))), (q_ba, .inl (cZ, 32, .inl (aB w))), (q_de, .inl (cI, 8, .inl (aN (dg t))))] H) ec_ct).mp hP9
        have hD9 : va_D A [(q_lk, .inr (1, [.ref q_nt, .ref q_kn, .ref q_fi, .int (nI ct9)])), (q_kn, .inl (cI, 8, .inl (aN kd9))), (q_fi, .inl (cI, 8, .inl (aN fi9))), (q_nt, .inr (2, [.ref q_en, .ref q_ba, .ref q_de, .int (nI n), .int (nI (prs t))])), (q_en, .inl (cI, 32, .inl (aE t))), (q_ba, .inl (cZ, 32, .inl (aB w))), (q_de, .inl (cI, 8, .inl (aN (dg t))))] := (congrArg (fun z9 : Nat => va_D A [(q_lk, .inr (1, [.ref q_nt, .ref q_kn, .ref q_fi, .int (nI z9)])), (q_kn, .inl (cI, 8, .inl (aN kd9))), (q_fi, .inl (cI, 8, .inl (aN fi9))), (q_nt, .inr (2, [.ref q_en, .ref q_ba, .ref q_de, .int (nI n), .int (nI (prs t))])), (q_en, .inl (cI, 32, .inl (aE t))), (q_ba, .inl (cZ, 32, .inl (aB w))), (q_de, .inl (cI, 8, .inl (aN (dg t))))]) ec_ct).mp hD9
        exact W.iret (v := nI v3) hx hb hr (fun t ht hW => ⟨⟨_, (kd9, fi9, ct9), rfl, er, by rw [ht]; exact hP9, hD9⟩, hS.F ht⟩) hS.2.2 dX1_depthApart_26
  have hw := vw X6 b6
  unfold B_X1_depthApart_in at hw
  refine lv_aload_n hx hb dX1_depthApart_0 rfl (lv_at hl 0 rfl) ?_
  obtain ⟨zh16, hw⟩ := hw
  obtain ⟨zh17, hw⟩ := hw
  have hPc : va_P D vwCl [(q_lk, .inr (1, [.ref q_nt, .ref q_kn, .ref q_fi, .int (nI ct)])), (q_kn, .inl (cI, 8, .inl (aN kd))), (q_fi, .inl (cI, 8, .inl (aN fi))), (q_nt, .inr (2, [.ref q_en, .ref q_ba, .ref q_de, .int (nI n), .int (nI (prs t))])), (q_en, .inl (cI, 32, .inl (aE t))), (q_ba, .inl (cZ, 32, .inl (aB w))), (q_de, .inl (cI, 8, .inl (aN (dg t))))] zs.heap := hP.sub [0, 1, 2, 3, 4, 5, 6] rfl
  have hDc : va_D A [(q_lk, .inr (1, [.ref q_nt, .ref q_kn, .ref q_fi, .int (nI ct)])), (q_kn, .inl (cI, 8, .inl (aN kd))), (q_fi, .inl (cI, 8, .inl (aN fi))), (q_nt, .inr (2, [.ref q_en, .ref q_ba, .ref q_de, .int (nI n), .int (nI (prs t))])), (q_en, .inl (cI, 32, .inl (aE t))), (q_ba, .inl (cZ, 32, .inl (aB w))), (q_de, .inl (cI, 8, .inl (aN (dg t))))] := hD.sub [0, 1, 2, 3, 4, 5, 6] (by decide) rfl
  have hFc := va_free (wc := [(q_lk, .inr (1, [.ref q_nt, .ref q_kn, .ref q_fi, .int (nI ct)])), (q_kn, .inl (cI, 8, .inl (aN kd))), (q_fi, .inl (cI, 8, .inl (aN fi))), (q_nt, .inr (2, [.ref q_en, .ref q_ba, .ref q_de, .int (nI n), .int (nI (prs t))])), (q_en, .inl (cI, 32, .inl (aE t))), (q_ba, .inl (cZ, 32, .inl (aB w))), (q_de, .inl (cI, 8, .inl (aN (dg t))))]) hD hS hA [0, 1, 2, 3, 4, 5, 6] rfl
  refine va_callv (va_runV (As := []) (rest := []) ⟨hx, hb, hml, hown, hts⟩ (k_X1_lookAtDegrees q_lk q_kn q_fi q_nt q_en q_ba q_de zs.heap.size kd fi ct n t w zh16 zh17) (cwV 0 hts gX1_depthApart_X1_lookAtDegrees rfl rfl rfl (by decide +kernel) ⟨Nat.le_of_ble_eq_true rfl, Nat.le_of_ble_eq_true rfl⟩) (zPw_V hZ hPc (hDc.weaken (fun _ _ _ _ => trivial)) 0 rfl rfl) rfl rfl hl.1 rfl (lv_room (Nat.le_of_ble_eq_true rfl)) dX1_depthApart_1 ⟨Nat.zero_le _, Nat.zero_le _⟩) hS (fun q _ h => hFc q h) hFc (fun zu zt H1 locs1 ht hvm hq hB hz1 hk1 hS => ?_)
  obtain ⟨zkd918, zfi919⟩ := zu
  have zp20 := hq
  obtain ⟨hP1, hD1⟩ := hB
  rw [ht] at hP1
  replace hw := hw zkd918 zfi919 zp20
  obtain ⟨hP, hD⟩ := va_join (wr := []) (w1 := [(q_lk, .inr (1, [.ref q_nt, .ref q_kn, .ref q_fi, .int (nI (cK n t 0))])), (q_kn, .inl (cI, 8, .inl (aN zkd918))), (q_fi, .inl (cI, 8, .inl (aN zfi919))), (q_nt, .inr (2, [.ref q_en, .ref q_ba, .ref q_de, .int (nI n), .int (nI (prs t))])), (q_en, .inl (cI, 32, .inl (aE t))), (q_ba, .inl (cZ, 32, .inl (aB w))), (q_de, .inl (cI, 8, .inl (aN (dg t))))]) hP hD [0, 1, 2, 3, 4, 5, 6] [] rfl rfl (by decide) (by decide) hk1 hFc hP1 hD1
  have hP : va_P D vwCl [(q_lk, .inr (1, [.ref q_nt, .ref q_kn, .ref q_fi, .int (nI (cK n t 0))])), (q_kn, .inl (cI, 8, .inl (aN zkd918))), (q_fi, .inl (cI, 8, .inl (aN zfi919))), (q_nt, .inr (2, [.ref q_en, .ref q_ba, .ref q_de, .int (nI n), .int (nI (prs t))])), (q_en, .inl (cI, 32, .inl (aE t))), (q_ba, .inl (cZ, 32, .inl (aB w))), (q_de, .inl (cI, 8, .inl (aN (dg t))))] H1 := hP
  have hD : va_D A [(q_lk, .inr (1, [.ref q_nt, .ref q_kn, .ref q_fi, .int (nI (cK n t 0))])), (q_kn, .inl (cI, 8, .inl (aN zkd918))), (q_fi, .inl (cI, 8, .inl (aN zfi919))), (q_nt, .inr (2, [.ref q_en, .ref q_ba, .ref q_de, .int (nI n), .int (nI (prs t))])), (q_en, .inl (cI, 32, .inl (aE t))), (q_ba, .inl (cZ, 32, .inl (aB w))), (q_de, .inl (cI, 8, .inl (aN (dg t))))] := hD
  clear hP1 hD1 hk1 hz1 hFc hDc hPc ht hvm
  refine lv_iconst (v := nI 0) hx hb dX1_depthApart_4 (by decide +kernel) ?_
  refine lv_istore_n (lv' := [(3, .int (nI 0)), (0, .ref q_lk), (1, .int (nI a)), (2, .int (nI b))]) hx hb dX1_depthApart_5 rfl hl (by decide) rfl (fun ls hl => ?_)
  have hP9 : va_P D vwCl [(q_lk, .inr (1, [.ref q_nt, .ref q_kn, .ref q_fi, .int (nI (cK n t 0))])), (q_kn, .inl (cI, 8, .inl (aN zkd918))), (q_fi, .inl (cI, 8, .inl (aN zfi919))), (q_nt, .inr (2, [.ref q_en, .ref q_ba, .ref q_de, .int (nI n), .int (nI (prs t))])), (q_en, .inl (cI, 32, .inl (aE t))), (q_ba, .inl (cZ, 32, .inl (aB w))), (q_de, .inl (cI, 8, .inl (aN (dg t))))] H1 := hP.sub [0, 1, 2, 3, 4, 5, 6] rfl
  have hD9 : va_D A [(q_lk, .inr (1, [.ref q_nt, .ref q_kn, .ref q_fi, .int (nI (cK n t 0))])), (q_kn, .inl (cI, 8, .inl (aN zkd918))), (q_fi, .inl (cI, 8, .inl (aN zfi919))), (q_nt, .inr (2, [.ref q_en, .ref q_ba, .ref q_de, .int (nI n), .int (nI (prs t))])), (q_en, .inl (cI, 32, .inl (aE t))), (q_ba, .inl (cZ, 32, .inl (aB w))), (q_de, .inl (cI, 8, .inl (aN (dg t))))] := hD.sub [0, 1, 2, 3, 4, 5, 6] (by decide) rfl
  exact ((hX6 _ _ _ _).mp hw) _ _ hP9 hD9 hS ls (lv_sub hl [1, 2, 3, 0] rfl)
set_option maxRecDepth 100000 in
set_option maxHeartbeats 4000000 in
theorem w_X3_numberOf {l : Launch} {D : va_G} {cI cZ : ClassId} (vv : V_X3_numberOf) : K_X3_numberOf l D cI cZ := by
  intro bits len i hpre0 hpre1 hpre2
  have vw := vv bits len i hpre0 hpre1 hpre2
  refine Met.ofW (cc := cX3_numberOf) (maxL := 3) (ret := (some .int)) (by decide) rfl ?_
  intro zp ze zs zm zargs zbelow zmeth zc zs1 B hml hv
  obtain ⟨rfl, hZ, hP⟩ := hv
  have hx := B.exec
  have hb := B.bytes
  have hr := B.returns
  have hts := atoms_spec (ws := wsX3_numberOf) B.pre
  have hown : zs.vm.findClass RX3 = some zm.cls := findClass_of_methodNamed B.named
  have hlocks := B.notSynchronized
  have hP : va_P D vwCl [] zs.heap := hP
  have hl := lv_entry ([.int (nI bits), .int (nI len), .int (nI i)]) (n := 3) (Nat.le_of_ble_eq_true rfl)
  rw [lg_entry_eq]
  generalize (lg_sl ([.int (nI bits), .int (nI len), .int (nI i)]) ++ List.replicate (3 - (lg_sl ([.int (nI bits), .int (nI len), .int (nI i)])).length) Slot.unset).toArray = ls at hl ⊢
  have hl : lv_has ls 3 [(0, .int (nI bits)), (1, .int (nI len)), (2, .int (nI i))] := hl
  have hw := vw
  unfold B_X3_numberOf_in at hw
  refine lv_iload_n hx hb dX3_numberOf_0 rfl (lv_at hl 0 rfl) ?_
  refine lv_iload_n hx hb dX3_numberOf_1 rfl (lv_at hl 1 rfl) ?_
  refine lv_iconst (v := nI 1) hx hb dX3_numberOf_2 (by decide +kernel) ?_
  obtain ⟨zh1, hw⟩ := hw
  refine z_isub hx hb (pk_sub zh1) dX3_numberOf_3 ?_
  refine lv_iload_n hx hb dX3_numberOf_4 rfl (lv_at hl 2 rfl) ?_
  obtain ⟨zh2, hw⟩ := hw
  refine z_isub hx hb (pk_sub zh2) dX3_numberOf_5 ?_
  obtain ⟨zh3, hw⟩ := hw
  obtain ⟨zh4, hw⟩ := hw
  refine z_ishr hx hb (n_shr zh4 zh3) dX3_numberOf_6 ?_
  refine lv_iconst (v := nI 1) hx hb dX3_numberOf_7 (by decide +kernel) ?_
  refine z_iand hx hb (n_and _ _) dX3_numberOf_8 ?_
  have er := hw
  exact W.iret (v := nI ((bits >>> ((len - 1) - i)) &&& 1)) hx hb hr (fun t ht hW => ⟨_, rfl, (congrArg nI er), ht⟩) (fun _ h => by cases h) dX3_numberOf_9
set_option maxRecDepth 100000 in
set_option maxHeartbeats 4000000 in
theorem w_X3_walksAll {l : Launch} {D : va_G} {cI cZ : ClassId} (k_X3_numberOf : K_X3_numberOf l D cI cZ) (vv : V_X3_walksAll) : K_X3_walksAll l D cI cZ := by
  intro n ring st bits len hpre0 hpre1 hpre2 hpre3 hpre4 hpre5
  have vw := vv n ring st bits len hpre0 hpre1 hpre2 hpre3 hpre4 hpre5
  refine Met.ofW (cc := cX3_walksAll) (maxL := 9) (ret := (some .boolean)) (by decide) rfl ?_
  intro zp ze zs zm zargs zbelow zmeth zc zs1 B hml hv
  obtain ⟨rfl, hZ, hP⟩ := hv
  have hx := B.exec
  have hb := B.bytes
  have hr := B.returns
  have hts := atoms_spec (ws := wsX3_walksAll) B.pre
  have hown : zs.vm.findClass RX3 = some zm.cls := findClass_of_methodNamed B.named
  have hlocks := B.notSynchronized
  have hP : va_P D vwCl [] zs.heap := hP
  have hl := lv_entry ([.int (nI n), .int (nI ring), .int (nI st), .int (nI bits), .int (nI len)]) (n := 9) (Nat.le_of_ble_eq_true rfl)
  rw [lg_entry_eq]
  generalize (lg_sl ([.int (nI n), .int (nI ring), .int (nI st), .int (nI bits), .int (nI len)]) ++ List.replicate (9 - (lg_sl ([.int (nI n), .int (nI ring), .int (nI st), .int (nI bits), .int (nI len)])).length) Slot.unset).toArray = ls at hl ⊢
  have hl : lv_has ls 9 [(0, .int (nI n)), (1, .int (nI ring)), (2, .int (nI st)), (3, .int (nI bits)), (4, .int (nI len))] := hl
  obtain ⟨X11, hX11⟩ : ∃ X : Nat → Nat → Nat → Prop, ∀ (v5 : Nat) (v6 : Nat) (v7 : Nat), X v5 v6 v7 ↔ (∀ ls : Array Slot, lv_has ls 9 [(0, .int (nI n)), (1, .int (nI ring)), (2, .int (nI st)), (3, .int (nI bits)), (4, .int (nI len)), (5, .int (nI v5)), (6, .int (nI v6)), (7, .int (nI v7))] → W zp l ze (headSpec wsX3_walksAll ({ frames := 1, cells := 0, slots := 0, locals := 22 } : Room)).room zs zm ([.int (nI n), .int (nI ring), .int (nI st), .int (nI bits), .int (nI len)] : List Value).toArray zbelow zmeth zc zs.heap [] 0 0 (MQ zbelow (vp_Si (fun zr : Int32 => zr = bI (rwa n ring st bits len))) ([.int (nI n), .int (nI ring), .int (nI st), .int (nI bits), .int (nI len)] : List Value).toArray zs 0 0 (fun _ => False)) (F0 zm 11 ls [])) := ⟨_, fun _ _ _ => Iff.rfl⟩
  have b11 : ∀ (v5 : Nat) (v6 : Nat) (v7 : Nat), B_X3_walksAll_11 n ring st bits len X11 v5 v6 v7 → X11 v5 v6 v7 := by
    intro v5 v6 v7 hw
    rw [hX11]
    intro ls hl
    unfold B_X3_walksAll_11 at hw
    refine lv_iload hx hb dX3_walksAll_11 (lv_at hl 7 rfl) ?_
    refine lv_iload hx hb dX3_walksAll_13 (lv_at hl 4 rfl) ?_
    obtain ⟨zh1, hw⟩ := hw
    obtain ⟨zh2, hw⟩ := hw
    obtain ⟨hwt, hwf⟩ := hw
    refine z_icmp_ge hx hb zh1 zh2 (tgt := 94) dX3_walksAll_15 (by decide) (fun cc => ?_) (fun cc => ?_)
    · replace hw := hwt cc
      refine lv_iload hx hb dX3_walksAll_94 (lv_at hl 6 rfl) ?_
      refine lv_iconst (v := nI 1) hx hb dX3_walksAll_96 (by decide +kernel) ?_
      refine lv_iload_n hx hb dX3_walksAll_97 rfl (lv_at hl 0 rfl) ?_
      obtain ⟨zh3, hw⟩ := hw
      refine z_ishl hx hb (n_shl _ zh3) dX3_walksAll_98 ?_
      refine lv_iconst (v := nI 1) hx hb dX3_walksAll_99 (by decide +kernel) ?_
      obtain ⟨zh4, hw⟩ := hw
      refine z_isub hx hb (pk_sub zh4) dX3_walksAll_100 ?_
      obtain ⟨zh5, hw⟩ := hw
      obtain ⟨zh6, hw⟩ := hw
      obtain ⟨hwt, hwf⟩ := hw
      refine z_icmp_ne hx hb zh5 zh6 (tgt := 108) dX3_walksAll_101 (by decide) (fun cc => ?_) (fun cc => ?_)
      · replace hw := hwt cc
        refine lv_iconst (v := nI 0) hx hb dX3_walksAll_108 (by decide +kernel) ?_
        refine z_st (st' := [.int (bI false)]) rfl ?_
        have er := hw
        exact W.zret (ty := .boolean) (v := bI false) hx hb hr (bI_nar _) (fun t ht hW => ⟨_, rfl, (congrArg bI er), ht⟩) (fun _ h => by cases h) dX3_walksAll_109
      · replace hw := hwf cc
        refine lv_iconst (v := nI 1) hx hb dX3_walksAll_104 (by decide +kernel) ?_
        refine lv_goto (tgt := 109) hx hb dX3_walksAll_105 (by decide) ?_
        refine z_st (st' := [.int (bI true)]) rfl ?_
        have er := hw
        exact W.zret (ty := .boolean) (v := bI true) hx hb hr (bI_nar _) (fun t ht hW => ⟨_, rfl, (congrArg bI er), ht⟩) (fun _ h => by cases h) dX3_walksAll_109
    · replace hw := hwf cc
      refine lv_iload_n hx hb dX3_walksAll_18 rfl (lv_at hl 3 rfl) ?_
      refine lv_iload hx hb dX3_walksAll_19 (lv_at hl 4 rfl) ?_
      refine lv_iload hx hb dX3_walksAll_21 (lv_at hl 7 rfl) ?_
      obtain ⟨zh7, hw⟩ := hw
      obtain ⟨zh8, hw⟩ := hw
      obtain ⟨zh9, hw⟩ := hw
      have hPc : va_P D vwCl [] zs.heap := hP.sub [] rfl
      refine z_ro (va_runS (As := [.int (nI bits), .int (nI len), .int (nI v7)]) (rest := []) ⟨hx, hb, hml, hown, hts⟩ (k_X3_numberOf bits len v7 zh7 zh8 zh9) (va_cwS 3 hts gX3_walksAll_X3_numberOf rfl rfl rfl (by decide +kernel) ⟨Nat.le_of_ble_eq_true rfl, Nat.le_of_ble_eq_true rfl⟩) (zPr_S hZ hPc) rfl rfl hl.1 rfl (lv_room (Nat.le_of_ble_eq_true rfl)) dX3_walksAll_23 ⟨Nat.zero_le _, Nat.zero_le _⟩) (fun zr10 hzr10 => ?_)
      have ez := hzr10
      rw [ez]
      clear ez hzr10
      refine lv_iload_n hx hb dX3_walksAll_26 rfl (lv_at hl 1 rfl) ?_
      refine lv_iload hx hb dX3_walksAll_27 (lv_at hl 5 rfl) ?_
      obtain ⟨zh11, hw⟩ := hw
      obtain ⟨zh12, hw⟩ := hw
      refine z_ishr hx hb (n_shr zh12 zh11) dX3_walksAll_29 ?_
      refine lv_iconst (v := nI 1) hx hb dX3_walksAll_30 (by decide +kernel) ?_
      refine z_iand hx hb (n_and _ _) dX3_walksAll_31 ?_
      obtain ⟨zh13, hw⟩ := hw
      obtain ⟨zh14, hw⟩ := hw
      obtain ⟨hwt, hwf⟩ := hw
      refine z_icmp_ne hx hb zh13 zh14 (tgt := 39) dX3_walksAll_32 (by decide) (fun cc => ?_) (fun cc => ?_)
      · replace hw := hwt cc
        refine lv_iconst (v := nI 0) hx hb dX3_walksAll_39 (by decide +kernel) ?_
        refine lv_istore (lv' := [(8, .int (nI 0)), (0, .int (nI n)), (1, .int (nI ring)), (2, .int (nI st)), (3, .int (nI bits)), (4, .int (nI len)), (5, .int (nI v5)), (6, .int (nI v6)), (7, .int (nI v7))]) hx hb dX3_walksAll_40 hl (by decide) rfl (fun ls hl => ?_)
        refine lv_iload hx hb dX3_walksAll_42 (lv_at hl 6 rfl) ?_
        refine lv_iload hx hb dX3_walksAll_44 (lv_at hl 0 rfl) ?_
        obtain ⟨hwt, hwf⟩ := hw
        refine z_if_eq hx hb (by decide) (tgt := 53) dX3_walksAll_46 (by decide) (fun cc => ?_) (fun cc => ?_)
        · replace hw := hwt cc
          refine lv_iconst (v := (-1)) hx hb dX3_walksAll_53 (by decide +kernel) ?_
          refine z_iadd hx hb rfl dX3_walksAll_54 ?_
          obtain ⟨zx15, ezx15⟩ : ∃ zx15 : Int32, zx15 = (nI v5) + (-1) := ⟨_, rfl⟩
          replace hw := hw zx15 ezx15
          refine z_st (st' := [.int zx15]) (by rw [ezx15]) ?_
          refine lv_istore (lv' := [(5, .int zx15), (8, .int (nI 0)), (0, .int (nI n)), (1, .int (nI ring)), (2, .int (nI st)), (3, .int (nI bits)), (4, .int (nI len)), (6, .int (nI v6)), (7, .int (nI v7))]) hx hb dX3_walksAll_55 hl (by decide) rfl (fun ls hl => ?_)
          refine lv_iload hx hb dX3_walksAll_57 (lv_at hl 0 rfl) ?_
          refine lv_iload_n hx hb dX3_walksAll_59 rfl (lv_at hl 2 rfl) ?_
          obtain ⟨hwt, hwf⟩ := hw
          refine lv_icmp_ne hx hb (tgt := 69) dX3_walksAll_60 (by decide) (fun cc => ?_) (fun cc => ?_)
          · replace hw := hwt cc
            refine lv_iload hx hb dX3_walksAll_69 (lv_at hl 0 rfl) ?_
            obtain ⟨hwt, hwf⟩ := hw
            refine lv_if_ge hx hb (tgt := 79) dX3_walksAll_71 (by decide) (fun cc => ?_) (fun cc => ?_)
            · replace hw := hwt cc
              refine lv_iload hx hb dX3_walksAll_79 (lv_at hl 7 rfl) ?_
              refine lv_iconst (v := nI 1) hx hb dX3_walksAll_81 (by decide +kernel) ?_
              refine lv_iload hx hb dX3_walksAll_82 (lv_at hl 0 rfl) ?_
              obtain ⟨zk16, ezk16, hw⟩ := hw
              refine z_st (st' := [.int (nI zk16), .int (nI 1), .int (nI v6)]) (by rw [ezk16]) ?_
              obtain ⟨zh17, hw⟩ := hw
              refine z_ishl hx hb (n_shl _ zh17) dX3_walksAll_84 ?_
              refine z_ior hx hb (n_or _ _) dX3_walksAll_85 ?_
              obtain ⟨zx18, ezx18⟩ : ∃ zx18 : Nat, zx18 = v6 ||| (1 <<< zk16) := ⟨_, rfl⟩
              replace hw := hw zx18 ezx18
              refine z_st (st' := [.int (nI zx18)]) (by rw [ezx18]) ?_
              refine lv_istore (lv' := [(6, .int (nI zx18)), (5, .int zx15), (8, .int (nI 0)), (0, .int (nI n)), (1, .int (nI ring)), (2, .int (nI st)), (3, .int (nI bits)), (4, .int (nI len)), (7, .int (nI v7))]) hx hb dX3_walksAll_86 hl (by decide) rfl (fun ls hl => ?_)
              refine lv_iinc (v := nI (v7 + 1)) (lv' := [(7, .int (nI (v7 + 1))), (6, .int (nI zx18)), (5, .int zx15), (8, .int (nI 0)), (0, .int (nI n)), (1, .int (nI ring)), (2, .int (nI st)), (3, .int (nI bits)), (4, .int (nI len))]) hx hb dX3_walksAll_88 hl (k := 8) rfl (by rw [show Int32.ofInt 1 = nI 1 from by decide +kernel]; exact nI_add _ _) (by decide) rfl (fun ls hl => ?_)
              refine lv_goto (tgt := 11) hx hb dX3_walksAll_91 (by decide) ?_
              obtain ⟨zk19, ezk19, hw⟩ := hw
              exact ((hX11 _ _ _).mp hw) ls (show lv_has ls 9 [(0, .int (nI n)), (1, .int (nI ring)), (2, .int (nI st)), (3, .int (nI bits)), (4, .int (nI len)), (5, .int (nI zk19)), (6, .int (nI zx18)), (7, .int (nI (v7 + 1)))] from by rw [← ezk19]; exact lv_sub hl [4, 5, 6, 7, 8, 2, 1, 0] rfl)
            · replace hw := hwf cc
              refine lv_iload_n hx hb dX3_walksAll_74 rfl (lv_at hl 2 rfl) ?_
              refine lv_iconst (v := nI 1) hx hb dX3_walksAll_75 (by decide +kernel) ?_
              obtain ⟨zh20, hw⟩ := hw
              refine z_isub hx hb (pk_sub zh20) dX3_walksAll_76 ?_
              obtain ⟨zx21, ezx21⟩ : ∃ zx21 : Nat, zx21 = n - 1 := ⟨_, rfl⟩
              replace hw := hw zx21 ezx21
              refine z_st (st' := [.int (nI zx21)]) (by rw [ezx21]) ?_
              refine lv_istore (lv' := [(5, .int (nI zx21)), (8, .int (nI 0)), (0, .int (nI n)), (1, .int (nI ring)), (2, .int (nI st)), (3, .int (nI bits)), (4, .int (nI len)), (6, .int (nI v6)), (7, .int (nI v7))]) hx hb dX3_walksAll_77 hl (by decide) rfl (fun ls hl => ?_)
              refine lv_iload hx hb dX3_walksAll_79 (lv_at hl 7 rfl) ?_
              refine lv_iconst (v := nI 1) hx hb dX3_walksAll_81 (by decide +kernel) ?_
              refine lv_iload hx hb dX3_walksAll_82 (lv_at hl 0 rfl) ?_
              obtain ⟨zh22, hw⟩ := hw
              refine z_ishl hx hb (n_shl _ zh22) dX3_walksAll_84 ?_
              refine z_ior hx hb (n_or _ _) dX3_walksAll_85 ?_
              obtain ⟨zx23, ezx23⟩ : ∃ zx23 : Nat, zx23 = v6 ||| (1 <<< zx21) := ⟨_, rfl⟩
              replace hw := hw zx23 ezx23
              refine z_st (st' := [.int (nI zx23)]) (by rw [ezx23]) ?_
              refine lv_istore (lv' := [(6, .int (nI zx23)), (5, .int (nI zx21)), (8, .int (nI 0)), (0, .int (nI n)), (1, .int (nI ring)), (2, .int (nI st)), (3, .int (nI bits)), (4, .int (nI len)), (7, .int (nI v7))]) hx hb dX3_walksAll_86 hl (by decide) rfl (fun ls hl => ?_)
              refine lv_iinc (v := nI (v7 + 1)) (lv' := [(7, .int (nI (v7 + 1))), (6, .int (nI zx23)), (5, .int (nI zx21)), (8, .int (nI 0)), (0, .int (nI n)), (1, .int (nI ring)), (2, .int (nI st)), (3, .int (nI bits)), (4, .int (nI len))]) hx hb dX3_walksAll_88 hl (k := 8) rfl (by rw [show Int32.ofInt 1 = nI 1 from by decide +kernel]; exact nI_add _ _) (by decide) rfl (fun ls hl => ?_)
              refine lv_goto (tgt := 11) hx hb dX3_walksAll_91 (by decide) ?_
              exact ((hX11 _ _ _).mp hw) ls (lv_sub hl [4, 5, 6, 7, 8, 2, 1, 0] rfl)
          · replace hw := hwf cc
            refine lv_iconst (v := nI 0) hx hb dX3_walksAll_63 (by decide +kernel) ?_
            refine lv_istore (lv' := [(5, .int (nI 0)), (8, .int (nI 0)), (0, .int (nI n)), (1, .int (nI ring)), (2, .int (nI st)), (3, .int (nI bits)), (4, .int (nI len)), (6, .int (nI v6)), (7, .int (nI v7))]) hx hb dX3_walksAll_64 hl (by decide) rfl (fun ls hl => ?_)
            refine lv_goto (tgt := 79) hx hb dX3_walksAll_66 (by decide) ?_
            refine lv_iload hx hb dX3_walksAll_79 (lv_at hl 7 rfl) ?_
            refine lv_iconst (v := nI 1) hx hb dX3_walksAll_81 (by decide +kernel) ?_
            refine lv_iload hx hb dX3_walksAll_82 (lv_at hl 0 rfl) ?_
            refine z_ishl hx hb (n_shl _ (by decide)) dX3_walksAll_84 ?_
            refine z_ior hx hb (n_or _ _) dX3_walksAll_85 ?_
            obtain ⟨zx24, ezx24⟩ : ∃ zx24 : Nat, zx24 = v6 ||| (1 <<< 0) := ⟨_, rfl⟩
            replace hw := hw zx24 ezx24
            refine z_st (st' := [.int (nI zx24)]) (by rw [ezx24]) ?_
            refine lv_istore (lv' := [(6, .int (nI zx24)), (5, .int (nI 0)), (8, .int (nI 0)), (0, .int (nI n)), (1, .int (nI ring)), (2, .int (nI st)), (3, .int (nI bits)), (4, .int (nI len)), (7, .int (nI v7))]) hx hb dX3_walksAll_86 hl (by decide) rfl (fun ls hl => ?_)
            refine lv_iinc (v := nI (v7 + 1)) (lv' := [(7, .int (nI (v7 + 1))), (6, .int (nI zx24)), (5, .int (nI 0)), (8, .int (nI 0)), (0, .int (nI n)), (1, .int (nI ring)), (2, .int (nI st)), (3, .int (nI bits)), (4, .int (nI len))]) hx hb dX3_walksAll_88 hl (k := 8) rfl (by rw [show Int32.ofInt 1 = nI 1 from by decide +kernel]; exact nI_add _ _) (by decide) rfl (fun ls hl => ?_)
            refine lv_goto (tgt := 11) hx hb dX3_walksAll_91 (by decide) ?_
            exact ((hX11 _ _ _).mp hw) ls (lv_sub hl [4, 5, 6, 7, 8, 2, 1, 0] rfl)
        · replace hw := hwf cc
          refine lv_iconst (v := nI 1) hx hb dX3_walksAll_49 (by decide +kernel) ?_
          refine lv_goto (tgt := 54) hx hb dX3_walksAll_50 (by decide) ?_
          refine z_iadd hx hb (nI_add _ _) dX3_walksAll_54 ?_
          obtain ⟨zx25, ezx25⟩ : ∃ zx25 : Nat, zx25 = v5 + 1 := ⟨_, rfl⟩
          replace hw := hw zx25 ezx25
          refine z_st (st' := [.int (nI zx25)]) (by rw [ezx25]) ?_
          refine lv_istore (lv' := [(5, .int (nI zx25)), (8, .int (nI 0)), (0, .int (nI n)), (1, .int (nI ring)), (2, .int (nI st)), (3, .int (nI bits)), (4, .int (nI len)), (6, .int (nI v6)), (7, .int (nI v7))]) hx hb dX3_walksAll_55 hl (by decide) rfl (fun ls hl => ?_)
          refine lv_iload hx hb dX3_walksAll_57 (lv_at hl 0 rfl) ?_
          refine lv_iload_n hx hb dX3_walksAll_59 rfl (lv_at hl 2 rfl) ?_
          obtain ⟨zh26, hw⟩ := hw
          obtain ⟨zh27, hw⟩ := hw
          obtain ⟨hwt, hwf⟩ := hw
          refine z_icmp_ne hx hb zh26 zh27 (tgt := 69) dX3_walksAll_60 (by decide) (fun cc => ?_) (fun cc => ?_)
          · replace hw := hwt cc
            refine lv_iload hx hb dX3_walksAll_69 (lv_at hl 0 rfl) ?_
            obtain ⟨zh28, hw⟩ := hw
            refine z_if_ge hx hb zh28 (tgt := 79) dX3_walksAll_71 (by decide) ?_
            refine lv_iload hx hb dX3_walksAll_79 (lv_at hl 7 rfl) ?_
            refine lv_iconst (v := nI 1) hx hb dX3_walksAll_81 (by decide +kernel) ?_
            refine lv_iload hx hb dX3_walksAll_82 (lv_at hl 0 rfl) ?_
            obtain ⟨zh29, hw⟩ := hw
            refine z_ishl hx hb (n_shl _ zh29) dX3_walksAll_84 ?_
            refine z_ior hx hb (n_or _ _) dX3_walksAll_85 ?_
            obtain ⟨zx30, ezx30⟩ : ∃ zx30 : Nat, zx30 = v6 ||| (1 <<< zx25) := ⟨_, rfl⟩
            replace hw := hw zx30 ezx30
            refine z_st (st' := [.int (nI zx30)]) (by rw [ezx30]) ?_
            refine lv_istore (lv' := [(6, .int (nI zx30)), (5, .int (nI zx25)), (8, .int (nI 0)), (0, .int (nI n)), (1, .int (nI ring)), (2, .int (nI st)), (3, .int (nI bits)), (4, .int (nI len)), (7, .int (nI v7))]) hx hb dX3_walksAll_86 hl (by decide) rfl (fun ls hl => ?_)
            refine lv_iinc (v := nI (v7 + 1)) (lv' := [(7, .int (nI (v7 + 1))), (6, .int (nI zx30)), (5, .int (nI zx25)), (8, .int (nI 0)), (0, .int (nI n)), (1, .int (nI ring)), (2, .int (nI st)), (3, .int (nI bits)), (4, .int (nI len))]) hx hb dX3_walksAll_88 hl (k := 8) rfl (by rw [show Int32.ofInt 1 = nI 1 from by decide +kernel]; exact nI_add _ _) (by decide) rfl (fun ls hl => ?_)
            refine lv_goto (tgt := 11) hx hb dX3_walksAll_91 (by decide) ?_
            exact ((hX11 _ _ _).mp hw) ls (lv_sub hl [4, 5, 6, 7, 8, 2, 1, 0] rfl)
          · replace hw := hwf cc
            refine lv_iconst (v := nI 0) hx hb dX3_walksAll_63 (by decide +kernel) ?_
            refine lv_istore (lv' := [(5, .int (nI 0)), (8, .int (nI 0)), (0, .int (nI n)), (1, .int (nI ring)), (2, .int (nI st)), (3, .int (nI bits)), (4, .int (nI len)), (6, .int (nI v6)), (7, .int (nI v7))]) hx hb dX3_walksAll_64 hl (by decide) rfl (fun ls hl => ?_)
            refine lv_goto (tgt := 79) hx hb dX3_walksAll_66 (by decide) ?_
            refine lv_iload hx hb dX3_walksAll_79 (lv_at hl 7 rfl) ?_
            refine lv_iconst (v := nI 1) hx hb dX3_walksAll_81 (by decide +kernel) ?_
            refine lv_iload hx hb dX3_walksAll_82 (lv_at hl 0 rfl) ?_
            refine z_ishl hx hb (n_shl _ (by decide)) dX3_walksAll_84 ?_
            refine z_ior hx hb (n_or _ _) dX3_walksAll_85 ?_
            obtain ⟨zx31, ezx31⟩ : ∃ zx31 : Nat, zx31 = v6 ||| (1 <<< 0) := ⟨_, rfl⟩
            replace hw := hw zx31 ezx31
            refine z_st (st' := [.int (nI zx31)]) (by rw [ezx31]) ?_
            refine lv_istore (lv' := [(6, .int (nI zx31)), (5, .int (nI 0)), (8, .int (nI 0)), (0, .int (nI n)), (1, .int (nI ring)), (2, .int (nI st)), (3, .int (nI bits)), (4, .int (nI len)), (7, .int (nI v7))]) hx hb dX3_walksAll_86 hl (by decide) rfl (fun ls hl => ?_)
            refine lv_iinc (v := nI (v7 + 1)) (lv' := [(7, .int (nI (v7 + 1))), (6, .int (nI zx31)), (5, .int (nI 0)), (8, .int (nI 0)), (0, .int (nI n)), (1, .int (nI ring)), (2, .int (nI st)), (3, .int (nI bits)), (4, .int (nI len))]) hx hb dX3_walksAll_88 hl (k := 8) rfl (by rw [show Int32.ofInt 1 = nI 1 from by decide +kernel]; exact nI_add _ _) (by decide) rfl (fun ls hl => ?_)
            refine lv_goto (tgt := 11) hx hb dX3_walksAll_91 (by decide) ?_
            exact ((hX11 _ _ _).mp hw) ls (lv_sub hl [4, 5, 6, 7, 8, 2, 1, 0] rfl)
      · replace hw := hwf cc
        refine lv_iconst (v := nI 1) hx hb dX3_walksAll_35 (by decide +kernel) ?_
        refine lv_goto (tgt := 40) hx hb dX3_walksAll_36 (by decide) ?_
        refine lv_istore (lv' := [(8, .int (nI 1)), (0, .int (nI n)), (1, .int (nI ring)), (2, .int (nI st)), (3, .int (nI bits)), (4, .int (nI len)), (5, .int (nI v5)), (6, .int (nI v6)), (7, .int (nI v7))]) hx hb dX3_walksAll_40 hl (by decide) rfl (fun ls hl => ?_)
        refine lv_iload hx hb dX3_walksAll_42 (lv_at hl 6 rfl) ?_
        refine lv_iload hx hb dX3_walksAll_44 (lv_at hl 0 rfl) ?_
        obtain ⟨hwt, hwf⟩ := hw
        refine z_if_eq hx hb (by decide) (tgt := 53) dX3_walksAll_46 (by decide) (fun cc => ?_) (fun cc => ?_)
        · replace hw := hwt cc
          refine lv_iconst (v := (-1)) hx hb dX3_walksAll_53 (by decide +kernel) ?_
          refine z_iadd hx hb rfl dX3_walksAll_54 ?_
          obtain ⟨zx32, ezx32⟩ : ∃ zx32 : Int32, zx32 = (nI v5) + (-1) := ⟨_, rfl⟩
          replace hw := hw zx32 ezx32
          refine z_st (st' := [.int zx32]) (by rw [ezx32]) ?_
          refine lv_istore (lv' := [(5, .int zx32), (8, .int (nI 1)), (0, .int (nI n)), (1, .int (nI ring)), (2, .int (nI st)), (3, .int (nI bits)), (4, .int (nI len)), (6, .int (nI v6)), (7, .int (nI v7))]) hx hb dX3_walksAll_55 hl (by decide) rfl (fun ls hl => ?_)
          refine lv_iload hx hb dX3_walksAll_57 (lv_at hl 0 rfl) ?_
          refine lv_iload_n hx hb dX3_walksAll_59 rfl (lv_at hl 2 rfl) ?_
          obtain ⟨hwt, hwf⟩ := hw
          refine lv_icmp_ne hx hb (tgt := 69) dX3_walksAll_60 (by decide) (fun cc => ?_) (fun cc => ?_)
          · replace hw := hwt cc
            refine lv_iload hx hb dX3_walksAll_69 (lv_at hl 0 rfl) ?_
            obtain ⟨hwt, hwf⟩ := hw
            refine lv_if_ge hx hb (tgt := 79) dX3_walksAll_71 (by decide) (fun cc => ?_) (fun cc => ?_)
            · replace hw := hwt cc
              refine lv_iload hx hb dX3_walksAll_79 (lv_at hl 7 rfl) ?_
              refine lv_iconst (v := nI 1) hx hb dX3_walksAll_81 (by decide +kernel) ?_
              refine lv_iload hx hb dX3_walksAll_82 (lv_at hl 0 rfl) ?_
              obtain ⟨zk33, ezk33, hw⟩ := hw
              refine z_st (st' := [.int (nI zk33), .int (nI 1), .int (nI v6)]) (by rw [ezk33]) ?_
              obtain ⟨zh34, hw⟩ := hw
              refine z_ishl hx hb (n_shl _ zh34) dX3_walksAll_84 ?_
              refine z_ior hx hb (n_or _ _) dX3_walksAll_85 ?_
              obtain ⟨zx35, ezx35⟩ : ∃ zx35 : Nat, zx35 = v6 ||| (1 <<< zk33) := ⟨_, rfl⟩
              replace hw := hw zx35 ezx35
              refine z_st (st' := [.int (nI zx35)]) (by rw [ezx35]) ?_
              refine lv_istore (lv' := [(6, .int (nI zx35)), (5, .int zx32), (8, .int (nI 1)), (0, .int (nI n)), (1, .int (nI ring)), (2, .int (nI st)), (3, .int (nI bits)), (4, .int (nI len)), (7, .int (nI v7))]) hx hb dX3_walksAll_86 hl (by decide) rfl (fun ls hl => ?_)
              refine lv_iinc (v := nI (v7 + 1)) (lv' := [(7, .int (nI (v7 + 1))), (6, .int (nI zx35)), (5, .int zx32), (8, .int (nI 1)), (0, .int (nI n)), (1, .int (nI ring)), (2, .int (nI st)), (3, .int (nI bits)), (4, .int (nI len))]) hx hb dX3_walksAll_88 hl (k := 8) rfl (by rw [show Int32.ofInt 1 = nI 1 from by decide +kernel]; exact nI_add _ _) (by decide) rfl (fun ls hl => ?_)
              refine lv_goto (tgt := 11) hx hb dX3_walksAll_91 (by decide) ?_
              obtain ⟨zk36, ezk36, hw⟩ := hw
              exact ((hX11 _ _ _).mp hw) ls (show lv_has ls 9 [(0, .int (nI n)), (1, .int (nI ring)), (2, .int (nI st)), (3, .int (nI bits)), (4, .int (nI len)), (5, .int (nI zk36)), (6, .int (nI zx35)), (7, .int (nI (v7 + 1)))] from by rw [← ezk36]; exact lv_sub hl [4, 5, 6, 7, 8, 2, 1, 0] rfl)
            · replace hw := hwf cc
              refine lv_iload_n hx hb dX3_walksAll_74 rfl (lv_at hl 2 rfl) ?_
              refine lv_iconst (v := nI 1) hx hb dX3_walksAll_75 (by decide +kernel) ?_
              obtain ⟨zh37, hw⟩ := hw
              refine z_isub hx hb (pk_sub zh37) dX3_walksAll_76 ?_
              obtain ⟨zx38, ezx38⟩ : ∃ zx38 : Nat, zx38 = n - 1 := ⟨_, rfl⟩
              replace hw := hw zx38 ezx38
              refine z_st (st' := [.int (nI zx38)]) (by rw [ezx38]) ?_
              refine lv_istore (lv' := [(5, .int (nI zx38)), (8, .int (nI 1)), (0, .int (nI n)), (1, .int (nI ring)), (2, .int (nI st)), (3, .int (nI bits)), (4, .int (nI len)), (6, .int (nI v6)), (7, .int (nI v7))]) hx hb dX3_walksAll_77 hl (by decide) rfl (fun ls hl => ?_)
              refine lv_iload hx hb dX3_walksAll_79 (lv_at hl 7 rfl) ?_
              refine lv_iconst (v := nI 1) hx hb dX3_walksAll_81 (by decide +kernel) ?_
              refine lv_iload hx hb dX3_walksAll_82 (lv_at hl 0 rfl) ?_
              obtain ⟨zh39, hw⟩ := hw
              refine z_ishl hx hb (n_shl _ zh39) dX3_walksAll_84 ?_
              refine z_ior hx hb (n_or _ _) dX3_walksAll_85 ?_
              obtain ⟨zx40, ezx40⟩ : ∃ zx40 : Nat, zx40 = v6 ||| (1 <<< zx38) := ⟨_, rfl⟩
              replace hw := hw zx40 ezx40
              refine z_st (st' := [.int (nI zx40)]) (by rw [ezx40]) ?_
              refine lv_istore (lv' := [(6, .int (nI zx40)), (5, .int (nI zx38)), (8, .int (nI 1)), (0, .int (nI n)), (1, .int (nI ring)), (2, .int (nI st)), (3, .int (nI bits)), (4, .int (nI len)), (7, .int (nI v7))]) hx hb dX3_walksAll_86 hl (by decide) rfl (fun ls hl => ?_)
              refine lv_iinc (v := nI (v7 + 1)) (lv' := [(7, .int (nI (v7 + 1))), (6, .int (nI zx40)), (5, .int (nI zx38)), (8, .int (nI 1)), (0, .int (nI n)), (1, .int (nI ring)), (2, .int (nI st)), (3, .int (nI bits)), (4, .int (nI len))]) hx hb dX3_walksAll_88 hl (k := 8) rfl (by rw [show Int32.ofInt 1 = nI 1 from by decide +kernel]; exact nI_add _ _) (by decide) rfl (fun ls hl => ?_)
              refine lv_goto (tgt := 11) hx hb dX3_walksAll_91 (by decide) ?_
              exact ((hX11 _ _ _).mp hw) ls (lv_sub hl [4, 5, 6, 7, 8, 2, 1, 0] rfl)
          · replace hw := hwf cc
            refine lv_iconst (v := nI 0) hx hb dX3_walksAll_63 (by decide +kernel) ?_
            refine lv_istore (lv' := [(5, .int (nI 0)), (8, .int (nI 1)), (0, .int (nI n)), (1, .int (nI ring)), (2, .int (nI st)), (3, .int (nI bits)), (4, .int (nI len)), (6, .int (nI v6)), (7, .int (nI v7))]) hx hb dX3_walksAll_64 hl (by decide) rfl (fun ls hl => ?_)
            refine lv_goto (tgt := 79) hx hb dX3_walksAll_66 (by decide) ?_
            refine lv_iload hx hb dX3_walksAll_79 (lv_at hl 7 rfl) ?_
            refine lv_iconst (v := nI 1) hx hb dX3_walksAll_81 (by decide +kernel) ?_
            refine lv_iload hx hb dX3_walksAll_82 (lv_at hl 0 rfl) ?_
            refine z_ishl hx hb (n_shl _ (by decide)) dX3_walksAll_84 ?_
            refine z_ior hx hb (n_or _ _) dX3_walksAll_85 ?_
            obtain ⟨zx41, ezx41⟩ : ∃ zx41 : Nat, zx41 = v6 ||| (1 <<< 0) := ⟨_, rfl⟩
            replace hw := hw zx41 ezx41
            refine z_st (st' := [.int (nI zx41)]) (by rw [ezx41]) ?_
            refine lv_istore (lv' := [(6, .int (nI zx41)), (5, .int (nI 0)), (8, .int (nI 1)), (0, .int (nI n)), (1, .int (nI ring)), (2, .int (nI st)), (3, .int (nI bits)), (4, .int (nI len)), (7, .int (nI v7))]) hx hb dX3_walksAll_86 hl (by decide) rfl (fun ls hl => ?_)
            refine lv_iinc (v := nI (v7 + 1)) (lv' := [(7, .int (nI (v7 + 1))), (6, .int (nI zx41)), (5, .int (nI 0)), (8, .int (nI 1)), (0, .int (nI n)), (1, .int (nI ring)), (2, .int (nI st)), (3, .int (nI bits)), (4, .int (nI len))]) hx hb dX3_walksAll_88 hl (k := 8) rfl (by rw [show Int32.ofInt 1 = nI 1 from by decide +kernel]; exact nI_add _ _) (by decide) rfl (fun ls hl => ?_)
            refine lv_goto (tgt := 11) hx hb dX3_walksAll_91 (by decide) ?_
            exact ((hX11 _ _ _).mp hw) ls (lv_sub hl [4, 5, 6, 7, 8, 2, 1, 0] rfl)
        · replace hw := hwf cc
          refine lv_iconst (v := nI 1) hx hb dX3_walksAll_49 (by decide +kernel) ?_
          refine lv_goto (tgt := 54) hx hb dX3_walksAll_50 (by decide) ?_
          refine z_iadd hx hb (nI_add _ _) dX3_walksAll_54 ?_
          obtain ⟨zx42, ezx42⟩ : ∃ zx42 : Nat, zx42 = v5 + 1 := ⟨_, rfl⟩
          replace hw := hw zx42 ezx42
          refine z_st (st' := [.int (nI zx42)]) (by rw [ezx42]) ?_
          refine lv_istore (lv' := [(5, .int (nI zx42)), (8, .int (nI 1)), (0, .int (nI n)), (1, .int (nI ring)), (2, .int (nI st)), (3, .int (nI bits)), (4, .int (nI len)), (6, .int (nI v6)), (7, .int (nI v7))]) hx hb dX3_walksAll_55 hl (by decide) rfl (fun ls hl => ?_)
          refine lv_iload hx hb dX3_walksAll_57 (lv_at hl 0 rfl) ?_
          refine lv_iload_n hx hb dX3_walksAll_59 rfl (lv_at hl 2 rfl) ?_
          obtain ⟨zh43, hw⟩ := hw
          obtain ⟨zh44, hw⟩ := hw
          obtain ⟨hwt, hwf⟩ := hw
          refine z_icmp_ne hx hb zh43 zh44 (tgt := 69) dX3_walksAll_60 (by decide) (fun cc => ?_) (fun cc => ?_)
          · replace hw := hwt cc
            refine lv_iload hx hb dX3_walksAll_69 (lv_at hl 0 rfl) ?_
            obtain ⟨zh45, hw⟩ := hw
            refine z_if_ge hx hb zh45 (tgt := 79) dX3_walksAll_71 (by decide) ?_
            refine lv_iload hx hb dX3_walksAll_79 (lv_at hl 7 rfl) ?_
            refine lv_iconst (v := nI 1) hx hb dX3_walksAll_81 (by decide +kernel) ?_
            refine lv_iload hx hb dX3_walksAll_82 (lv_at hl 0 rfl) ?_
            obtain ⟨zh46, hw⟩ := hw
            refine z_ishl hx hb (n_shl _ zh46) dX3_walksAll_84 ?_
            refine z_ior hx hb (n_or _ _) dX3_walksAll_85 ?_
            obtain ⟨zx47, ezx47⟩ : ∃ zx47 : Nat, zx47 = v6 ||| (1 <<< zx42) := ⟨_, rfl⟩
            replace hw := hw zx47 ezx47
            refine z_st (st' := [.int (nI zx47)]) (by rw [ezx47]) ?_
            refine lv_istore (lv' := [(6, .int (nI zx47)), (5, .int (nI zx42)), (8, .int (nI 1)), (0, .int (nI n)), (1, .int (nI ring)), (2, .int (nI st)), (3, .int (nI bits)), (4, .int (nI len)), (7, .int (nI v7))]) hx hb dX3_walksAll_86 hl (by decide) rfl (fun ls hl => ?_)
            refine lv_iinc (v := nI (v7 + 1)) (lv' := [(7, .int (nI (v7 + 1))), (6, .int (nI zx47)), (5, .int (nI zx42)), (8, .int (nI 1)), (0, .int (nI n)), (1, .int (nI ring)), (2, .int (nI st)), (3, .int (nI bits)), (4, .int (nI len))]) hx hb dX3_walksAll_88 hl (k := 8) rfl (by rw [show Int32.ofInt 1 = nI 1 from by decide +kernel]; exact nI_add _ _) (by decide) rfl (fun ls hl => ?_)
            refine lv_goto (tgt := 11) hx hb dX3_walksAll_91 (by decide) ?_
            exact ((hX11 _ _ _).mp hw) ls (lv_sub hl [4, 5, 6, 7, 8, 2, 1, 0] rfl)
          · replace hw := hwf cc
            refine lv_iconst (v := nI 0) hx hb dX3_walksAll_63 (by decide +kernel) ?_
            refine lv_istore (lv' := [(5, .int (nI 0)), (8, .int (nI 1)), (0, .int (nI n)), (1, .int (nI ring)), (2, .int (nI st)), (3, .int (nI bits)), (4, .int (nI len)), (6, .int (nI v6)), (7, .int (nI v7))]) hx hb dX3_walksAll_64 hl (by decide) rfl (fun ls hl => ?_)
            refine lv_goto (tgt := 79) hx hb dX3_walksAll_66 (by decide) ?_
            refine lv_iload hx hb dX3_walksAll_79 (lv_at hl 7 rfl) ?_
            refine lv_iconst (v := nI 1) hx hb dX3_walksAll_81 (by decide +kernel) ?_
            refine lv_iload hx hb dX3_walksAll_82 (lv_at hl 0 rfl) ?_
            refine z_ishl hx hb (n_shl _ (by decide)) dX3_walksAll_84 ?_
            refine z_ior hx hb (n_or _ _) dX3_walksAll_85 ?_
            obtain ⟨zx48, ezx48⟩ : ∃ zx48 : Nat, zx48 = v6 ||| (1 <<< 0) := ⟨_, rfl⟩
            replace hw := hw zx48 ezx48
            refine z_st (st' := [.int (nI zx48)]) (by rw [ezx48]) ?_
            refine lv_istore (lv' := [(6, .int (nI zx48)), (5, .int (nI 0)), (8, .int (nI 1)), (0, .int (nI n)), (1, .int (nI ring)), (2, .int (nI st)), (3, .int (nI bits)), (4, .int (nI len)), (7, .int (nI v7))]) hx hb dX3_walksAll_86 hl (by decide) rfl (fun ls hl => ?_)
            refine lv_iinc (v := nI (v7 + 1)) (lv' := [(7, .int (nI (v7 + 1))), (6, .int (nI zx48)), (5, .int (nI 0)), (8, .int (nI 1)), (0, .int (nI n)), (1, .int (nI ring)), (2, .int (nI st)), (3, .int (nI bits)), (4, .int (nI len))]) hx hb dX3_walksAll_88 hl (k := 8) rfl (by rw [show Int32.ofInt 1 = nI 1 from by decide +kernel]; exact nI_add _ _) (by decide) rfl (fun ls hl => ?_)
            refine lv_goto (tgt := 11) hx hb dX3_walksAll_91 (by decide) ?_
            exact ((hX11 _ _ _).mp hw) ls (lv_sub hl [4, 5, 6, 7, 8, 2, 1, 0] rfl)
  have hw := vw X11 b11
  unfold B_X3_walksAll_in at hw
  refine lv_iload_n hx hb dX3_walksAll_0 rfl (lv_at hl 2 rfl) ?_
  refine lv_istore (lv' := [(5, .int (nI st)), (0, .int (nI n)), (1, .int (nI ring)), (2, .int (nI st)), (3, .int (nI bits)), (4, .int (nI len))]) hx hb dX3_walksAll_1 hl (by decide) rfl (fun ls hl => ?_)
  refine lv_iconst (v := nI 1) hx hb dX3_walksAll_3 (by decide +kernel) ?_
  refine lv_iload_n hx hb dX3_walksAll_4 rfl (lv_at hl 3 rfl) ?_
  obtain ⟨zh49, hw⟩ := hw
  refine z_ishl hx hb (n_shl _ zh49) dX3_walksAll_5 ?_
  obtain ⟨zx50, ezx50⟩ : ∃ zx50 : Nat, zx50 = 1 <<< st := ⟨_, rfl⟩
  replace hw := hw zx50 ezx50
  refine z_st (st' := [.int (nI zx50)]) (by rw [ezx50]) ?_
  refine lv_istore (lv' := [(6, .int (nI zx50)), (5, .int (nI st)), (0, .int (nI n)), (1, .int (nI ring)), (2, .int (nI st)), (3, .int (nI bits)), (4, .int (nI len))]) hx hb dX3_walksAll_6 hl (by decide) rfl (fun ls hl => ?_)
  refine lv_iconst (v := nI 0) hx hb dX3_walksAll_8 (by decide +kernel) ?_
  refine lv_istore (lv' := [(7, .int (nI 0)), (6, .int (nI zx50)), (5, .int (nI st)), (0, .int (nI n)), (1, .int (nI ring)), (2, .int (nI st)), (3, .int (nI bits)), (4, .int (nI len))]) hx hb dX3_walksAll_9 hl (by decide) rfl (fun ls hl => ?_)
  exact ((hX11 _ _ _).mp hw) ls (lv_sub hl [3, 4, 5, 6, 7, 2, 1, 0] rfl)
set_option maxRecDepth 100000 in
set_option maxHeartbeats 4000000 in
theorem w_X3_walksAllRings {l : Launch} {D : va_G} {cI cZ : ClassId} (k_X3_walksAll : K_X3_walksAll l D cI cZ) (vv : V_X3_walksAllRings) : K_X3_walksAllRings l D cI cZ := by
  intro n bits len hpre0 hpre1 hpre2 hpre3
  have vw := vv n bits len hpre0 hpre1 hpre2 hpre3
  refine Met.ofW (cc := cX3_walksAllRings) (maxL := 5) (ret := (some .boolean)) (by decide) rfl ?_
  intro zp ze zs zm zargs zbelow zmeth zc zs1 B hml hv
  obtain ⟨rfl, hZ, hP⟩ := hv
  have hx := B.exec
  have hb := B.bytes
  have hr := B.returns
  have hts := atoms_spec (ws := wsX3_walksAllRings) B.pre
  have hown : zs.vm.findClass RX3 = some zm.cls := findClass_of_methodNamed B.named
  have hlocks := B.notSynchronized
  have hP : va_P D vwCl [] zs.heap := hP
  have hl := lv_entry ([.int (nI n), .int (nI bits), .int (nI len)]) (n := 5) (Nat.le_of_ble_eq_true rfl)
  rw [lg_entry_eq]
  generalize (lg_sl ([.int (nI n), .int (nI bits), .int (nI len)]) ++ List.replicate (5 - (lg_sl ([.int (nI n), .int (nI bits), .int (nI len)])).length) Slot.unset).toArray = ls at hl ⊢
  have hl : lv_has ls 5 [(0, .int (nI n)), (1, .int (nI bits)), (2, .int (nI len))] := hl
  obtain ⟨X2, hX2⟩ : ∃ X : Nat → Prop, ∀ (v3 : Nat), X v3 ↔ (∀ ls : Array Slot, lv_has ls 5 [(0, .int (nI n)), (1, .int (nI bits)), (2, .int (nI len)), (3, .int (nI v3))] → W zp l ze (headSpec wsX3_walksAllRings ({ frames := 2, cells := 0, slots := 0, locals := 50 } : Room)).room zs zm ([.int (nI n), .int (nI bits), .int (nI len)] : List Value).toArray zbelow zmeth zc zs.heap [] 0 0 (MQ zbelow (vp_Si (fun zr : Int32 => zr = bI (rwr n bits len))) ([.int (nI n), .int (nI bits), .int (nI len)] : List Value).toArray zs 0 0 (fun _ => False)) (F0 zm 2 ls [])) := ⟨_, fun _ => Iff.rfl⟩
  obtain ⟨X12, hX12⟩ : ∃ X : Nat → Nat → Prop, ∀ (v3 : Nat) (v4 : Nat), X v3 v4 ↔ (∀ ls : Array Slot, lv_has ls 5 [(0, .int (nI n)), (1, .int (nI bits)), (2, .int (nI len)), (3, .int (nI v3)), (4, .int (nI v4))] → W zp l ze (headSpec wsX3_walksAllRings ({ frames := 2, cells := 0, slots := 0, locals := 50 } : Room)).room zs zm ([.int (nI n), .int (nI bits), .int (nI len)] : List Value).toArray zbelow zmeth zc zs.heap [] 0 0 (MQ zbelow (vp_Si (fun zr : Int32 => zr = bI (rwr n bits len))) ([.int (nI n), .int (nI bits), .int (nI len)] : List Value).toArray zs 0 0 (fun _ => False)) (F0 zm 12 ls [])) := ⟨_, fun _ _ => Iff.rfl⟩
  have b2 : ∀ (v3 : Nat), B_X3_walksAllRings_2 n bits len X2 X12 v3 → X2 v3 := by
    intro v3 hw
    rw [hX2]
    intro ls hl
    unfold B_X3_walksAllRings_2 at hw
    refine lv_iload_n hx hb dX3_walksAllRings_2 rfl (lv_at hl 3 rfl) ?_
    refine lv_iconst (v := nI 1) hx hb dX3_walksAllRings_3 (by decide +kernel) ?_
    refine lv_iload_n hx hb dX3_walksAllRings_4 rfl (lv_at hl 0 rfl) ?_
    obtain ⟨zh1, hw⟩ := hw
    refine z_ishl hx hb (n_shl _ zh1) dX3_walksAllRings_5 ?_
    obtain ⟨zh2, hw⟩ := hw
    obtain ⟨zh3, hw⟩ := hw
    obtain ⟨hwt, hwf⟩ := hw
    refine z_icmp_ge hx hb zh2 zh3 (tgt := 44) dX3_walksAllRings_6 (by decide) (fun cc => ?_) (fun cc => ?_)
    · replace hw := hwt cc
      refine lv_iconst (v := nI 1) hx hb dX3_walksAllRings_44 (by decide +kernel) ?_
      refine z_st (st' := [.int (bI true)]) rfl ?_
      have er := hw
      exact W.zret (ty := .boolean) (v := bI true) hx hb hr (bI_nar _) (fun t ht hW => ⟨_, rfl, (congrArg bI er), ht⟩) (fun _ h => by cases h) dX3_walksAllRings_45
    · replace hw := hwf cc
      refine lv_iconst (v := nI 0) hx hb dX3_walksAllRings_9 (by decide +kernel) ?_
      refine lv_istore (lv' := [(4, .int (nI 0)), (0, .int (nI n)), (1, .int (nI bits)), (2, .int (nI len)), (3, .int (nI v3))]) hx hb dX3_walksAllRings_10 hl (by decide) rfl (fun ls hl => ?_)
      exact ((hX12 _ _).mp hw) ls (lv_sub hl [1, 2, 3, 4, 0] rfl)
  have b12 : ∀ (v3 : Nat) (v4 : Nat), B_X3_walksAllRings_12 n bits len X2 X12 v3 v4 → X12 v3 v4 := by
    intro v3 v4 hw
    rw [hX12]
    intro ls hl
    unfold B_X3_walksAllRings_12 at hw
    refine lv_iload hx hb dX3_walksAllRings_12 (lv_at hl 4 rfl) ?_
    refine lv_iload_n hx hb dX3_walksAllRings_14 rfl (lv_at hl 0 rfl) ?_
    obtain ⟨zh4, hw⟩ := hw
    obtain ⟨zh5, hw⟩ := hw
    obtain ⟨hwt, hwf⟩ := hw
    refine z_icmp_ge hx hb zh4 zh5 (tgt := 38) dX3_walksAllRings_15 (by decide) (fun cc => ?_) (fun cc => ?_)
    · replace hw := hwt cc
      refine lv_iinc (v := nI (v3 + 1)) (lv' := [(3, .int (nI (v3 + 1))), (0, .int (nI n)), (1, .int (nI bits)), (2, .int (nI len)), (4, .int (nI v4))]) hx hb dX3_walksAllRings_38 hl (k := 3) rfl (by rw [show Int32.ofInt 1 = nI 1 from by decide +kernel]; exact nI_add _ _) (by decide) rfl (fun ls hl => ?_)
      refine lv_goto (tgt := 2) hx hb dX3_walksAllRings_41 (by decide) ?_
      exact ((hX2 _).mp hw) ls (lv_sub hl [1, 2, 3, 0] rfl)
    · replace hw := hwf cc
      refine lv_iload_n hx hb dX3_walksAllRings_18 rfl (lv_at hl 0 rfl) ?_
      refine lv_iload_n hx hb dX3_walksAllRings_19 rfl (lv_at hl 3 rfl) ?_
      refine lv_iload hx hb dX3_walksAllRings_20 (lv_at hl 4 rfl) ?_
      refine lv_iload_n hx hb dX3_walksAllRings_22 rfl (lv_at hl 1 rfl) ?_
      refine lv_iload_n hx hb dX3_walksAllRings_23 rfl (lv_at hl 2 rfl) ?_
      obtain ⟨zh6, hw⟩ := hw
      obtain ⟨zh7, hw⟩ := hw
      obtain ⟨zh8, hw⟩ := hw
      obtain ⟨zh9, hw⟩ := hw
      obtain ⟨zh10, hw⟩ := hw
      obtain ⟨zh11, hw⟩ := hw
      have hPc : va_P D vwCl [] zs.heap := hP.sub [] rfl
      refine z_ro (va_runS (As := [.int (nI n), .int (nI v3), .int (nI v4), .int (nI bits), .int (nI len)]) (rest := []) ⟨hx, hb, hml, hown, hts⟩ (k_X3_walksAll n v3 v4 bits len zh6 zh7 zh8 zh9 zh10 zh11) (va_cwS 5 hts gX3_walksAllRings_X3_walksAll rfl rfl rfl (by decide +kernel) ⟨Nat.le_of_ble_eq_true rfl, Nat.le_of_ble_eq_true rfl⟩) (zPr_S hZ hPc) rfl rfl hl.1 rfl (lv_room (Nat.le_of_ble_eq_true rfl)) dX3_walksAllRings_24 ⟨Nat.zero_le _, Nat.zero_le _⟩) (fun zr12 hzr12 => ?_)
      have ez := hzr12
      rw [ez]
      clear ez hzr12
      obtain ⟨hwt, hwf⟩ := hw
      refine z_if_neb hx hb (tgt := 32) dX3_walksAllRings_27 (by decide) (fun cc => ?_) (fun cc => ?_)
      · replace hw := hwt cc
        refine lv_iinc (v := nI (v4 + 1)) (lv' := [(4, .int (nI (v4 + 1))), (0, .int (nI n)), (1, .int (nI bits)), (2, .int (nI len)), (3, .int (nI v3))]) hx hb dX3_walksAllRings_32 hl (k := 4) rfl (by rw [show Int32.ofInt 1 = nI 1 from by decide +kernel]; exact nI_add _ _) (by decide) rfl (fun ls hl => ?_)
        refine lv_goto (tgt := 12) hx hb dX3_walksAllRings_35 (by decide) ?_
        exact ((hX12 _ _).mp hw) ls (lv_sub hl [1, 2, 3, 4, 0] rfl)
      · replace hw := hwf cc
        refine lv_iconst (v := nI 0) hx hb dX3_walksAllRings_30 (by decide +kernel) ?_
        refine z_st (st' := [.int (bI false)]) rfl ?_
        have er := hw
        exact W.zret (ty := .boolean) (v := bI false) hx hb hr (bI_nar _) (fun t ht hW => ⟨_, rfl, (congrArg bI er), ht⟩) (fun _ h => by cases h) dX3_walksAllRings_31
  have hw := vw X2 X12 b2 b12
  unfold B_X3_walksAllRings_in at hw
  refine lv_iconst (v := nI 0) hx hb dX3_walksAllRings_0 (by decide +kernel) ?_
  refine lv_istore_n (lv' := [(3, .int (nI 0)), (0, .int (nI n)), (1, .int (nI bits)), (2, .int (nI len))]) hx hb dX3_walksAllRings_1 rfl hl (by decide) rfl (fun ls hl => ?_)
  exact ((hX2 _).mp hw) ls (lv_sub hl [1, 2, 3, 0] rfl)
set_option maxRecDepth 100000 in
set_option maxHeartbeats 4000000 in
theorem w_X3_firstOfLength {l : Launch} {D : va_G} {cI cZ : ClassId} (k_X3_walksAllRings : K_X3_walksAllRings l D cI cZ) (vv : V_X3_firstOfLength) : K_X3_firstOfLength l D cI cZ := by
  intro n len hpre0 hpre1 hpre2
  have vw := vv n len hpre0 hpre1 hpre2
  refine Met.ofW (cc := cX3_firstOfLength) (maxL := 3) (ret := (some .int)) (by decide) rfl ?_
  intro zp ze zs zm zargs zbelow zmeth zc zs1 B hml hv
  obtain ⟨rfl, hZ, hP⟩ := hv
  have hx := B.exec
  have hb := B.bytes
  have hr := B.returns
  have hts := atoms_spec (ws := wsX3_firstOfLength) B.pre
  have hown : zs.vm.findClass RX3 = some zm.cls := findClass_of_methodNamed B.named
  have hlocks := B.notSynchronized
  have hP : va_P D vwCl [] zs.heap := hP
  have hl := lv_entry ([.int (nI n), .int (nI len)]) (n := 3) (Nat.le_of_ble_eq_true rfl)
  rw [lg_entry_eq]
  generalize (lg_sl ([.int (nI n), .int (nI len)]) ++ List.replicate (3 - (lg_sl ([.int (nI n), .int (nI len)])).length) Slot.unset).toArray = ls at hl ⊢
  have hl : lv_has ls 3 [(0, .int (nI n)), (1, .int (nI len))] := hl
  obtain ⟨X2, hX2⟩ : ∃ X : Nat → Prop, ∀ (v2 : Nat), X v2 ↔ (∀ ls : Array Slot, lv_has ls 3 [(0, .int (nI n)), (1, .int (nI len)), (2, .int (nI v2))] → W zp l ze (headSpec wsX3_firstOfLength ({ frames := 3, cells := 0, slots := 0, locals := 74 } : Room)).room zs zm ([.int (nI n), .int (nI len)] : List Value).toArray zbelow zmeth zc zs.heap [] 0 0 (MQ zbelow (vp_Si (fun zr : Int32 => zr = sb n len)) ([.int (nI n), .int (nI len)] : List Value).toArray zs 0 0 (fun _ => False)) (F0 zm 2 ls [])) := ⟨_, fun _ => Iff.rfl⟩
  have b2 : ∀ (v2 : Nat), B_X3_firstOfLength_2 n len X2 v2 → X2 v2 := by
    intro v2 hw
    rw [hX2]
    intro ls hl
    unfold B_X3_firstOfLength_2 at hw
    refine lv_iload_n hx hb dX3_firstOfLength_2 rfl (lv_at hl 2 rfl) ?_
    refine lv_iconst (v := nI 1) hx hb dX3_firstOfLength_3 (by decide +kernel) ?_
    refine lv_iload_n hx hb dX3_firstOfLength_4 rfl (lv_at hl 1 rfl) ?_
    obtain ⟨zh1, hw⟩ := hw
    refine z_ishl hx hb (n_shl _ zh1) dX3_firstOfLength_5 ?_
    obtain ⟨zh2, hw⟩ := hw
    obtain ⟨zh3, hw⟩ := hw
    obtain ⟨hwt, hwf⟩ := hw
    refine z_icmp_ge hx hb zh2 zh3 (tgt := 26) dX3_firstOfLength_6 (by decide) (fun cc => ?_) (fun cc => ?_)
    · replace hw := hwt cc
      refine lv_bipush (v := (-6)) hx hb dX3_firstOfLength_26 (by decide +kernel) ?_
      have er := hw
      exact W.iret (v := (-6)) hx hb hr (fun t ht hW => ⟨_, rfl, er, ht⟩) (fun _ h => by cases h) dX3_firstOfLength_28
    · replace hw := hwf cc
      refine lv_iload_n hx hb dX3_firstOfLength_9 rfl (lv_at hl 0 rfl) ?_
      refine lv_iload_n hx hb dX3_firstOfLength_10 rfl (lv_at hl 2 rfl) ?_
      refine lv_iload_n hx hb dX3_firstOfLength_11 rfl (lv_at hl 1 rfl) ?_
      obtain ⟨zh4, hw⟩ := hw
      obtain ⟨zh5, hw⟩ := hw
      obtain ⟨zh6, hw⟩ := hw
      obtain ⟨zh7, hw⟩ := hw
      have hPc : va_P D vwCl [] zs.heap := hP.sub [] rfl
      refine z_ro (va_runS (As := [.int (nI n), .int (nI v2), .int (nI len)]) (rest := []) ⟨hx, hb, hml, hown, hts⟩ (k_X3_walksAllRings n v2 len zh4 zh5 zh6 zh7) (va_cwS 3 hts gX3_firstOfLength_X3_walksAllRings rfl rfl rfl (by decide +kernel) ⟨Nat.le_of_ble_eq_true rfl, Nat.le_of_ble_eq_true rfl⟩) (zPr_S hZ hPc) rfl rfl hl.1 rfl (lv_room (Nat.le_of_ble_eq_true rfl)) dX3_firstOfLength_12 ⟨Nat.zero_le _, Nat.zero_le _⟩) (fun zr8 hzr8 => ?_)
      have ez := hzr8
      rw [ez]
      clear ez hzr8
      obtain ⟨hwt, hwf⟩ := hw
      refine z_if_eqb hx hb (tgt := 20) dX3_firstOfLength_15 (by decide) (fun cc => ?_) (fun cc => ?_)
      · replace hw := hwt cc
        refine lv_iinc (v := nI (v2 + 1)) (lv' := [(2, .int (nI (v2 + 1))), (0, .int (nI n)), (1, .int (nI len))]) hx hb dX3_firstOfLength_20 hl (k := 2) rfl (by rw [show Int32.ofInt 1 = nI 1 from by decide +kernel]; exact nI_add _ _) (by decide) rfl (fun ls hl => ?_)
        refine lv_goto (tgt := 2) hx hb dX3_firstOfLength_23 (by decide) ?_
        exact ((hX2 _).mp hw) ls (lv_sub hl [1, 2, 0] rfl)
      · replace hw := hwf cc
        refine lv_iload_n hx hb dX3_firstOfLength_18 rfl (lv_at hl 2 rfl) ?_
        have er := hw
        exact W.iret (v := nI v2) hx hb hr (fun t ht hW => ⟨_, rfl, er, ht⟩) (fun _ h => by cases h) dX3_firstOfLength_19
  have hw := vw X2 b2
  unfold B_X3_firstOfLength_in at hw
  refine lv_iconst (v := nI 0) hx hb dX3_firstOfLength_0 (by decide +kernel) ?_
  refine lv_istore_n (lv' := [(2, .int (nI 0)), (0, .int (nI n)), (1, .int (nI len))]) hx hb dX3_firstOfLength_1 rfl hl (by decide) rfl (fun ls hl => ?_)
  exact ((hX2 _).mp hw) ls (lv_sub hl [1, 2, 0] rfl)
theorem m_X3_find_f11 : Cond.fieldLink RX3 11 "NetWalkers$Rings" "lengths" "[I" ∈ wsX3_find := by decide +kernel
theorem i_X3_find_X3 : ∀ w ∈ wsX30, w ∈ wsX3_find := by decide +kernel
theorem m_X3_find_f15 : Cond.fieldLink RX3 15 "NetWalkers$Rings" "found" "[I" ∈ wsX3_find := by decide +kernel
set_option maxRecDepth 100000 in
set_option maxHeartbeats 4000000 in
theorem w_X3_find {l : Launch} {D : va_G} {cI cZ : ClassId} (k_X3_firstOfLength : K_X3_firstOfLength l D cI cZ) (vv : V_X3_find) : K_X3_find l D cI cZ := by
  intro q_rg q_le q_fo sz le fo s hpre0 hpre1
  have vw := vv le fo s hpre0 hpre1
  refine Met.ofW (cc := cX3_find) (maxL := 4) (ret := none) (by decide) rfl ?_
  intro zp ze zs zm zargs zbelow zmeth zc zs1 B hml hv
  obtain ⟨rfl, hsz, hZ, hP, hD0⟩ := hv
  have hx := B.exec
  have hb := B.bytes
  have hr := B.returns
  have hts := atoms_spec (ws := wsX3_find) B.pre
  have hown : zs.vm.findClass RX3 = some zm.cls := findClass_of_methodNamed B.named
  have hlocks := B.notSynchronized
  subst hsz
  have hD := hD0.self (sz := zs.heap.size)
  generalize hAe : va_A [(q_rg, .inr (3, [.ref q_le, .ref q_fo])), (q_le, .inl (cI, 5, .inl (le))), (q_fo, .inl (cI, 5, .inl (fo)))] zs.heap.size = A at hD ⊢
  have hA : ∀ q : Nat, zs.heap.size ≤ q → A q := fun q h => by rw [← hAe]; exact Or.inr h
  have hS : va_S A zs.heap zs.heap [] := va_S.rf
  have hP : va_P D vwCl [(q_rg, .inr (3, [.ref q_le, .ref q_fo])), (q_le, .inl (cI, 5, .inl (le))), (q_fo, .inl (cI, 5, .inl (fo)))] zs.heap := hP
  have hl := lv_entry ([.ref q_rg, .int (nI s)]) (n := 4) (Nat.le_of_ble_eq_true rfl)
  rw [lg_entry_eq]
  generalize (lg_sl ([.ref q_rg, .int (nI s)]) ++ List.replicate (4 - (lg_sl ([.ref q_rg, .int (nI s)])).length) Slot.unset).toArray = ls at hl ⊢
  have hl : lv_has ls 4 [(0, .ref q_rg), (1, .int (nI s))] := hl
  obtain ⟨X34, hX34⟩ : ∃ X : Nat → (Nat → Int32) → (Nat → Int32) → Prop, ∀ (v2 : Nat) (c_le : Nat → Int32) (c_fo : Nat → Int32), X v2 c_le c_fo ↔ (∀ (H : Heap) (locs : List Loc), va_P D vwCl [(q_rg, .inr (3, [.ref q_le, .ref q_fo])), (q_le, .inl (cI, 5, .inl (c_le))), (q_fo, .inl (cI, 5, .inl (c_fo)))] H → va_D A [(q_rg, .inr (3, [.ref q_le, .ref q_fo])), (q_le, .inl (cI, 5, .inl (c_le))), (q_fo, .inl (cI, 5, .inl (c_fo)))] → va_S A zs.heap H locs → ∀ ls : Array Slot, lv_has ls 4 [(0, .ref q_rg), (1, .int (nI s)), (2, .int (nI v2))] → W zp l ze (headSpec wsX3_find ({ frames := 4, cells := 0, slots := 0, locals := 96 } : Room)).room zs zm ([.ref q_rg, .int (nI s)] : List Value).toArray zbelow zmeth zc H locs 0 0 (MQ zbelow (va_Qv (S := (Nat → Int32)) (fun zu => (¬ rl s = (-6) → zu s = rb s) ∧ (∀ i, ¬ i = s → zu i = fo i)) (fun (zu : (Nat → Int32)) zt => va_P D vwCl [(q_rg, .inr (3, [.ref q_le, .ref q_fo])), (q_le, .inl (cI, 5, .inl (upd le s (rl s)))), (q_fo, .inl (cI, 5, .inl (zu)))] zt.heap ∧ va_D A [(q_rg, .inr (3, [.ref q_le, .ref q_fo])), (q_le, .inl (cI, 5, .inl (upd le s (rl s)))), (q_fo, .inl (cI, 5, .inl (zu)))]) A) ([.ref q_rg, .int (nI s)] : List Value).toArray zs 0 0 A) (F0 zm 34 ls [])) := ⟨_, fun _ _ _ => Iff.rfl⟩
  have b34 : ∀ (v2 : Nat) (c_le : Nat → Int32) (c_fo : Nat → Int32), B_X3_find_34 le fo s X34 v2 c_le c_fo → X34 v2 c_le c_fo := by
    intro v2 c_le c_fo hw
    rw [hX34]
    intro H locs hP hD hS ls hl
    unfold B_X3_find_34 at hw
    refine lv_iload_n hx hb dX3_find_34 rfl (lv_at hl 2 rfl) ?_
    refine lv_bipush (v := nI 12) hx hb dX3_find_35 (by decide +kernel) ?_
    obtain ⟨zh1, hw⟩ := hw
    obtain ⟨hwt, hwf⟩ := hw
    refine z_icmp_gt hx hb zh1 (by decide) (tgt := 83) dX3_find_37 (by decide) (fun cc => ?_) (fun cc => ?_)
    · replace hw := hwt cc
      obtain ⟨fo9, po0, po1, ec_le, ec_fo⟩ := hw
      have hP9 : va_P D vwCl [(q_rg, .inr (3, [.ref q_le, .ref q_fo])), (q_le, .inl (cI, 5, .inl (c_le))), (q_fo, .inl (cI, 5, .inl (c_fo)))] H := hP.sub [0, 1, 2] rfl
      have hD9 : va_D A [(q_rg, .inr (3, [.ref q_le, .ref q_fo])), (q_le, .inl (cI, 5, .inl (c_le))), (q_fo, .inl (cI, 5, .inl (c_fo)))] := hD.sub [0, 1, 2] (by decide) rfl
      have hP9 : va_P D vwCl [(q_rg, .inr (3, [.ref q_le, .ref q_fo])), (q_le, .inl (cI, 5, .inl (upd le s (rl s)))), (q_fo, .inl (cI, 5, .inl (c_fo)))] H := z_arr hP9 1 rfl ec_le
      have hD9 : va_D A [(q_rg, .inr (3, [.ref q_le, .ref q_fo])), (q_le, .inl (cI, 5, .inl (upd le s (rl s)))), (q_fo, .inl (cI, 5, .inl (c_fo)))] := hD9.set (p := 1) (e := .inl (cI, 5, .inl (upd le s (rl s)))) rfl
      have hP9 : va_P D vwCl [(q_rg, .inr (3, [.ref q_le, .ref q_fo])), (q_le, .inl (cI, 5, .inl (upd le s (rl s)))), (q_fo, .inl (cI, 5, .inl (fo9)))] H := z_arr hP9 2 rfl ec_fo
      have hD9 : va_D A [(q_rg, .inr (3, [.ref q_le, .ref q_fo])), (q_le, .inl (cI, 5, .inl (upd le s (rl s)))), (q_fo, .inl (cI, 5, .inl (fo9)))] := hD9.set (p := 2) (e := .inl (cI, 5, .inl (fo9))) rfl
      exact W.vret hx hb hr (fun t ht hW => ⟨⟨(fo9), rfl, ⟨po0, po1⟩, by rw [ht]; exact hP9, hD9⟩, hS.F ht⟩) hS.2.2 dX3_find_83
    · replace hw := hwf cc
      refine lv_aload_n hx hb dX3_find_40 rfl (lv_at hl 0 rfl) ?_
      refine va_get (D := D) (ci := 3) (v := .ref q_le) (C := RX3) (T := TX3) (N := 2) hx hb hts i_X3_find_X3 hown hZ.1 hP 0 rfl rfl 0 (by decide) (hts _ m_X3_find_f11) (fun _ h9 => h9) rfl dX3_find_41 ?_
      refine lv_iload_n hx hb dX3_find_44 rfl (lv_at hl 1 rfl) ?_
      obtain ⟨zh2, hw⟩ := hw
      refine z_iald hx hb hZ.1 hP 1 0 rfl rfl zh2 (by decide) (v := c_le s) rfl dX3_find_45 ?_
      refine lv_bipush (v := (-6)) hx hb dX3_find_46 (by decide +kernel) ?_
      obtain ⟨hwt, hwf⟩ := hw
      refine lv_icmp_ne hx hb (tgt := 83) dX3_find_48 (by decide) (fun cc => ?_) (fun cc => ?_)
      · replace hw := hwt cc
        obtain ⟨fo9, po0, po1, ec_le, ec_fo⟩ := hw
        have hP9 : va_P D vwCl [(q_rg, .inr (3, [.ref q_le, .ref q_fo])), (q_le, .inl (cI, 5, .inl (c_le))), (q_fo, .inl (cI, 5, .inl (c_fo)))] H := hP.sub [0, 1, 2] rfl
        have hD9 : va_D A [(q_rg, .inr (3, [.ref q_le, .ref q_fo])), (q_le, .inl (cI, 5, .inl (c_le))), (q_fo, .inl (cI, 5, .inl (c_fo)))] := hD.sub [0, 1, 2] (by decide) rfl
        have hP9 : va_P D vwCl [(q_rg, .inr (3, [.ref q_le, .ref q_fo])), (q_le, .inl (cI, 5, .inl (upd le s (rl s)))), (q_fo, .inl (cI, 5, .inl (c_fo)))] H := z_arr hP9 1 rfl ec_le
        have hD9 : va_D A [(q_rg, .inr (3, [.ref q_le, .ref q_fo])), (q_le, .inl (cI, 5, .inl (upd le s (rl s)))), (q_fo, .inl (cI, 5, .inl (c_fo)))] := hD9.set (p := 1) (e := .inl (cI, 5, .inl (upd le s (rl s)))) rfl
        have hP9 : va_P D vwCl [(q_rg, .inr (3, [.ref q_le, .ref q_fo])), (q_le, .inl (cI, 5, .inl (upd le s (rl s)))), (q_fo, .inl (cI, 5, .inl (fo9)))] H := z_arr hP9 2 rfl ec_fo
        have hD9 : va_D A [(q_rg, .inr (3, [.ref q_le, .ref q_fo])), (q_le, .inl (cI, 5, .inl (upd le s (rl s)))), (q_fo, .inl (cI, 5, .inl (fo9)))] := hD9.set (p := 2) (e := .inl (cI, 5, .inl (fo9))) rfl
        exact W.vret hx hb hr (fun t ht hW => ⟨⟨(fo9), rfl, ⟨po0, po1⟩, by rw [ht]; exact hP9, hD9⟩, hS.F ht⟩) hS.2.2 dX3_find_83
      · replace hw := hwf cc
        refine lv_iload_n hx hb dX3_find_51 rfl (lv_at hl 1 rfl) ?_
        refine lv_iload_n hx hb dX3_find_52 rfl (lv_at hl 2 rfl) ?_
        obtain ⟨zh3, hw⟩ := hw
        obtain ⟨zh4, hw⟩ := hw
        obtain ⟨zh5, hw⟩ := hw
        have hPc : va_P D vwCl [] H := hP.sub [] rfl
        refine z_ro (va_runS (As := [.int (nI s), .int (nI v2)]) (rest := []) ⟨hx, hb, hml, hown, hts⟩ (k_X3_firstOfLength s v2 zh3 zh4 zh5) (va_cwS 2 hts gX3_find_X3_firstOfLength rfl rfl rfl (by decide +kernel) ⟨Nat.le_of_ble_eq_true rfl, Nat.le_of_ble_eq_true rfl⟩) (zPr_S hZ hPc) rfl rfl hl.1 rfl (lv_room (Nat.le_of_ble_eq_true rfl)) dX3_find_53 ⟨Nat.zero_le _, Nat.zero_le _⟩) (fun zr6 hzr6 => ?_)
        have ez := hzr6
        rw [ez]
        clear ez hzr6
        obtain ⟨zx7, ezx7⟩ : ∃ zx7 : Int32, zx7 = sb s v2 := ⟨_, rfl⟩
        replace hw := hw zx7 ezx7
        refine z_st (st' := [.int zx7]) (by rw [ezx7]) ?_
        refine lv_istore_n (lv' := [(3, .int zx7), (0, .ref q_rg), (1, .int (nI s)), (2, .int (nI v2))]) hx hb dX3_find_56 rfl hl (by decide) rfl (fun ls hl => ?_)
        refine lv_iload_n hx hb dX3_find_57 rfl (lv_at hl 0 rfl) ?_
        refine lv_bipush (v := (-6)) hx hb dX3_find_58 (by decide +kernel) ?_
        obtain ⟨hwt, hwf⟩ := hw
        refine lv_icmp_eq hx hb (tgt := 77) dX3_find_60 (by decide) (fun cc => ?_) (fun cc => ?_)
        · replace hw := hwt cc
          refine lv_iinc (v := nI (v2 + 1)) (lv' := [(2, .int (nI (v2 + 1))), (3, .int zx7), (0, .ref q_rg), (1, .int (nI s))]) hx hb dX3_find_77 hl (k := 3) rfl (by rw [show Int32.ofInt 1 = nI 1 from by decide +kernel]; exact nI_add _ _) (by decide) rfl (fun ls hl => ?_)
          refine lv_goto (tgt := 34) hx hb dX3_find_80 (by decide) ?_
          have hP9 : va_P D vwCl [(q_rg, .inr (3, [.ref q_le, .ref q_fo])), (q_le, .inl (cI, 5, .inl (c_le))), (q_fo, .inl (cI, 5, .inl (c_fo)))] H := hP.sub [0, 1, 2] rfl
          have hD9 : va_D A [(q_rg, .inr (3, [.ref q_le, .ref q_fo])), (q_le, .inl (cI, 5, .inl (c_le))), (q_fo, .inl (cI, 5, .inl (c_fo)))] := hD.sub [0, 1, 2] (by decide) rfl
          exact ((hX34 _ _ _).mp hw) _ _ hP9 hD9 hS ls (lv_sub hl [2, 3, 0] rfl)
        · replace hw := hwf cc
          refine lv_aload_n hx hb dX3_find_63 rfl (lv_at hl 1 rfl) ?_
          refine va_get (D := D) (ci := 3) (v := .ref q_le) (C := RX3) (T := TX3) (N := 2) hx hb hts i_X3_find_X3 hown hZ.1 hP 0 rfl rfl 0 (by decide) (hts _ m_X3_find_f11) (fun _ h9 => h9) rfl dX3_find_64 ?_
          refine lv_iload_n hx hb dX3_find_67 rfl (lv_at hl 2 rfl) ?_
          refine lv_iload_n hx hb dX3_find_68 rfl (lv_at hl 3 rfl) ?_
          obtain ⟨zh8, hw⟩ := hw
          refine z_iast hx hb hZ.1 hP hD hS 1 0 rfl rfl zh8 (by decide) (g := upd c_le s (nI v2)) rfl dX3_find_69 (fun H locs hP hD hS => ?_)
          have hP : va_P D vwCl [(q_rg, .inr (3, [.ref q_le, .ref q_fo])), (q_le, .inl (cI, 5, .inl (upd c_le s (nI v2)))), (q_fo, .inl (cI, 5, .inl (c_fo)))] H := hP
          have hD : va_D A [(q_rg, .inr (3, [.ref q_le, .ref q_fo])), (q_le, .inl (cI, 5, .inl (upd c_le s (nI v2)))), (q_fo, .inl (cI, 5, .inl (c_fo)))] := hD
          refine lv_aload_n hx hb dX3_find_70 rfl (lv_at hl 1 rfl) ?_
          refine va_get (D := D) (ci := 3) (v := .ref q_fo) (C := RX3) (T := TX3) (N := 2) hx hb hts i_X3_find_X3 hown hZ.1 hP 0 rfl rfl 1 (by decide) (hts _ m_X3_find_f15) (fun _ h9 => h9) rfl dX3_find_71 ?_
          refine lv_iload_n hx hb dX3_find_74 rfl (lv_at hl 2 rfl) ?_
          refine lv_iload_n hx hb dX3_find_75 rfl (lv_at hl 0 rfl) ?_
          obtain ⟨zh9, hw⟩ := hw
          refine z_iast hx hb hZ.1 hP hD hS 2 0 rfl rfl zh9 (by decide) (g := upd c_fo s zx7) rfl dX3_find_76 (fun H locs hP hD hS => ?_)
          have hP : va_P D vwCl [(q_rg, .inr (3, [.ref q_le, .ref q_fo])), (q_le, .inl (cI, 5, .inl (upd c_le s (nI v2)))), (q_fo, .inl (cI, 5, .inl (upd c_fo s zx7)))] H := hP
          have hD : va_D A [(q_rg, .inr (3, [.ref q_le, .ref q_fo])), (q_le, .inl (cI, 5, .inl (upd c_le s (nI v2)))), (q_fo, .inl (cI, 5, .inl (upd c_fo s zx7)))] := hD
          refine lv_iinc (v := nI (v2 + 1)) (lv' := [(2, .int (nI (v2 + 1))), (3, .int zx7), (0, .ref q_rg), (1, .int (nI s))]) hx hb dX3_find_77 hl (k := 3) rfl (by rw [show Int32.ofInt 1 = nI 1 from by decide +kernel]; exact nI_add _ _) (by decide) rfl (fun ls hl => ?_)
          refine lv_goto (tgt := 34) hx hb dX3_find_80 (by decide) ?_
          have hP9 : va_P D vwCl [(q_rg, .inr (3, [.ref q_le, .ref q_fo])), (q_le, .inl (cI, 5, .inl (upd c_le s (nI v2)))), (q_fo, .inl (cI, 5, .inl (upd c_fo s zx7)))] H := hP.sub [0, 1, 2] rfl
          have hD9 : va_D A [(q_rg, .inr (3, [.ref q_le, .ref q_fo])), (q_le, .inl (cI, 5, .inl (upd c_le s (nI v2)))), (q_fo, .inl (cI, 5, .inl (upd c_fo s zx7)))] := hD.sub [0, 1, 2] (by decide) rfl
          exact ((hX34 _ _ _).mp hw) _ _ hP9 hD9 hS ls (lv_sub hl [2, 3, 0] rfl)
  have hw := vw X34 b34
  unfold B_X3_find_in at hw
  refine lv_iload_n hx hb dX3_find_0 rfl (lv_at hl 1 rfl) ?_
  refine lv_iconst (v := nI 2) hx hb dX3_find_1 (by decide +kernel) ?_
  obtain ⟨zh10, hw⟩ := hw
  obtain ⟨hwt, hwf⟩ := hw
  refine z_icmp_lt hx hb zh10 (by decide) (tgt := 23) dX3_find_2 (by decide) (fun cc => ?_) (fun cc => ?_)
  · replace hw := hwt cc
    obtain ⟨fo9, po0, po1, ec_le, ec_fo⟩ := hw
    have hP9 : va_P D vwCl [(q_rg, .inr (3, [.ref q_le, .ref q_fo])), (q_le, .inl (cI, 5, .inl (le))), (q_fo, .inl (cI, 5, .inl (fo)))] zs.heap := hP.sub [0, 1, 2] rfl
    have hD9 : va_D A [(q_rg, .inr (3, [.ref q_le, .ref q_fo])), (q_le, .inl (cI, 5, .inl (le))), (q_fo, .inl (cI, 5, .inl (fo)))] := hD.sub [0, 1, 2] (by decide) rfl
    have hP9 : va_P D vwCl [(q_rg, .inr (3, [.ref q_le, .ref q_fo])), (q_le, .inl (cI, 5, .inl (upd le s (rl s)))), (q_fo, .inl (cI, 5, .inl (fo)))] zs.heap := z_arr hP9 1 rfl ec_le
    have hD9 : va_D A [(q_rg, .inr (3, [.ref q_le, .ref q_fo])), (q_le, .inl (cI, 5, .inl (upd le s (rl s)))), (q_fo, .inl (cI, 5, .inl (fo)))] := hD9.set (p := 1) (e := .inl (cI, 5, .inl (upd le s (rl s)))) rfl
    have hP9 : va_P D vwCl [(q_rg, .inr (3, [.ref q_le, .ref q_fo])), (q_le, .inl (cI, 5, .inl (upd le s (rl s)))), (q_fo, .inl (cI, 5, .inl (fo9)))] zs.heap := z_arr hP9 2 rfl ec_fo
    have hD9 : va_D A [(q_rg, .inr (3, [.ref q_le, .ref q_fo])), (q_le, .inl (cI, 5, .inl (upd le s (rl s)))), (q_fo, .inl (cI, 5, .inl (fo9)))] := hD9.set (p := 2) (e := .inl (cI, 5, .inl (fo9))) rfl
    exact W.vret hx hb hr (fun t ht hW => ⟨⟨(fo9), rfl, ⟨po0, po1⟩, by rw [ht]; exact hP9, hD9⟩, hS.F ht⟩) hS.2.2 dX3_find_23
  · replace hw := hwf cc
    refine lv_iload_n hx hb dX3_find_5 rfl (lv_at hl 1 rfl) ?_
    refine lv_aload_n hx hb dX3_find_6 rfl (lv_at hl 0 rfl) ?_
    refine va_get (D := D) (ci := 3) (v := .ref q_le) (C := RX3) (T := TX3) (N := 2) hx hb hts i_X3_find_X3 hown hZ.1 hP 0 rfl rfl 0 (by decide) (hts _ m_X3_find_f11) (fun _ h9 => h9) rfl dX3_find_7 ?_
    refine va_alen hx hb hZ.1 hP 1 0 rfl rfl (v := nI 5) rfl dX3_find_10 ?_
    obtain ⟨zh11, hw⟩ := hw
    obtain ⟨hwt, hwf⟩ := hw
    refine z_icmp_ge hx hb zh11 (by decide) (tgt := 23) dX3_find_11 (by decide) (fun cc => ?_) (fun cc => ?_)
    · replace hw := hwt cc
      obtain ⟨fo9, po0, po1, ec_le, ec_fo⟩ := hw
      have hP9 : va_P D vwCl [(q_rg, .inr (3, [.ref q_le, .ref q_fo])), (q_le, .inl (cI, 5, .inl (le))), (q_fo, .inl (cI, 5, .inl (fo)))] zs.heap := hP.sub [0, 1, 2] rfl
      have hD9 : va_D A [(q_rg, .inr (3, [.ref q_le, .ref q_fo])), (q_le, .inl (cI, 5, .inl (le))), (q_fo, .inl (cI, 5, .inl (fo)))] := hD.sub [0, 1, 2] (by decide) rfl
      have hP9 : va_P D vwCl [(q_rg, .inr (3, [.ref q_le, .ref q_fo])), (q_le, .inl (cI, 5, .inl (upd le s (rl s)))), (q_fo, .inl (cI, 5, .inl (fo)))] zs.heap := z_arr hP9 1 rfl ec_le
      have hD9 : va_D A [(q_rg, .inr (3, [.ref q_le, .ref q_fo])), (q_le, .inl (cI, 5, .inl (upd le s (rl s)))), (q_fo, .inl (cI, 5, .inl (fo)))] := hD9.set (p := 1) (e := .inl (cI, 5, .inl (upd le s (rl s)))) rfl
      have hP9 : va_P D vwCl [(q_rg, .inr (3, [.ref q_le, .ref q_fo])), (q_le, .inl (cI, 5, .inl (upd le s (rl s)))), (q_fo, .inl (cI, 5, .inl (fo9)))] zs.heap := z_arr hP9 2 rfl ec_fo
      have hD9 : va_D A [(q_rg, .inr (3, [.ref q_le, .ref q_fo])), (q_le, .inl (cI, 5, .inl (upd le s (rl s)))), (q_fo, .inl (cI, 5, .inl (fo9)))] := hD9.set (p := 2) (e := .inl (cI, 5, .inl (fo9))) rfl
      exact W.vret hx hb hr (fun t ht hW => ⟨⟨(fo9), rfl, ⟨po0, po1⟩, by rw [ht]; exact hP9, hD9⟩, hS.F ht⟩) hS.2.2 dX3_find_23
    · replace hw := hwf cc
      refine lv_iload_n hx hb dX3_find_14 rfl (lv_at hl 1 rfl) ?_
      refine lv_aload_n hx hb dX3_find_15 rfl (lv_at hl 0 rfl) ?_
      refine va_get (D := D) (ci := 3) (v := .ref q_fo) (C := RX3) (T := TX3) (N := 2) hx hb hts i_X3_find_X3 hown hZ.1 hP 0 rfl rfl 1 (by decide) (hts _ m_X3_find_f15) (fun _ h9 => h9) rfl dX3_find_16 ?_
      refine va_alen hx hb hZ.1 hP 2 0 rfl rfl (v := nI 5) rfl dX3_find_19 ?_
      obtain ⟨zh12, hw⟩ := hw
      obtain ⟨hwt, hwf⟩ := hw
      refine z_icmp_lt hx hb zh12 (by decide) (tgt := 24) dX3_find_20 (by decide) (fun cc => ?_) (fun cc => ?_)
      · replace hw := hwt cc
        refine lv_aload_n hx hb dX3_find_24 rfl (lv_at hl 0 rfl) ?_
        refine va_get (D := D) (ci := 3) (v := .ref q_le) (C := RX3) (T := TX3) (N := 2) hx hb hts i_X3_find_X3 hown hZ.1 hP 0 rfl rfl 0 (by decide) (hts _ m_X3_find_f11) (fun _ h9 => h9) rfl dX3_find_25 ?_
        refine lv_iload_n hx hb dX3_find_28 rfl (lv_at hl 1 rfl) ?_
        refine lv_bipush (v := (-6)) hx hb dX3_find_29 (by decide +kernel) ?_
        obtain ⟨zh13, hw⟩ := hw
        refine z_iast hx hb hZ.1 hP hD hS 1 0 rfl rfl zh13 (by decide) (g := upd le s (-6)) rfl dX3_find_31 (fun H locs hP hD hS => ?_)
        have hP : va_P D vwCl [(q_rg, .inr (3, [.ref q_le, .ref q_fo])), (q_le, .inl (cI, 5, .inl (upd le s (-6)))), (q_fo, .inl (cI, 5, .inl (fo)))] H := hP
        have hD : va_D A [(q_rg, .inr (3, [.ref q_le, .ref q_fo])), (q_le, .inl (cI, 5, .inl (upd le s (-6)))), (q_fo, .inl (cI, 5, .inl (fo)))] := hD
        refine lv_iconst (v := nI 1) hx hb dX3_find_32 (by decide +kernel) ?_
        refine lv_istore_n (lv' := [(2, .int (nI 1)), (0, .ref q_rg), (1, .int (nI s))]) hx hb dX3_find_33 rfl hl (by decide) rfl (fun ls hl => ?_)
        have hP9 : va_P D vwCl [(q_rg, .inr (3, [.ref q_le, .ref q_fo])), (q_le, .inl (cI, 5, .inl (upd le s (-6)))), (q_fo, .inl (cI, 5, .inl (fo)))] H := hP.sub [0, 1, 2] rfl
        have hD9 : va_D A [(q_rg, .inr (3, [.ref q_le, .ref q_fo])), (q_le, .inl (cI, 5, .inl (upd le s (-6)))), (q_fo, .inl (cI, 5, .inl (fo)))] := hD.sub [0, 1, 2] (by decide) rfl
        exact ((hX34 _ _ _).mp hw) _ _ hP9 hD9 hS ls (lv_sub hl [1, 2, 0] rfl)
      · replace hw := hwf cc
        obtain ⟨fo9, po0, po1, ec_le, ec_fo⟩ := hw
        have hP9 : va_P D vwCl [(q_rg, .inr (3, [.ref q_le, .ref q_fo])), (q_le, .inl (cI, 5, .inl (le))), (q_fo, .inl (cI, 5, .inl (fo)))] zs.heap := hP.sub [0, 1, 2] rfl
        have hD9 : va_D A [(q_rg, .inr (3, [.ref q_le, .ref q_fo])), (q_le, .inl (cI, 5, .inl (le))), (q_fo, .inl (cI, 5, .inl (fo)))] := hD.sub [0, 1, 2] (by decide) rfl
        have hP9 : va_P D vwCl [(q_rg, .inr (3, [.ref q_le, .ref q_fo])), (q_le, .inl (cI, 5, .inl (upd le s (rl s)))), (q_fo, .inl (cI, 5, .inl (fo)))] zs.heap := z_arr hP9 1 rfl ec_le
        have hD9 : va_D A [(q_rg, .inr (3, [.ref q_le, .ref q_fo])), (q_le, .inl (cI, 5, .inl (upd le s (rl s)))), (q_fo, .inl (cI, 5, .inl (fo)))] := hD9.set (p := 1) (e := .inl (cI, 5, .inl (upd le s (rl s)))) rfl
        have hP9 : va_P D vwCl [(q_rg, .inr (3, [.ref q_le, .ref q_fo])), (q_le, .inl (cI, 5, .inl (upd le s (rl s)))), (q_fo, .inl (cI, 5, .inl (fo9)))] zs.heap := z_arr hP9 2 rfl ec_fo
        have hD9 : va_D A [(q_rg, .inr (3, [.ref q_le, .ref q_fo])), (q_le, .inl (cI, 5, .inl (upd le s (rl s)))), (q_fo, .inl (cI, 5, .inl (fo9)))] := hD9.set (p := 2) (e := .inl (cI, 5, .inl (fo9))) rfl
        exact W.vret hx hb hr (fun t ht hW => ⟨⟨(fo9), rfl, ⟨po0, po1⟩, by rw [ht]; exact hP9, hD9⟩, hS.F ht⟩) hS.2.2 dX3_find_23
theorem m_X3_lengthFor_f11 : Cond.fieldLink RX3 11 "NetWalkers$Rings" "lengths" "[I" ∈ wsX3_lengthFor := by decide +kernel
theorem i_X3_lengthFor_X3 : ∀ w ∈ wsX30, w ∈ wsX3_lengthFor := by decide +kernel
set_option maxRecDepth 100000 in
set_option maxHeartbeats 4000000 in
theorem w_X3_lengthFor {l : Launch} {D : va_G} {cI cZ : ClassId} (k_X3_find : K_X3_find l D cI cZ) (vv : V_X3_lengthFor) : K_X3_lengthFor l D cI cZ := by
  intro q_rg q_le q_fo sz le fo s hpre0 hpre1 hpre2
  have vw := vv le fo s hpre0 hpre1 hpre2
  refine Met.ofW (cc := cX3_lengthFor) (maxL := 2) (ret := (some .int)) (by decide) rfl ?_
  intro zp ze zs zm zargs zbelow zmeth zc zs1 B hml hv
  obtain ⟨rfl, hsz, hZ, hP, hD0⟩ := hv
  have hx := B.exec
  have hb := B.bytes
  have hr := B.returns
  have hts := atoms_spec (ws := wsX3_lengthFor) B.pre
  have hown : zs.vm.findClass RX3 = some zm.cls := findClass_of_methodNamed B.named
  have hlocks := B.notSynchronized
  subst hsz
  have hD := hD0.self (sz := zs.heap.size)
  generalize hAe : va_A [(q_rg, .inr (3, [.ref q_le, .ref q_fo])), (q_le, .inl (cI, 5, .inl (le))), (q_fo, .inl (cI, 5, .inl (fo)))] zs.heap.size = A at hD ⊢
  have hA : ∀ q : Nat, zs.heap.size ≤ q → A q := fun q h => by rw [← hAe]; exact Or.inr h
  have hS : va_S A zs.heap zs.heap [] := va_S.rf
  have hP : va_P D vwCl [(q_rg, .inr (3, [.ref q_le, .ref q_fo])), (q_le, .inl (cI, 5, .inl (le))), (q_fo, .inl (cI, 5, .inl (fo)))] zs.heap := hP
  have hl := lv_entry ([.ref q_rg, .int (nI s)]) (n := 2) (Nat.le_of_ble_eq_true rfl)
  rw [lg_entry_eq]
  generalize (lg_sl ([.ref q_rg, .int (nI s)]) ++ List.replicate (2 - (lg_sl ([.ref q_rg, .int (nI s)])).length) Slot.unset).toArray = ls at hl ⊢
  have hl : lv_has ls 2 [(0, .ref q_rg), (1, .int (nI s))] := hl
  have hw := vw
  unfold B_X3_lengthFor_in at hw
  refine lv_iload_n hx hb dX3_lengthFor_0 rfl (lv_at hl 1 rfl) ?_
  refine lv_iconst (v := nI 2) hx hb dX3_lengthFor_1 (by decide +kernel) ?_
  obtain ⟨zh1, hw⟩ := hw
  obtain ⟨hwt, hwf⟩ := hw
  refine z_icmp_lt hx hb zh1 (by decide) (tgt := 14) dX3_lengthFor_2 (by decide) (fun cc => ?_) (fun cc => ?_)
  · replace hw := hwt cc
    refine lv_bipush (v := (-6)) hx hb dX3_lengthFor_14 (by decide +kernel) ?_
    obtain ⟨le9, fo9, po0, po1, er, ec_le, ec_fo⟩ := hw
    have hP9 : va_P D vwCl [(q_rg, .inr (3, [.ref q_le, .ref q_fo])), (q_le, .inl (cI, 5, .inl (le))), (q_fo, .inl (cI, 5, .inl (fo)))] zs.heap := hP.sub [0, 1, 2] rfl
    have hD9 : va_D A [(q_rg, .inr (3, [.ref q_le, .ref q_fo])), (q_le, .inl (cI, 5, .inl (le))), (q_fo, .inl (cI, 5, .inl (fo)))] := hD.sub [0, 1, 2] (by decide) rfl
    have hP9 : va_P D vwCl [(q_rg, .inr (3, [.ref q_le, .ref q_fo])), (q_le, .inl (cI, 5, .inl (le9))), (q_fo, .inl (cI, 5, .inl (fo)))] zs.heap := z_arr hP9 1 rfl ec_le
    have hD9 : va_D A [(q_rg, .inr (3, [.ref q_le, .ref q_fo])), (q_le, .inl (cI, 5, .inl (le9))), (q_fo, .inl (cI, 5, .inl (fo)))] := hD9.set (p := 1) (e := .inl (cI, 5, .inl (le9))) rfl
    have hP9 : va_P D vwCl [(q_rg, .inr (3, [.ref q_le, .ref q_fo])), (q_le, .inl (cI, 5, .inl (le9))), (q_fo, .inl (cI, 5, .inl (fo9)))] zs.heap := z_arr hP9 2 rfl ec_fo
    have hD9 : va_D A [(q_rg, .inr (3, [.ref q_le, .ref q_fo])), (q_le, .inl (cI, 5, .inl (le9))), (q_fo, .inl (cI, 5, .inl (fo9)))] := hD9.set (p := 2) (e := .inl (cI, 5, .inl (fo9))) rfl
    exact W.iret (v := (-6)) hx hb hr (fun t ht hW => ⟨⟨_, (le9, fo9), rfl, ⟨po0, po1, er⟩, by rw [ht]; exact hP9, hD9⟩, hS.F ht⟩) hS.2.2 dX3_lengthFor_16
  · replace hw := hwf cc
    refine lv_iload_n hx hb dX3_lengthFor_5 rfl (lv_at hl 1 rfl) ?_
    refine lv_aload_n hx hb dX3_lengthFor_6 rfl (lv_at hl 0 rfl) ?_
    refine va_get (D := D) (ci := 3) (v := .ref q_le) (C := RX3) (T := TX3) (N := 2) hx hb hts i_X3_lengthFor_X3 hown hZ.1 hP 0 rfl rfl 0 (by decide) (hts _ m_X3_lengthFor_f11) (fun _ h9 => h9) rfl dX3_lengthFor_7 ?_
    refine va_alen hx hb hZ.1 hP 1 0 rfl rfl (v := nI 5) rfl dX3_lengthFor_10 ?_
    obtain ⟨zh2, hw⟩ := hw
    obtain ⟨hwt, hwf⟩ := hw
    refine z_icmp_lt hx hb zh2 (by decide) (tgt := 17) dX3_lengthFor_11 (by decide) (fun cc => ?_) (fun cc => ?_)
    · replace hw := hwt cc
      refine lv_aload_n hx hb dX3_lengthFor_17 rfl (lv_at hl 0 rfl) ?_
      refine va_get (D := D) (ci := 3) (v := .ref q_le) (C := RX3) (T := TX3) (N := 2) hx hb hts i_X3_lengthFor_X3 hown hZ.1 hP 0 rfl rfl 0 (by decide) (hts _ m_X3_lengthFor_f11) (fun _ h9 => h9) rfl dX3_lengthFor_18 ?_
      refine lv_iload_n hx hb dX3_lengthFor_21 rfl (lv_at hl 1 rfl) ?_
      obtain ⟨zh3, hw⟩ := hw
      refine z_iald hx hb hZ.1 hP 1 0 rfl rfl zh3 (by decide) (v := le s) rfl dX3_lengthFor_22 ?_
      obtain ⟨hwt, hwf⟩ := hw
      refine lv_if_ne hx hb (tgt := 31) dX3_lengthFor_23 (by decide) (fun cc => ?_) (fun cc => ?_)
      · replace hw := hwt cc
        refine lv_aload_n hx hb dX3_lengthFor_31 rfl (lv_at hl 0 rfl) ?_
        refine va_get (D := D) (ci := 3) (v := .ref q_le) (C := RX3) (T := TX3) (N := 2) hx hb hts i_X3_lengthFor_X3 hown hZ.1 hP 0 rfl rfl 0 (by decide) (hts _ m_X3_lengthFor_f11) (fun _ h9 => h9) rfl dX3_lengthFor_32 ?_
        refine lv_iload_n hx hb dX3_lengthFor_35 rfl (lv_at hl 1 rfl) ?_
        obtain ⟨zh4, hw⟩ := hw
        refine z_iald hx hb hZ.1 hP 1 0 rfl rfl zh4 (by decide) (v := le s) rfl dX3_lengthFor_36 ?_
        obtain ⟨le9, fo9, po0, po1, er, ec_le, ec_fo⟩ := hw
        have hP9 : va_P D vwCl [(q_rg, .inr (3, [.ref q_le, .ref q_fo])), (q_le, .inl (cI, 5, .inl (le))), (q_fo, .inl (cI, 5, .inl (fo)))] zs.heap := hP.sub [0, 1, 2] rfl
        have hD9 : va_D A [(q_rg, .inr (3, [.ref q_le, .ref q_fo])), (q_le, .inl (cI, 5, .inl (le))), (q_fo, .inl (cI, 5, .inl (fo)))] := hD.sub [0, 1, 2] (by decide) rfl
        have hP9 : va_P D vwCl [(q_rg, .inr (3, [.ref q_le, .ref q_fo])), (q_le, .inl (cI, 5, .inl (le9))), (q_fo, .inl (cI, 5, .inl (fo)))] zs.heap := z_arr hP9 1 rfl ec_le
        have hD9 : va_D A [(q_rg, .inr (3, [.ref q_le, .ref q_fo])), (q_le, .inl (cI, 5, .inl (le9))), (q_fo, .inl (cI, 5, .inl (fo)))] := hD9.set (p := 1) (e := .inl (cI, 5, .inl (le9))) rfl
        have hP9 : va_P D vwCl [(q_rg, .inr (3, [.ref q_le, .ref q_fo])), (q_le, .inl (cI, 5, .inl (le9))), (q_fo, .inl (cI, 5, .inl (fo9)))] zs.heap := z_arr hP9 2 rfl ec_fo
        have hD9 : va_D A [(q_rg, .inr (3, [.ref q_le, .ref q_fo])), (q_le, .inl (cI, 5, .inl (le9))), (q_fo, .inl (cI, 5, .inl (fo9)))] := hD9.set (p := 2) (e := .inl (cI, 5, .inl (fo9))) rfl
        exact W.iret (v := le s) hx hb hr (fun t ht hW => ⟨⟨_, (le9, fo9), rfl, ⟨po0, po1, er⟩, by rw [ht]; exact hP9, hD9⟩, hS.F ht⟩) hS.2.2 dX3_lengthFor_37
      · replace hw := hwf cc
        refine lv_aload_n hx hb dX3_lengthFor_26 rfl (lv_at hl 0 rfl) ?_
        refine lv_iload_n hx hb dX3_lengthFor_27 rfl (lv_at hl 1 rfl) ?_
        obtain ⟨zh5, hw⟩ := hw
        obtain ⟨zh6, hw⟩ := hw
        have hPc : va_P D vwCl [(q_rg, .inr (3, [.ref q_le, .ref q_fo])), (q_le, .inl (cI, 5, .inl (le))), (q_fo, .inl (cI, 5, .inl (fo)))] zs.heap := hP.sub [0, 1, 2] rfl
        have hDc : va_D A [(q_rg, .inr (3, [.ref q_le, .ref q_fo])), (q_le, .inl (cI, 5, .inl (le))), (q_fo, .inl (cI, 5, .inl (fo)))] := hD.sub [0, 1, 2] (by decide) rfl
        have hFc := va_free (wc := [(q_rg, .inr (3, [.ref q_le, .ref q_fo])), (q_le, .inl (cI, 5, .inl (le))), (q_fo, .inl (cI, 5, .inl (fo)))]) hD hS hA [0, 1, 2] rfl
        refine va_callv (va_runV (As := [.int (nI s)]) (rest := []) ⟨hx, hb, hml, hown, hts⟩ (k_X3_find q_rg q_le q_fo zs.heap.size le fo s zh5 zh6) (cwV 1 hts gX3_lengthFor_X3_find rfl rfl rfl (by decide +kernel) ⟨Nat.le_of_ble_eq_true rfl, Nat.le_of_ble_eq_true rfl⟩) (zPw_V hZ hPc (hDc.weaken (fun _ _ _ _ => trivial)) 0 rfl rfl) rfl rfl hl.1 rfl (lv_room (Nat.le_of_ble_eq_true rfl)) dX3_lengthFor_28 ⟨Nat.zero_le _, Nat.zero_le _⟩) hS (fun q _ h => hFc q h) hFc (fun zu zt H1 locs1 ht hvm hq hB hz1 hk1 hS => ?_)
        obtain ⟨zfo97, rfl⟩ : ∃ z, z = zu := ⟨_, rfl⟩
        obtain ⟨zp8, zp9⟩ := hq
        obtain ⟨hP1, hD1⟩ := hB
        rw [ht] at hP1
        replace hw := hw zfo97 zp8 zp9
        obtain ⟨hP, hD⟩ := va_join (wr := []) (w1 := [(q_rg, .inr (3, [.ref q_le, .ref q_fo])), (q_le, .inl (cI, 5, .inl (upd le s (rl s)))), (q_fo, .inl (cI, 5, .inl (zfo97)))]) hP hD [0, 1, 2] [] rfl rfl (by decide) (by decide) hk1 hFc hP1 hD1
        have hP : va_P D vwCl [(q_rg, .inr (3, [.ref q_le, .ref q_fo])), (q_le, .inl (cI, 5, .inl (upd le s (rl s)))), (q_fo, .inl (cI, 5, .inl (zfo97)))] H1 := hP
        have hD : va_D A [(q_rg, .inr (3, [.ref q_le, .ref q_fo])), (q_le, .inl (cI, 5, .inl (upd le s (rl s)))), (q_fo, .inl (cI, 5, .inl (zfo97)))] := hD
        clear hP1 hD1 hk1 hz1 hFc hDc hPc ht hvm
        refine lv_aload_n hx hb dX3_lengthFor_31 rfl (lv_at hl 0 rfl) ?_
        refine va_get (D := D) (ci := 3) (v := .ref q_le) (C := RX3) (T := TX3) (N := 2) hx hb hts i_X3_lengthFor_X3 hown hZ.1 hP 0 rfl rfl 0 (by decide) (hts _ m_X3_lengthFor_f11) (fun _ h9 => h9) rfl dX3_lengthFor_32 ?_
        refine lv_iload_n hx hb dX3_lengthFor_35 rfl (lv_at hl 1 rfl) ?_
        obtain ⟨zh11, hw⟩ := hw
        refine z_iald hx hb hZ.1 hP 1 0 rfl rfl zh11 (by decide) (v := upd le s (rl s) s) rfl dX3_lengthFor_36 ?_
        obtain ⟨le9, fo9, po0, po1, er, ec_le, ec_fo⟩ := hw
        have hP9 : va_P D vwCl [(q_rg, .inr (3, [.ref q_le, .ref q_fo])), (q_le, .inl (cI, 5, .inl (upd le s (rl s)))), (q_fo, .inl (cI, 5, .inl (zfo97)))] H1 := hP.sub [0, 1, 2] rfl
        have hD9 : va_D A [(q_rg, .inr (3, [.ref q_le, .ref q_fo])), (q_le, .inl (cI, 5, .inl (upd le s (rl s)))), (q_fo, .inl (cI, 5, .inl (zfo97)))] := hD.sub [0, 1, 2] (by decide) rfl
        have hP9 : va_P D vwCl [(q_rg, .inr (3, [.ref q_le, .ref q_fo])), (q_le, .inl (cI, 5, .inl (le9))), (q_fo, .inl (cI, 5, .inl (zfo97)))] H1 := z_arr hP9 1 rfl ec_le
        have hD9 : va_D A [(q_rg, .inr (3, [.ref q_le, .ref q_fo])), (q_le, .inl (cI, 5, .inl (le9))), (q_fo, .inl (cI, 5, .inl (zfo97)))] := hD9.set (p := 1) (e := .inl (cI, 5, .inl (le9))) rfl
        have hP9 : va_P D vwCl [(q_rg, .inr (3, [.ref q_le, .ref q_fo])), (q_le, .inl (cI, 5, .inl (le9))), (q_fo, .inl (cI, 5, .inl (fo9)))] H1 := z_arr hP9 2 rfl ec_fo
        have hD9 : va_D A [(q_rg, .inr (3, [.ref q_le, .ref q_fo])), (q_le, .inl (cI, 5, .inl (le9))), (q_fo, .inl (cI, 5, .inl (fo9)))] := hD9.set (p := 2) (e := .inl (cI, 5, .inl (fo9))) rfl
        exact W.iret (v := upd le s (rl s) s) hx hb hr (fun t ht hW => ⟨⟨_, (le9, fo9), rfl, ⟨po0, po1, er⟩, by rw [ht]; exact hP9, hD9⟩, hS.F ht⟩) hS.2.2 dX3_lengthFor_37
    · replace hw := hwf cc
      refine lv_bipush (v := (-6)) hx hb dX3_lengthFor_14 (by decide +kernel) ?_
      obtain ⟨le9, fo9, po0, po1, er, ec_le, ec_fo⟩ := hw
      have hP9 : va_P D vwCl [(q_rg, .inr (3, [.ref q_le, .ref q_fo])), (q_le, .inl (cI, 5, .inl (le))), (q_fo, .inl (cI, 5, .inl (fo)))] zs.heap := hP.sub [0, 1, 2] rfl
      have hD9 : va_D A [(q_rg, .inr (3, [.ref q_le, .ref q_fo])), (q_le, .inl (cI, 5, .inl (le))), (q_fo, .inl (cI, 5, .inl (fo)))] := hD.sub [0, 1, 2] (by decide) rfl
      have hP9 : va_P D vwCl [(q_rg, .inr (3, [.ref q_le, .ref q_fo])), (q_le, .inl (cI, 5, .inl (le9))), (q_fo, .inl (cI, 5, .inl (fo)))] zs.heap := z_arr hP9 1 rfl ec_le
      have hD9 : va_D A [(q_rg, .inr (3, [.ref q_le, .ref q_fo])), (q_le, .inl (cI, 5, .inl (le9))), (q_fo, .inl (cI, 5, .inl (fo)))] := hD9.set (p := 1) (e := .inl (cI, 5, .inl (le9))) rfl
      have hP9 : va_P D vwCl [(q_rg, .inr (3, [.ref q_le, .ref q_fo])), (q_le, .inl (cI, 5, .inl (le9))), (q_fo, .inl (cI, 5, .inl (fo9)))] zs.heap := z_arr hP9 2 rfl ec_fo
      have hD9 : va_D A [(q_rg, .inr (3, [.ref q_le, .ref q_fo])), (q_le, .inl (cI, 5, .inl (le9))), (q_fo, .inl (cI, 5, .inl (fo9)))] := hD9.set (p := 2) (e := .inl (cI, 5, .inl (fo9))) rfl
      exact W.iret (v := (-6)) hx hb hr (fun t ht hW => ⟨⟨_, (le9, fo9), rfl, ⟨po0, po1, er⟩, by rw [ht]; exact hP9, hD9⟩, hS.F ht⟩) hS.2.2 dX3_lengthFor_16
theorem m_X3_numberFor_f11 : Cond.fieldLink RX3 11 "NetWalkers$Rings" "lengths" "[I" ∈ wsX3_numberFor := by decide +kernel
theorem i_X3_numberFor_X3 : ∀ w ∈ wsX30, w ∈ wsX3_numberFor := by decide +kernel
theorem m_X3_numberFor_f15 : Cond.fieldLink RX3 15 "NetWalkers$Rings" "found" "[I" ∈ wsX3_numberFor := by decide +kernel
set_option maxRecDepth 100000 in
set_option maxHeartbeats 4000000 in
theorem w_X3_numberFor {l : Launch} {D : va_G} {cI cZ : ClassId} (k_X3_numberOf : K_X3_numberOf l D cI cZ) (vv : V_X3_numberFor) : K_X3_numberFor l D cI cZ := by
  intro q_rg q_le q_fo le fo s i hpre0 hpre1 hpre2 hpre3
  have vw := vv le fo s i hpre0 hpre1 hpre2 hpre3
  refine Met.ofW (cc := cX3_numberFor) (maxL := 4) (ret := (some .int)) (by decide) rfl ?_
  intro zp ze zs zm zargs zbelow zmeth zc zs1 B hml hv
  obtain ⟨rfl, hZ, hP⟩ := hv
  have hx := B.exec
  have hb := B.bytes
  have hr := B.returns
  have hts := atoms_spec (ws := wsX3_numberFor) B.pre
  have hown : zs.vm.findClass RX3 = some zm.cls := findClass_of_methodNamed B.named
  have hlocks := B.notSynchronized
  have hP : va_P D vwCl [(q_rg, .inr (3, [.ref q_le, .ref q_fo])), (q_le, .inl (cI, 5, .inl (le))), (q_fo, .inl (cI, 5, .inl (fo)))] zs.heap := hP
  have hl := lv_entry ([.ref q_rg, .int (nI s), .int i]) (n := 4) (Nat.le_of_ble_eq_true rfl)
  rw [lg_entry_eq]
  generalize (lg_sl ([.ref q_rg, .int (nI s), .int i]) ++ List.replicate (4 - (lg_sl ([.ref q_rg, .int (nI s), .int i])).length) Slot.unset).toArray = ls at hl ⊢
  have hl : lv_has ls 4 [(0, .ref q_rg), (1, .int (nI s)), (2, .int i)] := hl
  have hw := vw
  unfold B_X3_numberFor_in at hw
  refine lv_iload_n hx hb dX3_numberFor_0 rfl (lv_at hl 1 rfl) ?_
  refine lv_iconst (v := nI 2) hx hb dX3_numberFor_1 (by decide +kernel) ?_
  obtain ⟨zh1, hw⟩ := hw
  obtain ⟨hwt, hwf⟩ := hw
  refine z_icmp_lt hx hb zh1 (by decide) (tgt := 23) dX3_numberFor_2 (by decide) (fun cc => ?_) (fun cc => ?_)
  · replace hw := hwt cc
    refine lv_bipush (v := (-6)) hx hb dX3_numberFor_23 (by decide +kernel) ?_
    have er := hw
    exact W.iret (v := (-6)) hx hb hr (fun t ht hW => ⟨_, rfl, er, ht⟩) (fun _ h => by cases h) dX3_numberFor_25
  · replace hw := hwf cc
    refine lv_iload_n hx hb dX3_numberFor_5 rfl (lv_at hl 1 rfl) ?_
    refine lv_aload_n hx hb dX3_numberFor_6 rfl (lv_at hl 0 rfl) ?_
    refine va_get (D := D) (ci := 3) (v := .ref q_le) (C := RX3) (T := TX3) (N := 2) hx hb hts i_X3_numberFor_X3 hown hZ.1 hP 0 rfl rfl 0 (by decide) (hts _ m_X3_numberFor_f11) (fun _ h9 => h9) rfl dX3_numberFor_7 ?_
    refine va_alen hx hb hZ.1 hP 1 0 rfl rfl (v := nI 5) rfl dX3_numberFor_10 ?_
    obtain ⟨zh2, hw⟩ := hw
    obtain ⟨hwt, hwf⟩ := hw
    refine z_icmp_ge hx hb zh2 (by decide) (tgt := 23) dX3_numberFor_11 (by decide) (fun cc => ?_) (fun cc => ?_)
    · replace hw := hwt cc
      refine lv_bipush (v := (-6)) hx hb dX3_numberFor_23 (by decide +kernel) ?_
      have er := hw
      exact W.iret (v := (-6)) hx hb hr (fun t ht hW => ⟨_, rfl, er, ht⟩) (fun _ h => by cases h) dX3_numberFor_25
    · replace hw := hwf cc
      refine lv_iload_n hx hb dX3_numberFor_14 rfl (lv_at hl 1 rfl) ?_
      refine lv_aload_n hx hb dX3_numberFor_15 rfl (lv_at hl 0 rfl) ?_
      refine va_get (D := D) (ci := 3) (v := .ref q_fo) (C := RX3) (T := TX3) (N := 2) hx hb hts i_X3_numberFor_X3 hown hZ.1 hP 0 rfl rfl 1 (by decide) (hts _ m_X3_numberFor_f15) (fun _ h9 => h9) rfl dX3_numberFor_16 ?_
      refine va_alen hx hb hZ.1 hP 2 0 rfl rfl (v := nI 5) rfl dX3_numberFor_19 ?_
      obtain ⟨zh3, hw⟩ := hw
      obtain ⟨hwt, hwf⟩ := hw
      refine z_icmp_lt hx hb zh3 (by decide) (tgt := 26) dX3_numberFor_20 (by decide) (fun cc => ?_) (fun cc => ?_)
      · replace hw := hwt cc
        refine lv_aload_n hx hb dX3_numberFor_26 rfl (lv_at hl 0 rfl) ?_
        refine va_get (D := D) (ci := 3) (v := .ref q_le) (C := RX3) (T := TX3) (N := 2) hx hb hts i_X3_numberFor_X3 hown hZ.1 hP 0 rfl rfl 0 (by decide) (hts _ m_X3_numberFor_f11) (fun _ h9 => h9) rfl dX3_numberFor_27 ?_
        refine lv_iload_n hx hb dX3_numberFor_30 rfl (lv_at hl 1 rfl) ?_
        obtain ⟨zh4, hw⟩ := hw
        refine z_iald hx hb hZ.1 hP 1 0 rfl rfl zh4 (by decide) (v := le s) rfl dX3_numberFor_31 ?_
        obtain ⟨zx5, ezx5⟩ : ∃ zx5 : Int32, zx5 = le s := ⟨_, rfl⟩
        replace hw := hw zx5 ezx5
        refine z_st (st' := [.int zx5]) (by rw [ezx5]) ?_
        refine lv_istore_n (lv' := [(3, .int zx5), (0, .ref q_rg), (1, .int (nI s)), (2, .int i)]) hx hb dX3_numberFor_32 rfl hl (by decide) rfl (fun ls hl => ?_)
        refine lv_iload_n hx hb dX3_numberFor_33 rfl (lv_at hl 3 rfl) ?_
        obtain ⟨hwt, hwf⟩ := hw
        refine lv_if_lt hx hb (tgt := 56) dX3_numberFor_34 (by decide) (fun cc => ?_) (fun cc => ?_)
        · replace hw := hwt cc
          refine lv_bipush (v := (-6)) hx hb dX3_numberFor_56 (by decide +kernel) ?_
          have er := hw
          exact W.iret (v := (-6)) hx hb hr (fun t ht hW => ⟨_, rfl, er, ht⟩) (fun _ h => by cases h) dX3_numberFor_58
        · replace hw := hwf cc
          refine lv_iload_n hx hb dX3_numberFor_37 rfl (lv_at hl 3 rfl) ?_
          refine lv_iload_n hx hb dX3_numberFor_38 rfl (lv_at hl 0 rfl) ?_
          obtain ⟨hwt, hwf⟩ := hw
          refine lv_icmp_ge hx hb (tgt := 56) dX3_numberFor_39 (by decide) (fun cc => ?_) (fun cc => ?_)
          · replace hw := hwt cc
            refine lv_bipush (v := (-6)) hx hb dX3_numberFor_56 (by decide +kernel) ?_
            have er := hw
            exact W.iret (v := (-6)) hx hb hr (fun t ht hW => ⟨_, rfl, er, ht⟩) (fun _ h => by cases h) dX3_numberFor_58
          · replace hw := hwf cc
            refine lv_aload_n hx hb dX3_numberFor_42 rfl (lv_at hl 1 rfl) ?_
            refine va_get (D := D) (ci := 3) (v := .ref q_fo) (C := RX3) (T := TX3) (N := 2) hx hb hts i_X3_numberFor_X3 hown hZ.1 hP 0 rfl rfl 1 (by decide) (hts _ m_X3_numberFor_f15) (fun _ h9 => h9) rfl dX3_numberFor_43 ?_
            refine lv_iload_n hx hb dX3_numberFor_46 rfl (lv_at hl 2 rfl) ?_
            obtain ⟨zh6, hw⟩ := hw
            refine z_iald hx hb hZ.1 hP 2 0 rfl rfl zh6 (by decide) (v := fo s) rfl dX3_numberFor_47 ?_
            refine lv_iload_n hx hb dX3_numberFor_48 rfl (lv_at hl 0 rfl) ?_
            refine lv_iload_n hx hb dX3_numberFor_49 rfl (lv_at hl 3 rfl) ?_
            obtain ⟨zk7, ezk7, hw⟩ := hw
            refine z_st (st' := [.int i, .int zx5, .int (nI zk7)]) (by rw [ezk7]) ?_
            obtain ⟨zk8, ezk8, hw⟩ := hw
            refine z_st (st' := [.int i, .int (nI zk8), .int (nI zk7)]) (by rw [ezk8]) ?_
            obtain ⟨zk9, ezk9, hw⟩ := hw
            refine z_st (st' := [.int (nI zk9), .int (nI zk8), .int (nI zk7)]) (by rw [ezk9]) ?_
            obtain ⟨zh10, hw⟩ := hw
            obtain ⟨zh11, hw⟩ := hw
            obtain ⟨zh12, hw⟩ := hw
            have hPc : va_P D vwCl [] zs.heap := hP.sub [] rfl
            refine z_ro (va_runS (As := [.int (nI zk7), .int (nI zk8), .int (nI zk9)]) (rest := []) ⟨hx, hb, hml, hown, hts⟩ (k_X3_numberOf zk7 zk8 zk9 zh10 zh11 zh12) (va_cwS 3 hts gX3_numberFor_X3_numberOf rfl rfl rfl (by decide +kernel) ⟨Nat.le_of_ble_eq_true rfl, Nat.le_of_ble_eq_true rfl⟩) (zPr_S hZ hPc) rfl rfl hl.1 rfl (lv_room (Nat.le_of_ble_eq_true rfl)) dX3_numberFor_50 ⟨Nat.zero_le _, Nat.zero_le _⟩) (fun zr13 hzr13 => ?_)
            have ez := hzr13
            rw [ez]
            clear ez hzr13
            refine lv_goto (tgt := 58) hx hb dX3_numberFor_53 (by decide) ?_
            have er := hw
            exact W.iret (v := nI ((zk7 >>> (zk8 - 1 - zk9)) &&& 1)) hx hb hr (fun t ht hW => ⟨_, rfl, er, ht⟩) (fun _ h => by cases h) dX3_numberFor_58
      · replace hw := hwf cc
        refine lv_bipush (v := (-6)) hx hb dX3_numberFor_23 (by decide +kernel) ?_
        have er := hw
        exact W.iret (v := (-6)) hx hb hr (fun t ht hW => ⟨_, rfl, er, ht⟩) (fun _ h => by cases h) dX3_numberFor_25
