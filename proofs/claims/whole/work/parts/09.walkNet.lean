/-! ===== by program: the walks ===== -/
set_option maxRecDepth 100000 in
set_option maxHeartbeats 4000000 in
theorem w_X5_placeOf {l : Launch} {D : va_G} {cI cZ : ClassId} (vv : V_X5_placeOf) : K_X5_placeOf l D cI cZ := by
  intro a d
  have vw := vv a d
  refine Met.ofW (cc := cX5_placeOf) (maxL := 2) (ret := (some .int)) (by decide) rfl ?_
  intro zp ze zs zm zargs zbelow zmeth zc zs1 B hml hv
  obtain ⟨rfl, hZ, hP⟩ := hv
  have hx := B.exec
  have hb := B.bytes
  have hr := B.returns
  have hts := atoms_spec (ws := wsX5_placeOf) B.pre
  have hown : zs.vm.findClass RX5 = some zm.cls := findClass_of_methodNamed B.named
  have hlocks := B.notSynchronized
  have hP : va_P D vwCl [] zs.heap := hP
  have hl := lv_entry ([.int (nI a), .int (nI d)]) (n := 2) (Nat.le_of_ble_eq_true rfl)
  rw [lg_entry_eq]
  generalize (lg_sl ([.int (nI a), .int (nI d)]) ++ List.replicate (2 - (lg_sl ([.int (nI a), .int (nI d)])).length) Slot.unset).toArray = ls at hl ⊢
  have hl : lv_has ls 2 [(0, .int (nI a)), (1, .int (nI d))] := hl
  have hw := vw
  unfold B_X5_placeOf_in at hw
  refine lv_iconst (v := nI 4) hx hb dX5_placeOf_0 (by decide +kernel) ?_
  refine lv_iload_n hx hb dX5_placeOf_1 rfl (lv_at hl 0 rfl) ?_
  refine z_imul hx hb (pk_mul _ _) dX5_placeOf_2 ?_
  refine lv_iload_n hx hb dX5_placeOf_3 rfl (lv_at hl 1 rfl) ?_
  refine z_iadd hx hb (nI_add _ _) dX5_placeOf_4 ?_
  have er := hw
  exact W.iret (v := nI ((4 * a) + d)) hx hb hr (fun t ht hW => ⟨_, rfl, (congrArg nI er), ht⟩) (fun _ h => by cases h) dX5_placeOf_5
set_option maxRecDepth 100000 in
set_option maxHeartbeats 4000000 in
theorem w_X5_postOf {l : Launch} {D : va_G} {cI cZ : ClassId} (vv : V_X5_postOf) : K_X5_postOf l D cI cZ := by
  intro a hpre0
  have vw := vv a hpre0
  refine Met.ofW (cc := cX5_postOf) (maxL := 1) (ret := (some .int)) (by decide) rfl ?_
  intro zp ze zs zm zargs zbelow zmeth zc zs1 B hml hv
  obtain ⟨rfl, hZ, hP⟩ := hv
  have hx := B.exec
  have hb := B.bytes
  have hr := B.returns
  have hts := atoms_spec (ws := wsX5_postOf) B.pre
  have hown : zs.vm.findClass RX5 = some zm.cls := findClass_of_methodNamed B.named
  have hlocks := B.notSynchronized
  have hP : va_P D vwCl [] zs.heap := hP
  have hl := lv_entry ([.int (nI a)]) (n := 1) (Nat.le_of_ble_eq_true rfl)
  rw [lg_entry_eq]
  generalize (lg_sl ([.int (nI a)]) ++ List.replicate (1 - (lg_sl ([.int (nI a)])).length) Slot.unset).toArray = ls at hl ⊢
  have hl : lv_has ls 1 [(0, .int (nI a))] := hl
  have hw := vw
  unfold B_X5_postOf_in at hw
  refine lv_iload_n hx hb dX5_postOf_0 rfl (lv_at hl 0 rfl) ?_
  refine lv_iconst (v := nI 4) hx hb dX5_postOf_1 (by decide +kernel) ?_
  obtain ⟨zh1, hw⟩ := hw
  refine z_idiv hx hb (n_nz (by decide) (by decide)) (n_div zh1 (by decide) (by decide)) dX5_postOf_2 ?_
  have er := hw
  exact W.iret (v := nI (a / 4)) hx hb hr (fun t ht hW => ⟨_, rfl, (congrArg nI er), ht⟩) (fun _ h => by cases h) dX5_postOf_3
set_option maxRecDepth 100000 in
set_option maxHeartbeats 4000000 in
theorem w_X5_doorOf {l : Launch} {D : va_G} {cI cZ : ClassId} (vv : V_X5_doorOf) : K_X5_doorOf l D cI cZ := by
  intro a hpre0
  have vw := vv a hpre0
  refine Met.ofW (cc := cX5_doorOf) (maxL := 1) (ret := (some .int)) (by decide) rfl ?_
  intro zp ze zs zm zargs zbelow zmeth zc zs1 B hml hv
  obtain ⟨rfl, hZ, hP⟩ := hv
  have hx := B.exec
  have hb := B.bytes
  have hr := B.returns
  have hts := atoms_spec (ws := wsX5_doorOf) B.pre
  have hown : zs.vm.findClass RX5 = some zm.cls := findClass_of_methodNamed B.named
  have hlocks := B.notSynchronized
  have hP : va_P D vwCl [] zs.heap := hP
  have hl := lv_entry ([.int (nI a)]) (n := 1) (Nat.le_of_ble_eq_true rfl)
  rw [lg_entry_eq]
  generalize (lg_sl ([.int (nI a)]) ++ List.replicate (1 - (lg_sl ([.int (nI a)])).length) Slot.unset).toArray = ls at hl ⊢
  have hl : lv_has ls 1 [(0, .int (nI a))] := hl
  have hw := vw
  unfold B_X5_doorOf_in at hw
  refine lv_iload_n hx hb dX5_doorOf_0 rfl (lv_at hl 0 rfl) ?_
  refine lv_iconst (v := nI 4) hx hb dX5_doorOf_1 (by decide +kernel) ?_
  obtain ⟨zh1, hw⟩ := hw
  refine z_irem hx hb (n_nz (by decide) (by decide)) (n_rem zh1 (by decide) (by decide)) dX5_doorOf_2 ?_
  have er := hw
  exact W.iret (v := nI (a % 4)) hx hb hr (fun t ht hW => ⟨_, rfl, (congrArg nI er), ht⟩) (fun _ h => by cases h) dX5_doorOf_3
set_option maxRecDepth 100000 in
set_option maxHeartbeats 4000000 in
theorem w_X5_asTold {l : Launch} {D : va_G} {cI cZ : ClassId} (k_X5_postOf : K_X5_postOf l D cI cZ) (k_X5_doorOf : K_X5_doorOf l D cI cZ) (vv : V_X5_asTold) : K_X5_asTold l D cI cZ := by
  intro a hpre0
  have vw := vv a hpre0
  refine Met.ofW (cc := cX5_asTold) (maxL := 1) (ret := (some .int)) (by decide) rfl ?_
  intro zp ze zs zm zargs zbelow zmeth zc zs1 B hml hv
  obtain ⟨rfl, hZ, hP⟩ := hv
  have hx := B.exec
  have hb := B.bytes
  have hr := B.returns
  have hts := atoms_spec (ws := wsX5_asTold) B.pre
  have hown : zs.vm.findClass RX5 = some zm.cls := findClass_of_methodNamed B.named
  have hlocks := B.notSynchronized
  have hP : va_P D vwCl [] zs.heap := hP
  have hl := lv_entry ([.int (nI a)]) (n := 1) (Nat.le_of_ble_eq_true rfl)
  rw [lg_entry_eq]
  generalize (lg_sl ([.int (nI a)]) ++ List.replicate (1 - (lg_sl ([.int (nI a)])).length) Slot.unset).toArray = ls at hl ⊢
  have hl : lv_has ls 1 [(0, .int (nI a))] := hl
  have hw := vw
  unfold B_X5_asTold_in at hw
  refine lv_bipush (v := nI 10) hx hb dX5_asTold_0 (by decide +kernel) ?_
  refine lv_iload_n hx hb dX5_asTold_2 rfl (lv_at hl 0 rfl) ?_
  obtain ⟨zh1, hw⟩ := hw
  have hPc : va_P D vwCl [] zs.heap := hP.sub [] rfl
  refine z_ro (va_runS (As := [.int (nI a)]) (rest := [.int (nI 10)]) ⟨hx, hb, hml, hown, hts⟩ (k_X5_postOf a zh1) (va_cwS 1 hts gX5_asTold_X5_postOf rfl rfl rfl (by decide +kernel) ⟨Nat.le_of_ble_eq_true rfl, Nat.le_of_ble_eq_true rfl⟩) (zPr_S hZ hPc) rfl rfl hl.1 rfl (lv_room (Nat.le_of_ble_eq_true rfl)) dX5_asTold_3 ⟨Nat.zero_le _, Nat.zero_le _⟩) (fun zr2 hzr2 => ?_)
  have ez := hzr2
  rw [ez]
  clear ez hzr2
  refine z_imul hx hb (pk_mul _ _) dX5_asTold_6 ?_
  refine lv_iload_n hx hb dX5_asTold_7 rfl (lv_at hl 0 rfl) ?_
  obtain ⟨zh3, hw⟩ := hw
  have hPc : va_P D vwCl [] zs.heap := hP.sub [] rfl
  refine z_ro (va_runS (As := [.int (nI a)]) (rest := [.int (nI (10 * (a / 4)))]) ⟨hx, hb, hml, hown, hts⟩ (k_X5_doorOf a zh3) (va_cwS 1 hts gX5_asTold_X5_doorOf rfl rfl rfl (by decide +kernel) ⟨Nat.le_of_ble_eq_true rfl, Nat.le_of_ble_eq_true rfl⟩) (zPr_S hZ hPc) rfl rfl hl.1 rfl (lv_room (Nat.le_of_ble_eq_true rfl)) dX5_asTold_8 ⟨Nat.zero_le _, Nat.zero_le _⟩) (fun zr4 hzr4 => ?_)
  have ez := hzr4
  rw [ez]
  clear ez hzr4
  refine z_iadd hx hb (nI_add _ _) dX5_asTold_11 ?_
  have er := hw
  exact W.iret (v := nI ((10 * (a / 4)) + (a % 4))) hx hb hr (fun t ht hW => ⟨_, rfl, (congrArg nI er), ht⟩) (fun _ h => by cases h) dX5_asTold_12
set_option maxRecDepth 100000 in
set_option maxHeartbeats 4000000 in
theorem w_X5_isWhich {l : Launch} {D : va_G} {cI cZ : ClassId} (vv : V_X5_isWhich) : K_X5_isWhich l D cI cZ := by
  intro x
  have vw := vv x
  refine Met.ofW (cc := cX5_isWhich) (maxL := 1) (ret := (some .boolean)) (by decide) rfl ?_
  intro zp ze zs zm zargs zbelow zmeth zc zs1 B hml hv
  obtain ⟨rfl, hZ, hP⟩ := hv
  have hx := B.exec
  have hb := B.bytes
  have hr := B.returns
  have hts := atoms_spec (ws := wsX5_isWhich) B.pre
  have hown : zs.vm.findClass RX5 = some zm.cls := findClass_of_methodNamed B.named
  have hlocks := B.notSynchronized
  have hP : va_P D vwCl [] zs.heap := hP
  have hl := lv_entry ([.int x]) (n := 1) (Nat.le_of_ble_eq_true rfl)
  rw [lg_entry_eq]
  generalize (lg_sl ([.int x]) ++ List.replicate (1 - (lg_sl ([.int x])).length) Slot.unset).toArray = ls at hl ⊢
  have hl : lv_has ls 1 [(0, .int x)] := hl
  have hw := vw
  unfold B_X5_isWhich_in at hw
  refine lv_iload_n hx hb dX5_isWhich_0 rfl (lv_at hl 0 rfl) ?_
  obtain ⟨hwt, hwf⟩ := hw
  refine lv_if_eq hx hb (tgt := 9) dX5_isWhich_1 (by decide) (fun cc => ?_) (fun cc => ?_)
  · replace hw := hwt cc
    refine lv_iconst (v := nI 1) hx hb dX5_isWhich_9 (by decide +kernel) ?_
    refine lv_goto (tgt := 14) hx hb dX5_isWhich_10 (by decide) ?_
    refine z_st (st' := [.int (bI true)]) rfl ?_
    have er := hw
    exact W.zret (ty := .boolean) (v := bI true) hx hb hr (bI_nar _) (fun t ht hW => ⟨_, rfl, (congrArg bI er), ht⟩) (fun _ h => by cases h) dX5_isWhich_14
  · replace hw := hwf cc
    refine lv_iload_n hx hb dX5_isWhich_4 rfl (lv_at hl 0 rfl) ?_
    refine lv_iconst (v := nI 1) hx hb dX5_isWhich_5 (by decide +kernel) ?_
    obtain ⟨hwt, hwf⟩ := hw
    refine lv_icmp_ne hx hb (tgt := 13) dX5_isWhich_6 (by decide) (fun cc => ?_) (fun cc => ?_)
    · replace hw := hwt cc
      refine lv_iconst (v := nI 0) hx hb dX5_isWhich_13 (by decide +kernel) ?_
      refine z_st (st' := [.int (bI false)]) rfl ?_
      have er := hw
      exact W.zret (ty := .boolean) (v := bI false) hx hb hr (bI_nar _) (fun t ht hW => ⟨_, rfl, (congrArg bI er), ht⟩) (fun _ h => by cases h) dX5_isWhich_14
    · replace hw := hwf cc
      refine lv_iconst (v := nI 1) hx hb dX5_isWhich_9 (by decide +kernel) ?_
      refine lv_goto (tgt := 14) hx hb dX5_isWhich_10 (by decide) ?_
      refine z_st (st' := [.int (bI true)]) rfl ?_
      have er := hw
      exact W.zret (ty := .boolean) (v := bI true) hx hb hr (bI_nar _) (fun t ht hW => ⟨_, rfl, (congrArg bI er), ht⟩) (fun _ h => by cases h) dX5_isWhich_14
set_option maxRecDepth 100000 in
set_option maxHeartbeats 4000000 in
theorem w_X5_isHow {l : Launch} {D : va_G} {cI cZ : ClassId} (vv : V_X5_isHow) : K_X5_isHow l D cI cZ := by
  intro x
  have vw := vv x
  refine Met.ofW (cc := cX5_isHow) (maxL := 1) (ret := (some .boolean)) (by decide) rfl ?_
  intro zp ze zs zm zargs zbelow zmeth zc zs1 B hml hv
  obtain ⟨rfl, hZ, hP⟩ := hv
  have hx := B.exec
  have hb := B.bytes
  have hr := B.returns
  have hts := atoms_spec (ws := wsX5_isHow) B.pre
  have hown : zs.vm.findClass RX5 = some zm.cls := findClass_of_methodNamed B.named
  have hlocks := B.notSynchronized
  have hP : va_P D vwCl [] zs.heap := hP
  have hl := lv_entry ([.int x]) (n := 1) (Nat.le_of_ble_eq_true rfl)
  rw [lg_entry_eq]
  generalize (lg_sl ([.int x]) ++ List.replicate (1 - (lg_sl ([.int x])).length) Slot.unset).toArray = ls at hl ⊢
  have hl : lv_has ls 1 [(0, .int x)] := hl
  have hw := vw
  unfold B_X5_isHow_in at hw
  refine lv_iload_n hx hb dX5_isHow_0 rfl (lv_at hl 0 rfl) ?_
  obtain ⟨hwt, hwf⟩ := hw
  refine lv_if_eq hx hb (tgt := 9) dX5_isHow_1 (by decide) (fun cc => ?_) (fun cc => ?_)
  · replace hw := hwt cc
    refine lv_iconst (v := nI 1) hx hb dX5_isHow_9 (by decide +kernel) ?_
    refine lv_goto (tgt := 14) hx hb dX5_isHow_10 (by decide) ?_
    refine z_st (st' := [.int (bI true)]) rfl ?_
    have er := hw
    exact W.zret (ty := .boolean) (v := bI true) hx hb hr (bI_nar _) (fun t ht hW => ⟨_, rfl, (congrArg bI er), ht⟩) (fun _ h => by cases h) dX5_isHow_14
  · replace hw := hwf cc
    refine lv_iload_n hx hb dX5_isHow_4 rfl (lv_at hl 0 rfl) ?_
    refine lv_iconst (v := nI 1) hx hb dX5_isHow_5 (by decide +kernel) ?_
    obtain ⟨hwt, hwf⟩ := hw
    refine lv_icmp_ne hx hb (tgt := 13) dX5_isHow_6 (by decide) (fun cc => ?_) (fun cc => ?_)
    · replace hw := hwt cc
      refine lv_iconst (v := nI 0) hx hb dX5_isHow_13 (by decide +kernel) ?_
      refine z_st (st' := [.int (bI false)]) rfl ?_
      have er := hw
      exact W.zret (ty := .boolean) (v := bI false) hx hb hr (bI_nar _) (fun t ht hW => ⟨_, rfl, (congrArg bI er), ht⟩) (fun _ h => by cases h) dX5_isHow_14
    · replace hw := hwf cc
      refine lv_iconst (v := nI 1) hx hb dX5_isHow_9 (by decide +kernel) ?_
      refine lv_goto (tgt := 14) hx hb dX5_isHow_10 (by decide) ?_
      refine z_st (st' := [.int (bI true)]) rfl ?_
      have er := hw
      exact W.zret (ty := .boolean) (v := bI true) hx hb hr (bI_nar _) (fun t ht hW => ⟨_, rfl, (congrArg bI er), ht⟩) (fun _ h => by cases h) dX5_isHow_14
set_option maxRecDepth 100000 in
set_option maxHeartbeats 4000000 in
theorem w_X5_isDepth {l : Launch} {D : va_G} {cI cZ : ClassId} (vv : V_X5_isDepth) : K_X5_isDepth l D cI cZ := by
  intro x
  have vw := vv x
  refine Met.ofW (cc := cX5_isDepth) (maxL := 1) (ret := (some .boolean)) (by decide) rfl ?_
  intro zp ze zs zm zargs zbelow zmeth zc zs1 B hml hv
  obtain ⟨rfl, hZ, hP⟩ := hv
  have hx := B.exec
  have hb := B.bytes
  have hr := B.returns
  have hts := atoms_spec (ws := wsX5_isDepth) B.pre
  have hown : zs.vm.findClass RX5 = some zm.cls := findClass_of_methodNamed B.named
  have hlocks := B.notSynchronized
  have hP : va_P D vwCl [] zs.heap := hP
  have hl := lv_entry ([.int x]) (n := 1) (Nat.le_of_ble_eq_true rfl)
  rw [lg_entry_eq]
  generalize (lg_sl ([.int x]) ++ List.replicate (1 - (lg_sl ([.int x])).length) Slot.unset).toArray = ls at hl ⊢
  have hl : lv_has ls 1 [(0, .int x)] := hl
  have hw := vw
  unfold B_X5_isDepth_in at hw
  refine lv_iload_n hx hb dX5_isDepth_0 rfl (lv_at hl 0 rfl) ?_
  obtain ⟨hwt, hwf⟩ := hw
  refine lv_if_lt hx hb (tgt := 14) dX5_isDepth_1 (by decide) (fun cc => ?_) (fun cc => ?_)
  · replace hw := hwt cc
    refine lv_iconst (v := nI 0) hx hb dX5_isDepth_14 (by decide +kernel) ?_
    refine z_st (st' := [.int (bI false)]) rfl ?_
    have er := hw
    exact W.zret (ty := .boolean) (v := bI false) hx hb hr (bI_nar _) (fun t ht hW => ⟨_, rfl, (congrArg bI er), ht⟩) (fun _ h => by cases h) dX5_isDepth_15
  · replace hw := hwf cc
    refine lv_iload_n hx hb dX5_isDepth_4 rfl (lv_at hl 0 rfl) ?_
    refine lv_bipush (v := nI 20) hx hb dX5_isDepth_5 (by decide +kernel) ?_
    obtain ⟨hwt, hwf⟩ := hw
    refine lv_icmp_gt hx hb (tgt := 14) dX5_isDepth_7 (by decide) (fun cc => ?_) (fun cc => ?_)
    · replace hw := hwt cc
      refine lv_iconst (v := nI 0) hx hb dX5_isDepth_14 (by decide +kernel) ?_
      refine z_st (st' := [.int (bI false)]) rfl ?_
      have er := hw
      exact W.zret (ty := .boolean) (v := bI false) hx hb hr (bI_nar _) (fun t ht hW => ⟨_, rfl, (congrArg bI er), ht⟩) (fun _ h => by cases h) dX5_isDepth_15
    · replace hw := hwf cc
      refine lv_iconst (v := nI 1) hx hb dX5_isDepth_10 (by decide +kernel) ?_
      refine lv_goto (tgt := 15) hx hb dX5_isDepth_11 (by decide) ?_
      refine z_st (st' := [.int (bI true)]) rfl ?_
      have er := hw
      exact W.zret (ty := .boolean) (v := bI true) hx hb hr (bI_nar _) (fun t ht hW => ⟨_, rfl, (congrArg bI er), ht⟩) (fun _ h => by cases h) dX5_isDepth_15
theorem m_X4_isFull_f15 : Cond.fieldLink RX4 15 "NetWalkers$Row" "length" "I" ∈ wsX4_isFull := by decide +kernel
theorem i_X4_isFull_X4 : ∀ w ∈ wsX40, w ∈ wsX4_isFull := by decide +kernel
theorem m_X4_isFull_f9 : Cond.fieldLink RX4 9 "NetWalkers$Row" "numbers" "[I" ∈ wsX4_isFull := by decide +kernel
set_option maxRecDepth 100000 in
set_option maxHeartbeats 4000000 in
theorem w_X4_isFull {l : Launch} {D : va_G} {cI cZ : ClassId} (vv : V_X4_isFull) : K_X4_isFull l D cI cZ := by
  intro q_rw q_nm r L hpre0
  have vw := vv r L hpre0
  refine Met.ofW (cc := cX4_isFull) (maxL := 1) (ret := (some .boolean)) (by decide) rfl ?_
  intro zp ze zs zm zargs zbelow zmeth zc zs1 B hml hv
  obtain ⟨rfl, hZ, hP⟩ := hv
  have hx := B.exec
  have hb := B.bytes
  have hr := B.returns
  have hts := atoms_spec (ws := wsX4_isFull) B.pre
  have hown : zs.vm.findClass RX4 = some zm.cls := findClass_of_methodNamed B.named
  have hlocks := B.notSynchronized
  have hP : va_P D vwCl [(q_rw, .inr (4, [.ref q_nm, .int (nI L)])), (q_nm, .inl (cI, 40, .inl (aN r)))] zs.heap := hP
  have hl := lv_entry ([.ref q_rw]) (n := 1) (Nat.le_of_ble_eq_true rfl)
  rw [lg_entry_eq]
  generalize (lg_sl ([.ref q_rw]) ++ List.replicate (1 - (lg_sl ([.ref q_rw])).length) Slot.unset).toArray = ls at hl ⊢
  have hl : lv_has ls 1 [(0, .ref q_rw)] := hl
  have hw := vw
  unfold B_X4_isFull_in at hw
  refine lv_aload_n hx hb dX4_isFull_0 rfl (lv_at hl 0 rfl) ?_
  refine va_get (D := D) (ci := 4) (v := .int (nI L)) (C := RX4) (T := TX4) (N := 2) hx hb hts i_X4_isFull_X4 hown hZ.1 hP 0 rfl rfl 1 (by decide) (hts _ m_X4_isFull_f15) (fun _ h9 => h9) rfl dX4_isFull_1 ?_
  refine lv_aload_n hx hb dX4_isFull_4 rfl (lv_at hl 0 rfl) ?_
  refine va_get (D := D) (ci := 4) (v := .ref q_nm) (C := RX4) (T := TX4) (N := 2) hx hb hts i_X4_isFull_X4 hown hZ.1 hP 0 rfl rfl 0 (by decide) (hts _ m_X4_isFull_f9) (fun _ h9 => h9) rfl dX4_isFull_5 ?_
  refine va_alen hx hb hZ.1 hP 1 0 rfl rfl (v := nI 40) rfl dX4_isFull_8 ?_
  obtain ⟨zh1, hw⟩ := hw
  obtain ⟨hwt, hwf⟩ := hw
  refine z_icmp_lt hx hb zh1 (by decide) (tgt := 16) dX4_isFull_9 (by decide) (fun cc => ?_) (fun cc => ?_)
  · replace hw := hwt cc
    refine lv_iconst (v := nI 0) hx hb dX4_isFull_16 (by decide +kernel) ?_
    refine z_st (st' := [.int (bI false)]) rfl ?_
    have er := hw
    exact W.zret (ty := .boolean) (v := bI false) hx hb hr (bI_nar _) (fun t ht hW => ⟨_, rfl, (congrArg bI er), ht⟩) (fun _ h => by cases h) dX4_isFull_17
  · replace hw := hwf cc
    refine lv_iconst (v := nI 1) hx hb dX4_isFull_12 (by decide +kernel) ?_
    refine lv_goto (tgt := 17) hx hb dX4_isFull_13 (by decide) ?_
    refine z_st (st' := [.int (bI true)]) rfl ?_
    have er := hw
    exact W.zret (ty := .boolean) (v := bI true) hx hb hr (bI_nar _) (fun t ht hW => ⟨_, rfl, (congrArg bI er), ht⟩) (fun _ h => by cases h) dX4_isFull_17
theorem m_X4_append_f9 : Cond.fieldLink RX4 9 "NetWalkers$Row" "numbers" "[I" ∈ wsX4_append := by decide +kernel
theorem i_X4_append_X4 : ∀ w ∈ wsX40, w ∈ wsX4_append := by decide +kernel
theorem m_X4_append_f15 : Cond.fieldLink RX4 15 "NetWalkers$Row" "length" "I" ∈ wsX4_append := by decide +kernel
set_option maxRecDepth 100000 in
set_option maxHeartbeats 4000000 in
theorem w_X4_append {l : Launch} {D : va_G} {cI cZ : ClassId} (k_X4_isFull : K_X4_isFull l D cI cZ) (vv : V_X4_append) : K_X4_append l D cI cZ := by
  intro q_rw q_nm sz r L x hpre0
  have vw := vv r L x hpre0
  refine Met.ofW (cc := cX4_append) (maxL := 2) (ret := none) (by decide) rfl ?_
  intro zp ze zs zm zargs zbelow zmeth zc zs1 B hml hv
  obtain ⟨rfl, hsz, hZ, hP, hD0⟩ := hv
  have hx := B.exec
  have hb := B.bytes
  have hr := B.returns
  have hts := atoms_spec (ws := wsX4_append) B.pre
  have hown : zs.vm.findClass RX4 = some zm.cls := findClass_of_methodNamed B.named
  have hlocks := B.notSynchronized
  subst hsz
  have hD := hD0.self (sz := zs.heap.size)
  generalize hAe : va_A [(q_rw, .inr (4, [.ref q_nm, .int (nI L)])), (q_nm, .inl (cI, 40, .inl (aN r)))] zs.heap.size = A at hD ⊢
  have hA : ∀ q : Nat, zs.heap.size ≤ q → A q := fun q h => by rw [← hAe]; exact Or.inr h
  have hS : va_S A zs.heap zs.heap [] := va_S.rf
  have hP : va_P D vwCl [(q_rw, .inr (4, [.ref q_nm, .int (nI L)])), (q_nm, .inl (cI, 40, .inl (aN r)))] zs.heap := hP
  have hl := lv_entry ([.ref q_rw, .int (nI x)]) (n := 2) (Nat.le_of_ble_eq_true rfl)
  rw [lg_entry_eq]
  generalize (lg_sl ([.ref q_rw, .int (nI x)]) ++ List.replicate (2 - (lg_sl ([.ref q_rw, .int (nI x)])).length) Slot.unset).toArray = ls at hl ⊢
  have hl : lv_has ls 2 [(0, .ref q_rw), (1, .int (nI x))] := hl
  have hw := vw
  unfold B_X4_append_in at hw
  refine lv_aload_n hx hb dX4_append_0 rfl (lv_at hl 0 rfl) ?_
  obtain ⟨zh1, hw⟩ := hw
  have hPc : va_P D vwCl [(q_rw, .inr (4, [.ref q_nm, .int (nI L)])), (q_nm, .inl (cI, 40, .inl (aN r)))] zs.heap := hP.sub [0, 1] rfl
  refine z_ro (va_runV (As := []) (rest := []) ⟨hx, hb, hml, hown, hts⟩ (k_X4_isFull q_rw q_nm r L zh1) (cwV 0 hts gX4_append_X4_isFull rfl rfl rfl (by decide +kernel) ⟨Nat.le_of_ble_eq_true rfl, Nat.le_of_ble_eq_true rfl⟩) (zPr_V hZ hPc 0 rfl rfl) rfl rfl hl.1 rfl (lv_room (Nat.le_of_ble_eq_true rfl)) dX4_append_1 ⟨Nat.zero_le _, Nat.zero_le _⟩) (fun zr2 hzr2 => ?_)
  have ez := hzr2
  rw [ez]
  clear ez hzr2
  obtain ⟨hwt, hwf⟩ := hw
  refine z_if_neb hx hb (tgt := 27) dX4_append_4 (by decide) (fun cc => ?_) (fun cc => ?_)
  · replace hw := hwt cc
    obtain ⟨ec_nm, ec_len⟩ := hw
    have hP9 : va_P D vwCl [(q_rw, .inr (4, [.ref q_nm, .int (nI L)])), (q_nm, .inl (cI, 40, .inl (aN r)))] zs.heap := hP.sub [0, 1] rfl
    have hD9 : va_D A [(q_rw, .inr (4, [.ref q_nm, .int (nI L)])), (q_nm, .inl (cI, 40, .inl (aN r)))] := hD.sub [0, 1] (by decide) rfl
    have hP9 : va_P D vwCl [(q_rw, .inr (4, [.ref q_nm, .int (nI L)])), (q_nm, .inl (cI, 40, .inl (aN (upN r L x))))] zs.heap := z_arr hP9 1 rfl (fun zi hi => congrArg nI (ec_nm zi hi))
    have hD9 : va_D A [(q_rw, .inr (4, [.ref q_nm, .int (nI L)])), (q_nm, .inl (cI, 40, .inl (aN (upN r L x))))] := hD9.set (p := 1) (e := .inl (cI, 40, .inl (aN (upN r L x)))) rfl
    have hP9 : va_P D vwCl [(q_rw, .inr (4, [.ref q_nm, .int (nI (L + 1))])), (q_nm, .inl (cI, 40, .inl (aN (upN r L x))))] zs.heap := (congrArg (fun z9 : Nat => va_P D vwCl [(q_rw, .inr (4, [.ref q_nm, .int (nI z9)])), (q_nm, .inl (cI, 40, .inl (aN (upN r L x))))] zs.heap) ec_len).mp hP9
    have hD9 : va_D A [(q_rw, .inr (4, [.ref q_nm, .int (nI (L + 1))])), (q_nm, .inl (cI, 40, .inl (aN (upN r L x))))] := (congrArg (fun z9 : Nat => va_D A [(q_rw, .inr (4, [.ref q_nm, .int (nI z9)])), (q_nm, .inl (cI, 40, .inl (aN (upN r L x))))]) ec_len).mp hD9
    exact W.vret hx hb hr (fun t ht hW => ⟨⟨(), rfl, trivial, by rw [ht]; exact hP9, hD9⟩, hS.F ht⟩) hS.2.2 dX4_append_27
  · replace hw := hwf cc
    refine lv_aload_n hx hb dX4_append_7 rfl (lv_at hl 0 rfl) ?_
    refine va_get (D := D) (ci := 4) (v := .ref q_nm) (C := RX4) (T := TX4) (N := 2) hx hb hts i_X4_append_X4 hown hZ.1 hP 0 rfl rfl 0 (by decide) (hts _ m_X4_append_f9) (fun _ h9 => h9) rfl dX4_append_8 ?_
    refine lv_aload_n hx hb dX4_append_11 rfl (lv_at hl 0 rfl) ?_
    refine va_get (D := D) (ci := 4) (v := .int (nI L)) (C := RX4) (T := TX4) (N := 2) hx hb hts i_X4_append_X4 hown hZ.1 hP 0 rfl rfl 1 (by decide) (hts _ m_X4_append_f15) (fun _ h9 => h9) rfl dX4_append_12 ?_
    refine lv_iload_n hx hb dX4_append_15 rfl (lv_at hl 1 rfl) ?_
    obtain ⟨zh3, hw⟩ := hw
    refine z_iast hx hb hZ.1 hP hD hS 1 0 rfl rfl zh3 (by decide) (g := aN (upN r L x)) (aN_up _ _ _) dX4_append_16 (fun H locs hP hD hS => ?_)
    have hP : va_P D vwCl [(q_rw, .inr (4, [.ref q_nm, .int (nI L)])), (q_nm, .inl (cI, 40, .inl (aN (upN r L x))))] H := hP
    have hD : va_D A [(q_rw, .inr (4, [.ref q_nm, .int (nI L)])), (q_nm, .inl (cI, 40, .inl (aN (upN r L x))))] := hD
    refine lv_aload_n hx hb dX4_append_17 rfl (lv_at hl 0 rfl) ?_
    refine lv_dup hx hb dX4_append_18 rfl ?_
    refine va_get (D := D) (ci := 4) (v := .int (nI L)) (C := RX4) (T := TX4) (N := 2) hx hb hts i_X4_append_X4 hown hZ.1 hP 0 rfl rfl 1 (by decide) (hts _ m_X4_append_f15) (fun _ h9 => h9) rfl dX4_append_19 ?_
    refine lv_iconst (v := nI 1) hx hb dX4_append_22 (by decide +kernel) ?_
    refine z_iadd hx hb (nI_add _ _) dX4_append_23 ?_
    refine va_put (D := D) (ci := 4) (v := .int (nI (L + 1))) (ty := .int) (C := RX4) (T := TX4) (N := 2) hx hb hts i_X4_append_X4 tyX4 tyX4_ok nmX4 hown hZ.1 hP hD hS 0 rfl rfl 1 (by decide) (hts _ m_X4_append_f15) (fun _ h9 => h9) rfl (by decide +kernel) rfl rfl (Nat.le_of_ble_eq_true rfl) dX4_append_24 (fun H locs hP hD hS => ?_)
    have hP : va_P D vwCl [(q_rw, .inr (4, [.ref q_nm, .int (nI (L + 1))])), (q_nm, .inl (cI, 40, .inl (aN (upN r L x))))] H := hP
    have hD : va_D A [(q_rw, .inr (4, [.ref q_nm, .int (nI (L + 1))])), (q_nm, .inl (cI, 40, .inl (aN (upN r L x))))] := hD
    clear hw
    have hP9 : va_P D vwCl [(q_rw, .inr (4, [.ref q_nm, .int (nI (L + 1))])), (q_nm, .inl (cI, 40, .inl (aN (upN r L x))))] H := hP.sub [0, 1] rfl
    have hD9 : va_D A [(q_rw, .inr (4, [.ref q_nm, .int (nI (L + 1))])), (q_nm, .inl (cI, 40, .inl (aN (upN r L x))))] := hD.sub [0, 1] (by decide) rfl
    exact W.vret hx hb hr (fun t ht hW => ⟨⟨(), rfl, trivial, by rw [ht]; exact hP9, hD9⟩, hS.F ht⟩) hS.2.2 dX4_append_27
theorem m_X4_empty_f15 : Cond.fieldLink RX4 15 "NetWalkers$Row" "length" "I" ∈ wsX4_empty := by decide +kernel
theorem i_X4_empty_X4 : ∀ w ∈ wsX40, w ∈ wsX4_empty := by decide +kernel
set_option maxRecDepth 100000 in
set_option maxHeartbeats 4000000 in
theorem w_X4_empty {l : Launch} {D : va_G} {cI cZ : ClassId} (vv : V_X4_empty) : K_X4_empty l D cI cZ := by
  intro q_rw q_nm sz r L
  have vw := vv r L
  refine Met.ofW (cc := cX4_empty) (maxL := 2) (ret := (some .int)) (by decide) rfl ?_
  intro zp ze zs zm zargs zbelow zmeth zc zs1 B hml hv
  obtain ⟨rfl, hsz, hZ, hP, hD0⟩ := hv
  have hx := B.exec
  have hb := B.bytes
  have hr := B.returns
  have hts := atoms_spec (ws := wsX4_empty) B.pre
  have hown : zs.vm.findClass RX4 = some zm.cls := findClass_of_methodNamed B.named
  have hlocks := B.notSynchronized
  subst hsz
  have hD := hD0.self (sz := zs.heap.size)
  generalize hAe : va_A [(q_rw, .inr (4, [.ref q_nm, .int (nI L)])), (q_nm, .inl (cI, 40, .inl (aN r)))] zs.heap.size = A at hD ⊢
  have hA : ∀ q : Nat, zs.heap.size ≤ q → A q := fun q h => by rw [← hAe]; exact Or.inr h
  have hS : va_S A zs.heap zs.heap [] := va_S.rf
  have hP : va_P D vwCl [(q_rw, .inr (4, [.ref q_nm, .int (nI L)])), (q_nm, .inl (cI, 40, .inl (aN r)))] zs.heap := hP
  have hl := lv_entry ([.ref q_rw]) (n := 2) (Nat.le_of_ble_eq_true rfl)
  rw [lg_entry_eq]
  generalize (lg_sl ([.ref q_rw]) ++ List.replicate (2 - (lg_sl ([.ref q_rw])).length) Slot.unset).toArray = ls at hl ⊢
  have hl : lv_has ls 2 [(0, .ref q_rw)] := hl
  have hw := vw
  unfold B_X4_empty_in at hw
  refine lv_aload_n hx hb dX4_empty_0 rfl (lv_at hl 0 rfl) ?_
  refine va_get (D := D) (ci := 4) (v := .int (nI L)) (C := RX4) (T := TX4) (N := 2) hx hb hts i_X4_empty_X4 hown hZ.1 hP 0 rfl rfl 1 (by decide) (hts _ m_X4_empty_f15) (fun _ h9 => h9) rfl dX4_empty_1 ?_
  refine lv_istore_n (lv' := [(1, .int (nI L)), (0, .ref q_rw)]) hx hb dX4_empty_4 rfl hl (by decide) rfl (fun ls hl => ?_)
  refine lv_aload_n hx hb dX4_empty_5 rfl (lv_at hl 1 rfl) ?_
  refine lv_iconst (v := nI 0) hx hb dX4_empty_6 (by decide +kernel) ?_
  refine va_put (D := D) (ci := 4) (v := .int (nI 0)) (ty := .int) (C := RX4) (T := TX4) (N := 2) hx hb hts i_X4_empty_X4 tyX4 tyX4_ok nmX4 hown hZ.1 hP hD hS 0 rfl rfl 1 (by decide) (hts _ m_X4_empty_f15) (fun _ h9 => h9) rfl (by decide +kernel) rfl rfl (Nat.le_of_ble_eq_true rfl) dX4_empty_7 (fun H locs hP hD hS => ?_)
  have hP : va_P D vwCl [(q_rw, .inr (4, [.ref q_nm, .int (nI 0)])), (q_nm, .inl (cI, 40, .inl (aN r)))] H := hP
  have hD : va_D A [(q_rw, .inr (4, [.ref q_nm, .int (nI 0)])), (q_nm, .inl (cI, 40, .inl (aN r)))] := hD
  refine lv_iload_n hx hb dX4_empty_10 rfl (lv_at hl 0 rfl) ?_
  have er := hw
  have hP9 : va_P D vwCl [(q_rw, .inr (4, [.ref q_nm, .int (nI 0)])), (q_nm, .inl (cI, 40, .inl (aN r)))] H := hP.sub [0, 1] rfl
  have hD9 : va_D A [(q_rw, .inr (4, [.ref q_nm, .int (nI 0)])), (q_nm, .inl (cI, 40, .inl (aN r)))] := hD.sub [0, 1] (by decide) rfl
  exact W.iret (v := nI L) hx hb hr (fun t ht hW => ⟨⟨_, (), rfl, (congrArg nI er), by rw [ht]; exact hP9, hD9⟩, hS.F ht⟩) hS.2.2 dX4_empty_11
theorem m_X4_has_f15 : Cond.fieldLink RX4 15 "NetWalkers$Row" "length" "I" ∈ wsX4_has := by decide +kernel
theorem i_X4_has_X4 : ∀ w ∈ wsX40, w ∈ wsX4_has := by decide +kernel
set_option maxRecDepth 100000 in
set_option maxHeartbeats 4000000 in
theorem w_X4_has {l : Launch} {D : va_G} {cI cZ : ClassId} (vv : V_X4_has) : K_X4_has l D cI cZ := by
  intro q_rw q_nm r L k
  have vw := vv r L k
  refine Met.ofW (cc := cX4_has) (maxL := 2) (ret := (some .boolean)) (by decide) rfl ?_
  intro zp ze zs zm zargs zbelow zmeth zc zs1 B hml hv
  obtain ⟨rfl, hZ, hP⟩ := hv
  have hx := B.exec
  have hb := B.bytes
  have hr := B.returns
  have hts := atoms_spec (ws := wsX4_has) B.pre
  have hown : zs.vm.findClass RX4 = some zm.cls := findClass_of_methodNamed B.named
  have hlocks := B.notSynchronized
  have hP : va_P D vwCl [(q_rw, .inr (4, [.ref q_nm, .int (nI L)])), (q_nm, .inl (cI, 40, .inl (aN r)))] zs.heap := hP
  have hl := lv_entry ([.ref q_rw, .int k]) (n := 2) (Nat.le_of_ble_eq_true rfl)
  rw [lg_entry_eq]
  generalize (lg_sl ([.ref q_rw, .int k]) ++ List.replicate (2 - (lg_sl ([.ref q_rw, .int k])).length) Slot.unset).toArray = ls at hl ⊢
  have hl : lv_has ls 2 [(0, .ref q_rw), (1, .int k)] := hl
  have hw := vw
  unfold B_X4_has_in at hw
  refine lv_iload_n hx hb dX4_has_0 rfl (lv_at hl 1 rfl) ?_
  obtain ⟨hwt, hwf⟩ := hw
  refine lv_if_lt hx hb (tgt := 16) dX4_has_1 (by decide) (fun cc => ?_) (fun cc => ?_)
  · replace hw := hwt cc
    refine lv_iconst (v := nI 0) hx hb dX4_has_16 (by decide +kernel) ?_
    refine z_st (st' := [.int (bI false)]) rfl ?_
    have er := hw
    exact W.zret (ty := .boolean) (v := bI false) hx hb hr (bI_nar _) (fun t ht hW => ⟨_, rfl, (congrArg bI er), ht⟩) (fun _ h => by cases h) dX4_has_17
  · replace hw := hwf cc
    refine lv_iload_n hx hb dX4_has_4 rfl (lv_at hl 1 rfl) ?_
    refine lv_aload_n hx hb dX4_has_5 rfl (lv_at hl 0 rfl) ?_
    refine va_get (D := D) (ci := 4) (v := .int (nI L)) (C := RX4) (T := TX4) (N := 2) hx hb hts i_X4_has_X4 hown hZ.1 hP 0 rfl rfl 1 (by decide) (hts _ m_X4_has_f15) (fun _ h9 => h9) rfl dX4_has_6 ?_
    obtain ⟨hwt, hwf⟩ := hw
    refine lv_icmp_ge hx hb (tgt := 16) dX4_has_9 (by decide) (fun cc => ?_) (fun cc => ?_)
    · replace hw := hwt cc
      refine lv_iconst (v := nI 0) hx hb dX4_has_16 (by decide +kernel) ?_
      refine z_st (st' := [.int (bI false)]) rfl ?_
      have er := hw
      exact W.zret (ty := .boolean) (v := bI false) hx hb hr (bI_nar _) (fun t ht hW => ⟨_, rfl, (congrArg bI er), ht⟩) (fun _ h => by cases h) dX4_has_17
    · replace hw := hwf cc
      refine lv_iconst (v := nI 1) hx hb dX4_has_12 (by decide +kernel) ?_
      refine lv_goto (tgt := 17) hx hb dX4_has_13 (by decide) ?_
      refine z_st (st' := [.int (bI true)]) rfl ?_
      have er := hw
      exact W.zret (ty := .boolean) (v := bI true) hx hb hr (bI_nar _) (fun t ht hW => ⟨_, rfl, (congrArg bI er), ht⟩) (fun _ h => by cases h) dX4_has_17
theorem m_X4_numberAt_f9 : Cond.fieldLink RX4 9 "NetWalkers$Row" "numbers" "[I" ∈ wsX4_numberAt := by decide +kernel
theorem i_X4_numberAt_X4 : ∀ w ∈ wsX40, w ∈ wsX4_numberAt := by decide +kernel
set_option maxRecDepth 100000 in
set_option maxHeartbeats 4000000 in
theorem w_X4_numberAt {l : Launch} {D : va_G} {cI cZ : ClassId} (k_X4_has : K_X4_has l D cI cZ) (vv : V_X4_numberAt) : K_X4_numberAt l D cI cZ := by
  intro q_rw q_nm r L k hpre0 hpre1
  have vw := vv r L k hpre0 hpre1
  refine Met.ofW (cc := cX4_numberAt) (maxL := 2) (ret := (some .int)) (by decide) rfl ?_
  intro zp ze zs zm zargs zbelow zmeth zc zs1 B hml hv
  obtain ⟨rfl, hZ, hP⟩ := hv
  have hx := B.exec
  have hb := B.bytes
  have hr := B.returns
  have hts := atoms_spec (ws := wsX4_numberAt) B.pre
  have hown : zs.vm.findClass RX4 = some zm.cls := findClass_of_methodNamed B.named
  have hlocks := B.notSynchronized
  have hP : va_P D vwCl [(q_rw, .inr (4, [.ref q_nm, .int (nI L)])), (q_nm, .inl (cI, 40, .inl (aN r)))] zs.heap := hP
  have hl := lv_entry ([.ref q_rw, .int k]) (n := 2) (Nat.le_of_ble_eq_true rfl)
  rw [lg_entry_eq]
  generalize (lg_sl ([.ref q_rw, .int k]) ++ List.replicate (2 - (lg_sl ([.ref q_rw, .int k])).length) Slot.unset).toArray = ls at hl ⊢
  have hl : lv_has ls 2 [(0, .ref q_rw), (1, .int k)] := hl
  have hw := vw
  unfold B_X4_numberAt_in at hw
  refine lv_aload_n hx hb dX4_numberAt_0 rfl (lv_at hl 0 rfl) ?_
  refine lv_iload_n hx hb dX4_numberAt_1 rfl (lv_at hl 1 rfl) ?_
  have hPc : va_P D vwCl [(q_rw, .inr (4, [.ref q_nm, .int (nI L)])), (q_nm, .inl (cI, 40, .inl (aN r)))] zs.heap := hP.sub [0, 1] rfl
  refine z_ro (va_runV (As := [.int k]) (rest := []) ⟨hx, hb, hml, hown, hts⟩ (k_X4_has q_rw q_nm r L k) (cwV 1 hts gX4_numberAt_X4_has rfl rfl rfl (by decide +kernel) ⟨Nat.le_of_ble_eq_true rfl, Nat.le_of_ble_eq_true rfl⟩) (zPr_V hZ hPc 0 rfl rfl) rfl rfl hl.1 rfl (lv_room (Nat.le_of_ble_eq_true rfl)) dX4_numberAt_2 ⟨Nat.zero_le _, Nat.zero_le _⟩) (fun zr1 hzr1 => ?_)
  have ez := hzr1
  rw [ez]
  clear ez hzr1
  obtain ⟨hwt, hwf⟩ := hw
  refine z_if_eqb hx hb (tgt := 26) dX4_numberAt_5 (by decide) (fun cc => ?_) (fun cc => ?_)
  · replace hw := hwt cc
    refine lv_iconst (v := nI 0) hx hb dX4_numberAt_26 (by decide +kernel) ?_
    have er := hw
    exact W.iret (v := nI 0) hx hb hr (fun t ht hW => ⟨_, rfl, (congrArg nI er), ht⟩) (fun _ h => by cases h) dX4_numberAt_27
  · replace hw := hwf cc
    refine lv_iload_n hx hb dX4_numberAt_8 rfl (lv_at hl 1 rfl) ?_
    refine lv_aload_n hx hb dX4_numberAt_9 rfl (lv_at hl 0 rfl) ?_
    refine va_get (D := D) (ci := 4) (v := .ref q_nm) (C := RX4) (T := TX4) (N := 2) hx hb hts i_X4_numberAt_X4 hown hZ.1 hP 0 rfl rfl 0 (by decide) (hts _ m_X4_numberAt_f9) (fun _ h9 => h9) rfl dX4_numberAt_10 ?_
    refine va_alen hx hb hZ.1 hP 1 0 rfl rfl (v := nI 40) rfl dX4_numberAt_13 ?_
    obtain ⟨hwt, hwf⟩ := hw
    refine lv_icmp_ge hx hb (tgt := 26) dX4_numberAt_14 (by decide) (fun cc => ?_) (fun cc => ?_)
    · replace hw := hwt cc
      refine lv_iconst (v := nI 0) hx hb dX4_numberAt_26 (by decide +kernel) ?_
      have er := hw
      exact W.iret (v := nI 0) hx hb hr (fun t ht hW => ⟨_, rfl, (congrArg nI er), ht⟩) (fun _ h => by cases h) dX4_numberAt_27
    · replace hw := hwf cc
      refine lv_aload_n hx hb dX4_numberAt_17 rfl (lv_at hl 0 rfl) ?_
      refine va_get (D := D) (ci := 4) (v := .ref q_nm) (C := RX4) (T := TX4) (N := 2) hx hb hts i_X4_numberAt_X4 hown hZ.1 hP 0 rfl rfl 0 (by decide) (hts _ m_X4_numberAt_f9) (fun _ h9 => h9) rfl dX4_numberAt_18 ?_
      refine lv_iload_n hx hb dX4_numberAt_21 rfl (lv_at hl 1 rfl) ?_
      obtain ⟨zk2, ezk2, hw⟩ := hw
      refine z_st (st' := [.int (nI zk2), .ref q_nm]) (by rw [ezk2]) ?_
      obtain ⟨zh3, hw⟩ := hw
      refine z_iald hx hb hZ.1 hP 1 0 rfl rfl zh3 (by decide) (v := nI (r zk2)) rfl dX4_numberAt_22 ?_
      refine lv_goto (tgt := 27) hx hb dX4_numberAt_23 (by decide) ?_
      have er := hw
      exact W.iret (v := nI (r zk2)) hx hb hr (fun t ht hW => ⟨_, rfl, (congrArg nI er), ht⟩) (fun _ h => by cases h) dX4_numberAt_27
theorem m_X2_begin_f9 : Cond.fieldLink RX2 9 "NetWalkers$Net" "ends" "[I" ∈ wsX2_begin := by decide +kernel
theorem i_X2_begin_X2 : ∀ w ∈ wsX20, w ∈ wsX2_begin := by decide +kernel
theorem m_X2_begin_f19 : Cond.fieldLink RX2 19 "NetWalkers$Net" "degrees" "[I" ∈ wsX2_begin := by decide +kernel
theorem m_X2_begin_f26 : Cond.fieldLink RX2 26 "NetWalkers$Net" "size" "I" ∈ wsX2_begin := by decide +kernel
theorem m_X2_begin_f30 : Cond.fieldLink RX2 30 "NetWalkers$Net" "pairs" "I" ∈ wsX2_begin := by decide +kernel
set_option maxRecDepth 100000 in
set_option maxHeartbeats 4000000 in
theorem w_X2_begin {l : Launch} {D : va_G} {cI cZ : ClassId} (k_X2_setBad : K_X2_setBad l D cI cZ) (vv : V_X2_begin) : K_X2_begin l D cI cZ := by
  intro q_nt q_en q_ba q_de sz e0 w0 d0 z0 p0 m
  have vw := vv e0 w0 d0 z0 p0 m
  refine Met.ofW (cc := cX2_begin) (maxL := 3) (ret := none) (by decide) rfl ?_
  intro zp ze zs zm zargs zbelow zmeth zc zs1 B hml hv
  obtain ⟨rfl, hsz, hZ, hP, hD0⟩ := hv
  have hx := B.exec
  have hb := B.bytes
  have hr := B.returns
  have hts := atoms_spec (ws := wsX2_begin) B.pre
  have hown : zs.vm.findClass RX2 = some zm.cls := findClass_of_methodNamed B.named
  have hlocks := B.notSynchronized
  subst hsz
  have hD := hD0.self (sz := zs.heap.size)
  generalize hAe : va_A [(q_nt, .inr (2, [.ref q_en, .ref q_ba, .ref q_de, .int z0, .int p0])), (q_en, .inl (cI, 32, .inl (e0))), (q_ba, .inl (cZ, 32, .inl (aB w0))), (q_de, .inl (cI, 8, .inl (d0)))] zs.heap.size = A at hD ⊢
  have hA : ∀ q : Nat, zs.heap.size ≤ q → A q := fun q h => by rw [← hAe]; exact Or.inr h
  have hS : va_S A zs.heap zs.heap [] := va_S.rf
  have hP : va_P D vwCl [(q_nt, .inr (2, [.ref q_en, .ref q_ba, .ref q_de, .int z0, .int p0])), (q_en, .inl (cI, 32, .inl (e0))), (q_ba, .inl (cZ, 32, .inl (aB w0))), (q_de, .inl (cI, 8, .inl (d0)))] zs.heap := hP
  have hl := lv_entry ([.ref q_nt, .int (nI m)]) (n := 3) (Nat.le_of_ble_eq_true rfl)
  rw [lg_entry_eq]
  generalize (lg_sl ([.ref q_nt, .int (nI m)]) ++ List.replicate (3 - (lg_sl ([.ref q_nt, .int (nI m)])).length) Slot.unset).toArray = ls at hl ⊢
  have hl : lv_has ls 3 [(0, .ref q_nt), (1, .int (nI m))] := hl
  obtain ⟨X12, hX12⟩ : ∃ X : Nat → (Nat → Int32) → (Nat → Bool) → (Nat → Int32) → Nat → Nat → Prop, ∀ (v2 : Nat) (c_en : Nat → Int32) (c_ba : Nat → Bool) (c_de : Nat → Int32) (c_sz : Nat) (c_pr : Nat), X v2 c_en c_ba c_de c_sz c_pr ↔ (∀ (H : Heap) (locs : List Loc), va_P D vwCl [(q_nt, .inr (2, [.ref q_en, .ref q_ba, .ref q_de, .int (nI c_sz), .int (nI c_pr)])), (q_en, .inl (cI, 32, .inl (c_en))), (q_ba, .inl (cZ, 32, .inl (aB c_ba))), (q_de, .inl (cI, 8, .inl (c_de)))] H → va_D A [(q_nt, .inr (2, [.ref q_en, .ref q_ba, .ref q_de, .int (nI c_sz), .int (nI c_pr)])), (q_en, .inl (cI, 32, .inl (c_en))), (q_ba, .inl (cZ, 32, .inl (aB c_ba))), (q_de, .inl (cI, 8, .inl (c_de)))] → va_S A zs.heap H locs → ∀ ls : Array Slot, lv_has ls 3 [(0, .ref q_nt), (1, .int (nI m)), (2, .int (nI v2))] → W zp l ze (headSpec wsX2_begin ({ frames := 1, cells := 0, slots := 0, locals := 22 } : Room)).room zs zm ([.ref q_nt, .int (nI m)] : List Value).toArray zbelow zmeth zc H locs 0 0 (MQ zbelow (va_Qv (S := Unit) (fun zu => True) (fun (zu : Unit) zt => va_P D vwCl [(q_nt, .inr (2, [.ref q_en, .ref q_ba, .ref q_de, .int (nI m), .int (nI (prs tF))])), (q_en, .inl (cI, 32, .inl (aE tF))), (q_ba, .inl (cZ, 32, .inl (aB wF))), (q_de, .inl (cI, 8, .inl (aN (dg tF))))] zt.heap ∧ va_D A [(q_nt, .inr (2, [.ref q_en, .ref q_ba, .ref q_de, .int (nI m), .int (nI (prs tF))])), (q_en, .inl (cI, 32, .inl (aE tF))), (q_ba, .inl (cZ, 32, .inl (aB wF))), (q_de, .inl (cI, 8, .inl (aN (dg tF))))]) A) ([.ref q_nt, .int (nI m)] : List Value).toArray zs 0 0 A) (F0 zm 12 ls [])) := ⟨_, fun _ _ _ _ _ _ => Iff.rfl⟩
  obtain ⟨X42, hX42⟩ : ∃ X : Nat → (Nat → Int32) → (Nat → Bool) → (Nat → Int32) → Nat → Nat → Prop, ∀ (v2 : Nat) (c_en : Nat → Int32) (c_ba : Nat → Bool) (c_de : Nat → Int32) (c_sz : Nat) (c_pr : Nat), X v2 c_en c_ba c_de c_sz c_pr ↔ (∀ (H : Heap) (locs : List Loc), va_P D vwCl [(q_nt, .inr (2, [.ref q_en, .ref q_ba, .ref q_de, .int (nI c_sz), .int (nI c_pr)])), (q_en, .inl (cI, 32, .inl (c_en))), (q_ba, .inl (cZ, 32, .inl (aB c_ba))), (q_de, .inl (cI, 8, .inl (c_de)))] H → va_D A [(q_nt, .inr (2, [.ref q_en, .ref q_ba, .ref q_de, .int (nI c_sz), .int (nI c_pr)])), (q_en, .inl (cI, 32, .inl (c_en))), (q_ba, .inl (cZ, 32, .inl (aB c_ba))), (q_de, .inl (cI, 8, .inl (c_de)))] → va_S A zs.heap H locs → ∀ ls : Array Slot, lv_has ls 3 [(0, .ref q_nt), (1, .int (nI m)), (2, .int (nI v2))] → W zp l ze (headSpec wsX2_begin ({ frames := 1, cells := 0, slots := 0, locals := 22 } : Room)).room zs zm ([.ref q_nt, .int (nI m)] : List Value).toArray zbelow zmeth zc H locs 0 0 (MQ zbelow (va_Qv (S := Unit) (fun zu => True) (fun (zu : Unit) zt => va_P D vwCl [(q_nt, .inr (2, [.ref q_en, .ref q_ba, .ref q_de, .int (nI m), .int (nI (prs tF))])), (q_en, .inl (cI, 32, .inl (aE tF))), (q_ba, .inl (cZ, 32, .inl (aB wF))), (q_de, .inl (cI, 8, .inl (aN (dg tF))))] zt.heap ∧ va_D A [(q_nt, .inr (2, [.ref q_en, .ref q_ba, .ref q_de, .int (nI m), .int (nI (prs tF))])), (q_en, .inl (cI, 32, .inl (aE tF))), (q_ba, .inl (cZ, 32, .inl (aB wF))), (q_de, .inl (cI, 8, .inl (aN (dg tF))))]) A) ([.ref q_nt, .int (nI m)] : List Value).toArray zs 0 0 A) (F0 zm 42 ls [])) := ⟨_, fun _ _ _ _ _ _ => Iff.rfl⟩
  have b12 : ∀ (v2 : Nat) (c_en : Nat → Int32) (c_ba : Nat → Bool) (c_de : Nat → Int32) (c_sz : Nat) (c_pr : Nat), B_X2_begin_12 e0 w0 d0 z0 p0 m X12 X42 v2 c_en c_ba c_de c_sz c_pr → X12 v2 c_en c_ba c_de c_sz c_pr := by
    intro v2 c_en c_ba c_de c_sz c_pr hw
    rw [hX12]
    intro H locs hP hD hS ls hl
    unfold B_X2_begin_12 at hw
    refine lv_iload_n hx hb dX2_begin_12 rfl (lv_at hl 2 rfl) ?_
    refine lv_aload_n hx hb dX2_begin_13 rfl (lv_at hl 0 rfl) ?_
    refine va_get (D := D) (ci := 2) (v := .ref q_en) (C := RX2) (T := TX2) (N := 5) hx hb hts i_X2_begin_X2 hown hZ.1 hP 0 rfl rfl 0 (by decide) (hts _ m_X2_begin_f9) (fun _ h9 => h9) rfl dX2_begin_14 ?_
    refine va_alen hx hb hZ.1 hP 1 0 rfl rfl (v := nI 32) rfl dX2_begin_17 ?_
    obtain ⟨zh1, hw⟩ := hw
    obtain ⟨hwt, hwf⟩ := hw
    refine z_icmp_ge hx hb zh1 (by decide) (tgt := 40) dX2_begin_18 (by decide) (fun cc => ?_) (fun cc => ?_)
    · replace hw := hwt cc
      refine lv_iconst (v := nI 0) hx hb dX2_begin_40 (by decide +kernel) ?_
      refine lv_istore_n (lv' := [(2, .int (nI 0)), (0, .ref q_nt), (1, .int (nI m))]) hx hb dX2_begin_41 rfl hl (by decide) rfl (fun ls hl => ?_)
      have hP9 : va_P D vwCl [(q_nt, .inr (2, [.ref q_en, .ref q_ba, .ref q_de, .int (nI c_sz), .int (nI c_pr)])), (q_en, .inl (cI, 32, .inl (c_en))), (q_ba, .inl (cZ, 32, .inl (aB c_ba))), (q_de, .inl (cI, 8, .inl (c_de)))] H := hP.sub [0, 1, 2, 3] rfl
      have hD9 : va_D A [(q_nt, .inr (2, [.ref q_en, .ref q_ba, .ref q_de, .int (nI c_sz), .int (nI c_pr)])), (q_en, .inl (cI, 32, .inl (c_en))), (q_ba, .inl (cZ, 32, .inl (aB c_ba))), (q_de, .inl (cI, 8, .inl (c_de)))] := hD.sub [0, 1, 2, 3] (by decide) rfl
      exact ((hX42 _ _ _ _ _ _).mp hw) _ _ hP9 hD9 hS ls (lv_sub hl [1, 2, 0] rfl)
    · replace hw := hwf cc
      refine lv_aload_n hx hb dX2_begin_21 rfl (lv_at hl 0 rfl) ?_
      refine va_get (D := D) (ci := 2) (v := .ref q_en) (C := RX2) (T := TX2) (N := 5) hx hb hts i_X2_begin_X2 hown hZ.1 hP 0 rfl rfl 0 (by decide) (hts _ m_X2_begin_f9) (fun _ h9 => h9) rfl dX2_begin_22 ?_
      refine lv_iload_n hx hb dX2_begin_25 rfl (lv_at hl 2 rfl) ?_
      refine lv_iconst (v := (-1)) hx hb dX2_begin_26 (by decide +kernel) ?_
      obtain ⟨zh2, hw⟩ := hw
      refine z_iast hx hb hZ.1 hP hD hS 1 0 rfl rfl zh2 (by decide) (g := upd c_en v2 (-1)) rfl dX2_begin_27 (fun H locs hP hD hS => ?_)
      have hP : va_P D vwCl [(q_nt, .inr (2, [.ref q_en, .ref q_ba, .ref q_de, .int (nI c_sz), .int (nI c_pr)])), (q_en, .inl (cI, 32, .inl (upd c_en v2 (-1)))), (q_ba, .inl (cZ, 32, .inl (aB c_ba))), (q_de, .inl (cI, 8, .inl (c_de)))] H := hP
      have hD : va_D A [(q_nt, .inr (2, [.ref q_en, .ref q_ba, .ref q_de, .int (nI c_sz), .int (nI c_pr)])), (q_en, .inl (cI, 32, .inl (upd c_en v2 (-1)))), (q_ba, .inl (cZ, 32, .inl (aB c_ba))), (q_de, .inl (cI, 8, .inl (c_de)))] := hD
      refine lv_aload_n hx hb dX2_begin_28 rfl (lv_at hl 0 rfl) ?_
      refine lv_iload_n hx hb dX2_begin_29 rfl (lv_at hl 2 rfl) ?_
      refine lv_iconst (v := nI 0) hx hb dX2_begin_30 (by decide +kernel) ?_
      refine z_st (st' := [.int (bI false), .int (nI v2), .ref q_nt]) (by first | rfl | simp only []) ?_
      obtain ⟨zh3, hw⟩ := hw
      have hPc : va_P D vwCl [(q_nt, .inr (2, [.ref q_en, .ref q_ba, .ref q_de, .int (nI c_sz), .int (nI c_pr)])), (q_en, .inl (cI, 32, .inl ((upd c_en v2 (-1))))), (q_ba, .inl (cZ, 32, .inl (aB c_ba))), (q_de, .inl (cI, 8, .inl (c_de)))] H := hP.sub [0, 1, 2, 3] rfl
      have hDc : va_D A [(q_nt, .inr (2, [.ref q_en, .ref q_ba, .ref q_de, .int (nI c_sz), .int (nI c_pr)])), (q_en, .inl (cI, 32, .inl ((upd c_en v2 (-1))))), (q_ba, .inl (cZ, 32, .inl (aB c_ba))), (q_de, .inl (cI, 8, .inl (c_de)))] := hD.sub [0, 1, 2, 3] (by decide) rfl
      have hFc := va_free (wc := [(q_nt, .inr (2, [.ref q_en, .ref q_ba, .ref q_de, .int (nI c_sz), .int (nI c_pr)])), (q_en, .inl (cI, 32, .inl ((upd c_en v2 (-1))))), (q_ba, .inl (cZ, 32, .inl (aB c_ba))), (q_de, .inl (cI, 8, .inl (c_de)))]) hD hS hA [0, 1, 2, 3] rfl
      refine va_callv (va_runV (As := [.int (nI v2), .int (bI false)]) (rest := []) ⟨hx, hb, hml, hown, hts⟩ (k_X2_setBad q_nt q_en q_ba q_de H.size (upd c_en v2 (-1)) c_ba c_de (nI c_sz) (nI c_pr) v2 false zh3) (cwV 2 hts gX2_begin_X2_setBad rfl rfl rfl (by decide +kernel) ⟨Nat.le_of_ble_eq_true rfl, Nat.le_of_ble_eq_true rfl⟩) (zPw_V hZ hPc (hDc.weaken (fun _ _ _ _ => trivial)) 0 rfl rfl) rfl rfl hl.1 rfl (lv_room (Nat.le_of_ble_eq_true rfl)) dX2_begin_31 ⟨Nat.zero_le _, Nat.zero_le _⟩) hS (fun q _ h => hFc q h) hFc (fun zu zt H1 locs1 ht hvm hq hB hz1 hk1 hS => ?_)
      obtain ⟨hP1, hD1⟩ := hB
      rw [ht] at hP1
      obtain ⟨hP, hD⟩ := va_join (wr := []) (w1 := [(q_nt, .inr (2, [.ref q_en, .ref q_ba, .ref q_de, .int (nI c_sz), .int (nI c_pr)])), (q_en, .inl (cI, 32, .inl (upd c_en v2 (-1)))), (q_ba, .inl (cZ, 32, .inl (aB (upB c_ba v2 false)))), (q_de, .inl (cI, 8, .inl (c_de)))]) hP hD [0, 1, 2, 3] [] rfl rfl (by decide) (by decide) hk1 hFc hP1 hD1
      have hP : va_P D vwCl [(q_nt, .inr (2, [.ref q_en, .ref q_ba, .ref q_de, .int (nI c_sz), .int (nI c_pr)])), (q_en, .inl (cI, 32, .inl (upd c_en v2 (-1)))), (q_ba, .inl (cZ, 32, .inl (aB (upB c_ba v2 false)))), (q_de, .inl (cI, 8, .inl (c_de)))] H1 := hP
      have hD : va_D A [(q_nt, .inr (2, [.ref q_en, .ref q_ba, .ref q_de, .int (nI c_sz), .int (nI c_pr)])), (q_en, .inl (cI, 32, .inl (upd c_en v2 (-1)))), (q_ba, .inl (cZ, 32, .inl (aB (upB c_ba v2 false)))), (q_de, .inl (cI, 8, .inl (c_de)))] := hD
      clear hP1 hD1 hk1 hz1 hFc hDc hPc ht hvm
      refine lv_iinc (v := nI (v2 + 1)) (lv' := [(2, .int (nI (v2 + 1))), (0, .ref q_nt), (1, .int (nI m))]) hx hb dX2_begin_34 hl (k := 2) rfl (by rw [show Int32.ofInt 1 = nI 1 from by decide +kernel]; exact nI_add _ _) (by decide) rfl (fun ls hl => ?_)
      refine lv_goto (tgt := 12) hx hb dX2_begin_37 (by decide) ?_
      have hP9 : va_P D vwCl [(q_nt, .inr (2, [.ref q_en, .ref q_ba, .ref q_de, .int (nI c_sz), .int (nI c_pr)])), (q_en, .inl (cI, 32, .inl (upd c_en v2 (-1)))), (q_ba, .inl (cZ, 32, .inl (aB (upB c_ba v2 false)))), (q_de, .inl (cI, 8, .inl (c_de)))] H1 := hP.sub [0, 1, 2, 3] rfl
      have hD9 : va_D A [(q_nt, .inr (2, [.ref q_en, .ref q_ba, .ref q_de, .int (nI c_sz), .int (nI c_pr)])), (q_en, .inl (cI, 32, .inl (upd c_en v2 (-1)))), (q_ba, .inl (cZ, 32, .inl (aB (upB c_ba v2 false)))), (q_de, .inl (cI, 8, .inl (c_de)))] := hD.sub [0, 1, 2, 3] (by decide) rfl
      exact ((hX12 _ _ _ _ _ _).mp hw) _ _ hP9 hD9 hS ls (lv_sub hl [1, 2, 0] rfl)
  have b42 : ∀ (v2 : Nat) (c_en : Nat → Int32) (c_ba : Nat → Bool) (c_de : Nat → Int32) (c_sz : Nat) (c_pr : Nat), B_X2_begin_42 e0 w0 d0 z0 p0 m X12 X42 v2 c_en c_ba c_de c_sz c_pr → X42 v2 c_en c_ba c_de c_sz c_pr := by
    intro v2 c_en c_ba c_de c_sz c_pr hw
    rw [hX42]
    intro H locs hP hD hS ls hl
    unfold B_X2_begin_42 at hw
    refine lv_iload_n hx hb dX2_begin_42 rfl (lv_at hl 2 rfl) ?_
    refine lv_aload_n hx hb dX2_begin_43 rfl (lv_at hl 0 rfl) ?_
    refine va_get (D := D) (ci := 2) (v := .ref q_de) (C := RX2) (T := TX2) (N := 5) hx hb hts i_X2_begin_X2 hown hZ.1 hP 0 rfl rfl 2 (by decide) (hts _ m_X2_begin_f19) (fun _ h9 => h9) rfl dX2_begin_44 ?_
    refine va_alen hx hb hZ.1 hP 3 0 rfl rfl (v := nI 8) rfl dX2_begin_47 ?_
    obtain ⟨zh5, hw⟩ := hw
    obtain ⟨hwt, hwf⟩ := hw
    refine z_icmp_ge hx hb zh5 (by decide) (tgt := 64) dX2_begin_48 (by decide) (fun cc => ?_) (fun cc => ?_)
    · replace hw := hwt cc
      obtain ⟨ec_en, ec_ba, ec_de, ec_sz, ec_pr⟩ := hw
      have hP9 : va_P D vwCl [(q_nt, .inr (2, [.ref q_en, .ref q_ba, .ref q_de, .int (nI c_sz), .int (nI c_pr)])), (q_en, .inl (cI, 32, .inl (c_en))), (q_ba, .inl (cZ, 32, .inl (aB c_ba))), (q_de, .inl (cI, 8, .inl (c_de)))] H := hP.sub [0, 1, 2, 3] rfl
      have hD9 : va_D A [(q_nt, .inr (2, [.ref q_en, .ref q_ba, .ref q_de, .int (nI c_sz), .int (nI c_pr)])), (q_en, .inl (cI, 32, .inl (c_en))), (q_ba, .inl (cZ, 32, .inl (aB c_ba))), (q_de, .inl (cI, 8, .inl (c_de)))] := hD.sub [0, 1, 2, 3] (by decide) rfl
      have hP9 : va_P D vwCl [(q_nt, .inr (2, [.ref q_en, .ref q_ba, .ref q_de, .int (nI c_sz), .int (nI c_pr)])), (q_en, .inl (cI, 32, .inl (aE tF))), (q_ba, .inl (cZ, 32, .inl (aB c_ba))), (q_de, .inl (cI, 8, .inl (c_de)))] H := z_arr hP9 1 rfl ec_en
      have hD9 : va_D A [(q_nt, .inr (2, [.ref q_en, .ref q_ba, .ref q_de, .int (nI c_sz), .int (nI c_pr)])), (q_en, .inl (cI, 32, .inl (aE tF))), (q_ba, .inl (cZ, 32, .inl (aB c_ba))), (q_de, .inl (cI, 8, .inl (c_de)))] := hD9.set (p := 1) (e := .inl (cI, 32, .inl (aE tF))) rfl
      have hP9 : va_P D vwCl [(q_nt, .inr (2, [.ref q_en, .ref q_ba, .ref q_de, .int (nI c_sz), .int (nI c_pr)])), (q_en, .inl (cI, 32, .inl (aE tF))), (q_ba, .inl (cZ, 32, .inl (aB wF))), (q_de, .inl (cI, 8, .inl (c_de)))] H := z_arr hP9 2 rfl (fun zi hi => congrArg bI (ec_ba zi hi))
      have hD9 : va_D A [(q_nt, .inr (2, [.ref q_en, .ref q_ba, .ref q_de, .int (nI c_sz), .int (nI c_pr)])), (q_en, .inl (cI, 32, .inl (aE tF))), (q_ba, .inl (cZ, 32, .inl (aB wF))), (q_de, .inl (cI, 8, .inl (c_de)))] := hD9.set (p := 2) (e := .inl (cZ, 32, .inl (aB wF))) rfl
      have hP9 : va_P D vwCl [(q_nt, .inr (2, [.ref q_en, .ref q_ba, .ref q_de, .int (nI c_sz), .int (nI c_pr)])), (q_en, .inl (cI, 32, .inl (aE tF))), (q_ba, .inl (cZ, 32, .inl (aB wF))), (q_de, .inl (cI, 8, .inl (aN (dg tF))))] H := z_arr hP9 3 rfl ec_de
      have hD9 : va_D A [(q_nt, .inr (2, [.ref q_en, .ref q_ba, .ref q_de, .int (nI c_sz), .int (nI c_pr)])), (q_en, .inl (cI, 32, .inl (aE tF))), (q_ba, .inl (cZ, 32, .inl (aB wF))), (q_de, .inl (cI, 8, .inl (aN (dg tF))))] := hD9.set (p := 3) (e := .inl (cI, 8, .inl (aN (dg tF)))) rfl
      have hP9 : va_P D vwCl [(q_nt, .inr (2, [.ref q_en, .ref q_ba, .ref q_de, .int (nI m), .int (nI c_pr)])), (q_en, .inl (cI, 32, .inl (aE tF))), (q_ba, .inl (cZ, 32, .inl (aB wF))), (q_de, .inl (cI, 8, .inl (aN (dg tF))))] H := (congrArg (fun z9 : Nat => va_P D vwCl [(q_nt, .inr (2, [.ref q_en, .ref q_ba, .ref q_de, .int (nI z9), .int (nI c_pr)])), (q_en, .inl (cI, 32, .inl (aE tF))), (q_ba, .inl (cZ, 32, .inl (aB wF))), (q_de, .inl (cI, 8, .inl (aN (dg tF))))] H) ec_sz).mp hP9
      have hD9 : va_D A [(q_nt, .inr (2, [.ref q_en, .ref q_ba, .ref q_de, .int (nI m), .int (nI c_pr)])), (q_en, .inl (cI, 32, .inl (aE tF))), (q_ba, .inl (cZ, 32, .inl (aB wF))), (q_de, .inl (cI, 8, .inl (aN (dg tF))))] := (congrArg (fun z9 : Nat => va_D A [(q_nt, .inr (2, [.ref q_en, .ref q_ba, .ref q_de, .int (nI z9), .int (nI c_pr)])), (q_en, .inl (cI, 32, .inl (aE tF))), (q_ba, .inl (cZ, 32, .inl (aB wF))), (q_de, .inl (cI, 8, .inl (aN (dg tF))))]) ec_sz).mp hD9
      have hP9 : va_P D vwCl [(q_nt, .inr (2, [.ref q_en, .ref q_ba, .ref q_de, .int (nI m), .int (nI (prs tF))])), (q_en, .inl (cI, 32, .inl (aE tF))), (q_ba, .inl (cZ, 32, .inl (aB wF))), (q_de, .inl (cI, 8, .inl (aN (dg tF))))] H := (congrArg (fun z9 : Nat => va_P D vwCl [(q_nt, .inr (2, [.ref q_en, .ref q_ba, .ref q_de, .int (nI m), .int (nI z9)])), (q_en, .inl (cI, 32, .inl (aE tF))), (q_ba, .inl (cZ, 32, .inl (aB wF))), (q_de, .inl (cI, 8, .inl (aN (dg tF))))] H) ec_pr).mp hP9
      have hD9 : va_D A [(q_nt, .inr (2, [.ref q_en, .ref q_ba, .ref q_de, .int (nI m), .int (nI (prs tF))])), (q_en, .inl (cI, 32, .inl (aE tF))), (q_ba, .inl (cZ, 32, .inl (aB wF))), (q_de, .inl (cI, 8, .inl (aN (dg tF))))] := (congrArg (fun z9 : Nat => va_D A [(q_nt, .inr (2, [.ref q_en, .ref q_ba, .ref q_de, .int (nI m), .int (nI z9)])), (q_en, .inl (cI, 32, .inl (aE tF))), (q_ba, .inl (cZ, 32, .inl (aB wF))), (q_de, .inl (cI, 8, .inl (aN (dg tF))))]) ec_pr).mp hD9
      exact W.vret hx hb hr (fun t ht hW => ⟨⟨(), rfl, trivial, by rw [ht]; exact hP9, hD9⟩, hS.F ht⟩) hS.2.2 dX2_begin_64
    · replace hw := hwf cc
      refine lv_aload_n hx hb dX2_begin_51 rfl (lv_at hl 0 rfl) ?_
      refine va_get (D := D) (ci := 2) (v := .ref q_de) (C := RX2) (T := TX2) (N := 5) hx hb hts i_X2_begin_X2 hown hZ.1 hP 0 rfl rfl 2 (by decide) (hts _ m_X2_begin_f19) (fun _ h9 => h9) rfl dX2_begin_52 ?_
      refine lv_iload_n hx hb dX2_begin_55 rfl (lv_at hl 2 rfl) ?_
      refine lv_iconst (v := nI 0) hx hb dX2_begin_56 (by decide +kernel) ?_
      obtain ⟨zh6, hw⟩ := hw
      refine z_iast hx hb hZ.1 hP hD hS 3 0 rfl rfl zh6 (by decide) (g := upd c_de v2 (nI 0)) rfl dX2_begin_57 (fun H locs hP hD hS => ?_)
      have hP : va_P D vwCl [(q_nt, .inr (2, [.ref q_en, .ref q_ba, .ref q_de, .int (nI c_sz), .int (nI c_pr)])), (q_en, .inl (cI, 32, .inl (c_en))), (q_ba, .inl (cZ, 32, .inl (aB c_ba))), (q_de, .inl (cI, 8, .inl (upd c_de v2 (nI 0))))] H := hP
      have hD : va_D A [(q_nt, .inr (2, [.ref q_en, .ref q_ba, .ref q_de, .int (nI c_sz), .int (nI c_pr)])), (q_en, .inl (cI, 32, .inl (c_en))), (q_ba, .inl (cZ, 32, .inl (aB c_ba))), (q_de, .inl (cI, 8, .inl (upd c_de v2 (nI 0))))] := hD
      refine lv_iinc (v := nI (v2 + 1)) (lv' := [(2, .int (nI (v2 + 1))), (0, .ref q_nt), (1, .int (nI m))]) hx hb dX2_begin_58 hl (k := 2) rfl (by rw [show Int32.ofInt 1 = nI 1 from by decide +kernel]; exact nI_add _ _) (by decide) rfl (fun ls hl => ?_)
      refine lv_goto (tgt := 42) hx hb dX2_begin_61 (by decide) ?_
      have hP9 : va_P D vwCl [(q_nt, .inr (2, [.ref q_en, .ref q_ba, .ref q_de, .int (nI c_sz), .int (nI c_pr)])), (q_en, .inl (cI, 32, .inl (c_en))), (q_ba, .inl (cZ, 32, .inl (aB c_ba))), (q_de, .inl (cI, 8, .inl (upd c_de v2 (nI 0))))] H := hP.sub [0, 1, 2, 3] rfl
      have hD9 : va_D A [(q_nt, .inr (2, [.ref q_en, .ref q_ba, .ref q_de, .int (nI c_sz), .int (nI c_pr)])), (q_en, .inl (cI, 32, .inl (c_en))), (q_ba, .inl (cZ, 32, .inl (aB c_ba))), (q_de, .inl (cI, 8, .inl (upd c_de v2 (nI 0))))] := hD.sub [0, 1, 2, 3] (by decide) rfl
      exact ((hX42 _ _ _ _ _ _).mp hw) _ _ hP9 hD9 hS ls (lv_sub hl [1, 2, 0] rfl)
  have hw := vw X12 X42 b12 b42
  unfold B_X2_begin_in at hw
  refine lv_aload_n hx hb dX2_begin_0 rfl (lv_at hl 0 rfl) ?_
  refine lv_iload_n hx hb dX2_begin_1 rfl (lv_at hl 1 rfl) ?_
  refine va_put (D := D) (ci := 2) (v := .int (nI m)) (ty := .int) (C := RX2) (T := TX2) (N := 5) hx hb hts i_X2_begin_X2 tyX2 tyX2_ok nmX2 hown hZ.1 hP hD hS 0 rfl rfl 3 (by decide) (hts _ m_X2_begin_f26) (fun _ h9 => h9) rfl (by decide +kernel) rfl rfl (Nat.le_of_ble_eq_true rfl) dX2_begin_2 (fun H locs hP hD hS => ?_)
  have hP : va_P D vwCl [(q_nt, .inr (2, [.ref q_en, .ref q_ba, .ref q_de, .int (nI m), .int p0])), (q_en, .inl (cI, 32, .inl (e0))), (q_ba, .inl (cZ, 32, .inl (aB w0))), (q_de, .inl (cI, 8, .inl (d0)))] H := hP
  have hD : va_D A [(q_nt, .inr (2, [.ref q_en, .ref q_ba, .ref q_de, .int (nI m), .int p0])), (q_en, .inl (cI, 32, .inl (e0))), (q_ba, .inl (cZ, 32, .inl (aB w0))), (q_de, .inl (cI, 8, .inl (d0)))] := hD
  refine lv_aload_n hx hb dX2_begin_5 rfl (lv_at hl 0 rfl) ?_
  refine lv_iconst (v := nI 0) hx hb dX2_begin_6 (by decide +kernel) ?_
  refine va_put (D := D) (ci := 2) (v := .int (nI 0)) (ty := .int) (C := RX2) (T := TX2) (N := 5) hx hb hts i_X2_begin_X2 tyX2 tyX2_ok nmX2 hown hZ.1 hP hD hS 0 rfl rfl 4 (by decide) (hts _ m_X2_begin_f30) (fun _ h9 => h9) rfl (by decide +kernel) rfl rfl (Nat.le_of_ble_eq_true rfl) dX2_begin_7 (fun H locs hP hD hS => ?_)
  have hP : va_P D vwCl [(q_nt, .inr (2, [.ref q_en, .ref q_ba, .ref q_de, .int (nI m), .int (nI 0)])), (q_en, .inl (cI, 32, .inl (e0))), (q_ba, .inl (cZ, 32, .inl (aB w0))), (q_de, .inl (cI, 8, .inl (d0)))] H := hP
  have hD : va_D A [(q_nt, .inr (2, [.ref q_en, .ref q_ba, .ref q_de, .int (nI m), .int (nI 0)])), (q_en, .inl (cI, 32, .inl (e0))), (q_ba, .inl (cZ, 32, .inl (aB w0))), (q_de, .inl (cI, 8, .inl (d0)))] := hD
  refine lv_iconst (v := nI 0) hx hb dX2_begin_10 (by decide +kernel) ?_
  refine lv_istore_n (lv' := [(2, .int (nI 0)), (0, .ref q_nt), (1, .int (nI m))]) hx hb dX2_begin_11 rfl hl (by decide) rfl (fun ls hl => ?_)
  have hP9 : va_P D vwCl [(q_nt, .inr (2, [.ref q_en, .ref q_ba, .ref q_de, .int (nI m), .int (nI 0)])), (q_en, .inl (cI, 32, .inl (e0))), (q_ba, .inl (cZ, 32, .inl (aB w0))), (q_de, .inl (cI, 8, .inl (d0)))] H := hP.sub [0, 1, 2, 3] rfl
  have hD9 : va_D A [(q_nt, .inr (2, [.ref q_en, .ref q_ba, .ref q_de, .int (nI m), .int (nI 0)])), (q_en, .inl (cI, 32, .inl (e0))), (q_ba, .inl (cZ, 32, .inl (aB w0))), (q_de, .inl (cI, 8, .inl (d0)))] := hD.sub [0, 1, 2, 3] (by decide) rfl
  exact ((hX12 _ _ _ _ _ _).mp hw) _ _ hP9 hD9 hS ls (lv_sub hl [1, 2, 0] rfl)
theorem m_X2_hasPost_f26 : Cond.fieldLink RX2 26 "NetWalkers$Net" "size" "I" ∈ wsX2_hasPost := by decide +kernel
theorem i_X2_hasPost_X2 : ∀ w ∈ wsX20, w ∈ wsX2_hasPost := by decide +kernel
set_option maxRecDepth 100000 in
set_option maxHeartbeats 4000000 in
theorem w_X2_hasPost {l : Launch} {D : va_G} {cI cZ : ClassId} (vv : V_X2_hasPost) : K_X2_hasPost l D cI cZ := by
  intro q_nt q_en q_ba q_de n t w p
  have vw := vv n t w p
  refine Met.ofW (cc := cX2_hasPost) (maxL := 2) (ret := (some .boolean)) (by decide) rfl ?_
  intro zp ze zs zm zargs zbelow zmeth zc zs1 B hml hv
  obtain ⟨rfl, hZ, hP⟩ := hv
  have hx := B.exec
  have hb := B.bytes
  have hr := B.returns
  have hts := atoms_spec (ws := wsX2_hasPost) B.pre
  have hown : zs.vm.findClass RX2 = some zm.cls := findClass_of_methodNamed B.named
  have hlocks := B.notSynchronized
  have hP : va_P D vwCl [(q_nt, .inr (2, [.ref q_en, .ref q_ba, .ref q_de, .int (nI n), .int (nI (prs t))])), (q_en, .inl (cI, 32, .inl (aE t))), (q_ba, .inl (cZ, 32, .inl (aB w))), (q_de, .inl (cI, 8, .inl (aN (dg t))))] zs.heap := hP
  have hl := lv_entry ([.ref q_nt, .int p]) (n := 2) (Nat.le_of_ble_eq_true rfl)
  rw [lg_entry_eq]
  generalize (lg_sl ([.ref q_nt, .int p]) ++ List.replicate (2 - (lg_sl ([.ref q_nt, .int p])).length) Slot.unset).toArray = ls at hl ⊢
  have hl : lv_has ls 2 [(0, .ref q_nt), (1, .int p)] := hl
  have hw := vw
  unfold B_X2_hasPost_in at hw
  refine lv_iload_n hx hb dX2_hasPost_0 rfl (lv_at hl 1 rfl) ?_
  obtain ⟨hwt, hwf⟩ := hw
  refine lv_if_lt hx hb (tgt := 16) dX2_hasPost_1 (by decide) (fun cc => ?_) (fun cc => ?_)
  · replace hw := hwt cc
    refine lv_iconst (v := nI 0) hx hb dX2_hasPost_16 (by decide +kernel) ?_
    refine z_st (st' := [.int (bI false)]) rfl ?_
    have er := hw
    exact W.zret (ty := .boolean) (v := bI false) hx hb hr (bI_nar _) (fun t ht hW => ⟨_, rfl, (congrArg bI er), ht⟩) (fun _ h => by cases h) dX2_hasPost_17
  · replace hw := hwf cc
    refine lv_iload_n hx hb dX2_hasPost_4 rfl (lv_at hl 1 rfl) ?_
    refine lv_aload_n hx hb dX2_hasPost_5 rfl (lv_at hl 0 rfl) ?_
    refine va_get (D := D) (ci := 2) (v := .int (nI n)) (C := RX2) (T := TX2) (N := 5) hx hb hts i_X2_hasPost_X2 hown hZ.1 hP 0 rfl rfl 3 (by decide) (hts _ m_X2_hasPost_f26) (fun _ h9 => h9) rfl dX2_hasPost_6 ?_
    obtain ⟨hwt, hwf⟩ := hw
    refine lv_icmp_ge hx hb (tgt := 16) dX2_hasPost_9 (by decide) (fun cc => ?_) (fun cc => ?_)
    · replace hw := hwt cc
      refine lv_iconst (v := nI 0) hx hb dX2_hasPost_16 (by decide +kernel) ?_
      refine z_st (st' := [.int (bI false)]) rfl ?_
      have er := hw
      exact W.zret (ty := .boolean) (v := bI false) hx hb hr (bI_nar _) (fun t ht hW => ⟨_, rfl, (congrArg bI er), ht⟩) (fun _ h => by cases h) dX2_hasPost_17
    · replace hw := hwf cc
      refine lv_iconst (v := nI 1) hx hb dX2_hasPost_12 (by decide +kernel) ?_
      refine lv_goto (tgt := 17) hx hb dX2_hasPost_13 (by decide) ?_
      refine z_st (st' := [.int (bI true)]) rfl ?_
      have er := hw
      exact W.zret (ty := .boolean) (v := bI true) hx hb hr (bI_nar _) (fun t ht hW => ⟨_, rfl, (congrArg bI er), ht⟩) (fun _ h => by cases h) dX2_hasPost_17
set_option maxRecDepth 100000 in
set_option maxHeartbeats 4000000 in
theorem w_X2_hasPlace {l : Launch} {D : va_G} {cI cZ : ClassId} (k_X2_hasPost : K_X2_hasPost l D cI cZ) (vv : V_X2_hasPlace) : K_X2_hasPlace l D cI cZ := by
  intro q_nt q_en q_ba q_de n t w p d
  have vw := vv n t w p d
  refine Met.ofW (cc := cX2_hasPlace) (maxL := 3) (ret := (some .boolean)) (by decide) rfl ?_
  intro zp ze zs zm zargs zbelow zmeth zc zs1 B hml hv
  obtain ⟨rfl, hZ, hP⟩ := hv
  have hx := B.exec
  have hb := B.bytes
  have hr := B.returns
  have hts := atoms_spec (ws := wsX2_hasPlace) B.pre
  have hown : zs.vm.findClass RX2 = some zm.cls := findClass_of_methodNamed B.named
  have hlocks := B.notSynchronized
  have hP : va_P D vwCl [(q_nt, .inr (2, [.ref q_en, .ref q_ba, .ref q_de, .int (nI n), .int (nI (prs t))])), (q_en, .inl (cI, 32, .inl (aE t))), (q_ba, .inl (cZ, 32, .inl (aB w))), (q_de, .inl (cI, 8, .inl (aN (dg t))))] zs.heap := hP
  have hl := lv_entry ([.ref q_nt, .int p, .int d]) (n := 3) (Nat.le_of_ble_eq_true rfl)
  rw [lg_entry_eq]
  generalize (lg_sl ([.ref q_nt, .int p, .int d]) ++ List.replicate (3 - (lg_sl ([.ref q_nt, .int p, .int d])).length) Slot.unset).toArray = ls at hl ⊢
  have hl : lv_has ls 3 [(0, .ref q_nt), (1, .int p), (2, .int d)] := hl
  have hw := vw
  unfold B_X2_hasPlace_in at hw
  refine lv_aload_n hx hb dX2_hasPlace_0 rfl (lv_at hl 0 rfl) ?_
  refine lv_iload_n hx hb dX2_hasPlace_1 rfl (lv_at hl 1 rfl) ?_
  have hPc : va_P D vwCl [(q_nt, .inr (2, [.ref q_en, .ref q_ba, .ref q_de, .int (nI n), .int (nI (prs t))])), (q_en, .inl (cI, 32, .inl (aE t))), (q_ba, .inl (cZ, 32, .inl (aB w))), (q_de, .inl (cI, 8, .inl (aN (dg t))))] zs.heap := hP.sub [0, 1, 2, 3] rfl
  refine z_ro (va_runV (As := [.int p]) (rest := []) ⟨hx, hb, hml, hown, hts⟩ (k_X2_hasPost q_nt q_en q_ba q_de n t w p) (cwV 1 hts gX2_hasPlace_X2_hasPost rfl rfl rfl (by decide +kernel) ⟨Nat.le_of_ble_eq_true rfl, Nat.le_of_ble_eq_true rfl⟩) (zPr_V hZ hPc 0 rfl rfl) rfl rfl hl.1 rfl (lv_room (Nat.le_of_ble_eq_true rfl)) dX2_hasPlace_2 ⟨Nat.zero_le _, Nat.zero_le _⟩) (fun zr1 hzr1 => ?_)
  have ez := hzr1
  rw [ez]
  clear ez hzr1
  obtain ⟨hwt, hwf⟩ := hw
  refine z_if_eqb hx hb (tgt := 21) dX2_hasPlace_5 (by decide) (fun cc => ?_) (fun cc => ?_)
  · replace hw := hwt cc
    refine lv_iconst (v := nI 0) hx hb dX2_hasPlace_21 (by decide +kernel) ?_
    refine z_st (st' := [.int (bI false)]) rfl ?_
    have er := hw
    exact W.zret (ty := .boolean) (v := bI false) hx hb hr (bI_nar _) (fun t ht hW => ⟨_, rfl, (congrArg bI er), ht⟩) (fun _ h => by cases h) dX2_hasPlace_22
  · replace hw := hwf cc
    refine lv_iload_n hx hb dX2_hasPlace_8 rfl (lv_at hl 2 rfl) ?_
    obtain ⟨hwt, hwf⟩ := hw
    refine lv_if_lt hx hb (tgt := 21) dX2_hasPlace_9 (by decide) (fun cc => ?_) (fun cc => ?_)
    · replace hw := hwt cc
      refine lv_iconst (v := nI 0) hx hb dX2_hasPlace_21 (by decide +kernel) ?_
      refine z_st (st' := [.int (bI false)]) rfl ?_
      have er := hw
      exact W.zret (ty := .boolean) (v := bI false) hx hb hr (bI_nar _) (fun t ht hW => ⟨_, rfl, (congrArg bI er), ht⟩) (fun _ h => by cases h) dX2_hasPlace_22
    · replace hw := hwf cc
      refine lv_iload_n hx hb dX2_hasPlace_12 rfl (lv_at hl 2 rfl) ?_
      refine lv_iconst (v := nI 4) hx hb dX2_hasPlace_13 (by decide +kernel) ?_
      obtain ⟨hwt, hwf⟩ := hw
      refine lv_icmp_ge hx hb (tgt := 21) dX2_hasPlace_14 (by decide) (fun cc => ?_) (fun cc => ?_)
      · replace hw := hwt cc
        refine lv_iconst (v := nI 0) hx hb dX2_hasPlace_21 (by decide +kernel) ?_
        refine z_st (st' := [.int (bI false)]) rfl ?_
        have er := hw
        exact W.zret (ty := .boolean) (v := bI false) hx hb hr (bI_nar _) (fun t ht hW => ⟨_, rfl, (congrArg bI er), ht⟩) (fun _ h => by cases h) dX2_hasPlace_22
      · replace hw := hwf cc
        refine lv_iconst (v := nI 1) hx hb dX2_hasPlace_17 (by decide +kernel) ?_
        refine lv_goto (tgt := 22) hx hb dX2_hasPlace_18 (by decide) ?_
        refine z_st (st' := [.int (bI true)]) rfl ?_
        have er := hw
        exact W.zret (ty := .boolean) (v := bI true) hx hb hr (bI_nar _) (fun t ht hW => ⟨_, rfl, (congrArg bI er), ht⟩) (fun _ h => by cases h) dX2_hasPlace_22
theorem m_X2_allPosts_f26 : Cond.fieldLink RX2 26 "NetWalkers$Net" "size" "I" ∈ wsX2_allPosts := by decide +kernel
theorem i_X2_allPosts_X2 : ∀ w ∈ wsX20, w ∈ wsX2_allPosts := by decide +kernel
set_option maxRecDepth 100000 in
set_option maxHeartbeats 4000000 in
theorem w_X2_allPosts {l : Launch} {D : va_G} {cI cZ : ClassId} (vv : V_X2_allPosts) : K_X2_allPosts l D cI cZ := by
  intro q_nt q_en q_ba q_de n t w hpre0
  have vw := vv n t w hpre0
  refine Met.ofW (cc := cX2_allPosts) (maxL := 1) (ret := (some .int)) (by decide) rfl ?_
  intro zp ze zs zm zargs zbelow zmeth zc zs1 B hml hv
  obtain ⟨rfl, hZ, hP⟩ := hv
  have hx := B.exec
  have hb := B.bytes
  have hr := B.returns
  have hts := atoms_spec (ws := wsX2_allPosts) B.pre
  have hown : zs.vm.findClass RX2 = some zm.cls := findClass_of_methodNamed B.named
  have hlocks := B.notSynchronized
  have hP : va_P D vwCl [(q_nt, .inr (2, [.ref q_en, .ref q_ba, .ref q_de, .int (nI n), .int (nI (prs t))])), (q_en, .inl (cI, 32, .inl (aE t))), (q_ba, .inl (cZ, 32, .inl (aB w))), (q_de, .inl (cI, 8, .inl (aN (dg t))))] zs.heap := hP
  have hl := lv_entry ([.ref q_nt]) (n := 1) (Nat.le_of_ble_eq_true rfl)
  rw [lg_entry_eq]
  generalize (lg_sl ([.ref q_nt]) ++ List.replicate (1 - (lg_sl ([.ref q_nt])).length) Slot.unset).toArray = ls at hl ⊢
  have hl : lv_has ls 1 [(0, .ref q_nt)] := hl
  have hw := vw
  unfold B_X2_allPosts_in at hw
  refine lv_iconst (v := nI 1) hx hb dX2_allPosts_0 (by decide +kernel) ?_
  refine lv_aload_n hx hb dX2_allPosts_1 rfl (lv_at hl 0 rfl) ?_
  refine va_get (D := D) (ci := 2) (v := .int (nI n)) (C := RX2) (T := TX2) (N := 5) hx hb hts i_X2_allPosts_X2 hown hZ.1 hP 0 rfl rfl 3 (by decide) (hts _ m_X2_allPosts_f26) (fun _ h9 => h9) rfl dX2_allPosts_2 ?_
  obtain ⟨zh1, hw⟩ := hw
  refine z_ishl hx hb (n_shl _ zh1) dX2_allPosts_5 ?_
  refine lv_iconst (v := nI 1) hx hb dX2_allPosts_6 (by decide +kernel) ?_
  obtain ⟨zh2, hw⟩ := hw
  refine z_isub hx hb (pk_sub zh2) dX2_allPosts_7 ?_
  have er := hw
  exact W.iret (v := nI ((1 <<< n) - 1)) hx hb hr (fun t ht hW => ⟨_, rfl, (congrArg nI er), ht⟩) (fun _ h => by cases h) dX2_allPosts_8
theorem m_X2_degreeOf_f19 : Cond.fieldLink RX2 19 "NetWalkers$Net" "degrees" "[I" ∈ wsX2_degreeOf := by decide +kernel
theorem i_X2_degreeOf_X2 : ∀ w ∈ wsX20, w ∈ wsX2_degreeOf := by decide +kernel
set_option maxRecDepth 100000 in
set_option maxHeartbeats 4000000 in
theorem w_X2_degreeOf {l : Launch} {D : va_G} {cI cZ : ClassId} (vv : V_X2_degreeOf) : K_X2_degreeOf l D cI cZ := by
  intro q_nt q_en q_ba q_de n t w p hpre0
  have vw := vv n t w p hpre0
  refine Met.ofW (cc := cX2_degreeOf) (maxL := 2) (ret := (some .int)) (by decide) rfl ?_
  intro zp ze zs zm zargs zbelow zmeth zc zs1 B hml hv
  obtain ⟨rfl, hZ, hP⟩ := hv
  have hx := B.exec
  have hb := B.bytes
  have hr := B.returns
  have hts := atoms_spec (ws := wsX2_degreeOf) B.pre
  have hown : zs.vm.findClass RX2 = some zm.cls := findClass_of_methodNamed B.named
  have hlocks := B.notSynchronized
  have hP : va_P D vwCl [(q_nt, .inr (2, [.ref q_en, .ref q_ba, .ref q_de, .int (nI n), .int (nI (prs t))])), (q_en, .inl (cI, 32, .inl (aE t))), (q_ba, .inl (cZ, 32, .inl (aB w))), (q_de, .inl (cI, 8, .inl (aN (dg t))))] zs.heap := hP
  have hl := lv_entry ([.ref q_nt, .int (nI p)]) (n := 2) (Nat.le_of_ble_eq_true rfl)
  rw [lg_entry_eq]
  generalize (lg_sl ([.ref q_nt, .int (nI p)]) ++ List.replicate (2 - (lg_sl ([.ref q_nt, .int (nI p)])).length) Slot.unset).toArray = ls at hl ⊢
  have hl : lv_has ls 2 [(0, .ref q_nt), (1, .int (nI p))] := hl
  have hw := vw
  unfold B_X2_degreeOf_in at hw
  refine lv_iload_n hx hb dX2_degreeOf_0 rfl (lv_at hl 1 rfl) ?_
  obtain ⟨zh1, hw⟩ := hw
  refine z_if_lt hx hb zh1 (tgt := 22) dX2_degreeOf_1 (by decide) ?_
  refine lv_iload_n hx hb dX2_degreeOf_4 rfl (lv_at hl 1 rfl) ?_
  refine lv_aload_n hx hb dX2_degreeOf_5 rfl (lv_at hl 0 rfl) ?_
  refine va_get (D := D) (ci := 2) (v := .ref q_de) (C := RX2) (T := TX2) (N := 5) hx hb hts i_X2_degreeOf_X2 hown hZ.1 hP 0 rfl rfl 2 (by decide) (hts _ m_X2_degreeOf_f19) (fun _ h9 => h9) rfl dX2_degreeOf_6 ?_
  refine va_alen hx hb hZ.1 hP 3 0 rfl rfl (v := nI 8) rfl dX2_degreeOf_9 ?_
  obtain ⟨zh2, hw⟩ := hw
  obtain ⟨hwt, hwf⟩ := hw
  refine z_icmp_ge hx hb zh2 (by decide) (tgt := 22) dX2_degreeOf_10 (by decide) (fun cc => ?_) (fun cc => ?_)
  · replace hw := hwt cc
    refine lv_iconst (v := nI 0) hx hb dX2_degreeOf_22 (by decide +kernel) ?_
    have er := hw
    exact W.iret (v := nI 0) hx hb hr (fun t ht hW => ⟨_, rfl, (congrArg nI er), ht⟩) (fun _ h => by cases h) dX2_degreeOf_23
  · replace hw := hwf cc
    refine lv_aload_n hx hb dX2_degreeOf_13 rfl (lv_at hl 0 rfl) ?_
    refine va_get (D := D) (ci := 2) (v := .ref q_de) (C := RX2) (T := TX2) (N := 5) hx hb hts i_X2_degreeOf_X2 hown hZ.1 hP 0 rfl rfl 2 (by decide) (hts _ m_X2_degreeOf_f19) (fun _ h9 => h9) rfl dX2_degreeOf_14 ?_
    refine lv_iload_n hx hb dX2_degreeOf_17 rfl (lv_at hl 1 rfl) ?_
    obtain ⟨zh3, hw⟩ := hw
    refine z_iald hx hb hZ.1 hP 3 0 rfl rfl zh3 (by decide) (v := nI ((dg t) p)) rfl dX2_degreeOf_18 ?_
    refine lv_goto (tgt := 23) hx hb dX2_degreeOf_19 (by decide) ?_
    have er := hw
    exact W.iret (v := nI ((dg t) p)) hx hb hr (fun t ht hW => ⟨_, rfl, (congrArg nI er), ht⟩) (fun _ h => by cases h) dX2_degreeOf_23
theorem m_X2_endOf_f9 : Cond.fieldLink RX2 9 "NetWalkers$Net" "ends" "[I" ∈ wsX2_endOf := by decide +kernel
theorem i_X2_endOf_X2 : ∀ w ∈ wsX20, w ∈ wsX2_endOf := by decide +kernel
set_option maxRecDepth 100000 in
set_option maxHeartbeats 4000000 in
theorem w_X2_endOf {l : Launch} {D : va_G} {cI cZ : ClassId} (vv : V_X2_endOf) : K_X2_endOf l D cI cZ := by
  intro q_nt q_en q_ba q_de n t w i hpre0
  have vw := vv n t w i hpre0
  refine Met.ofW (cc := cX2_endOf) (maxL := 2) (ret := (some .int)) (by decide) rfl ?_
  intro zp ze zs zm zargs zbelow zmeth zc zs1 B hml hv
  obtain ⟨rfl, hZ, hP⟩ := hv
  have hx := B.exec
  have hb := B.bytes
  have hr := B.returns
  have hts := atoms_spec (ws := wsX2_endOf) B.pre
  have hown : zs.vm.findClass RX2 = some zm.cls := findClass_of_methodNamed B.named
  have hlocks := B.notSynchronized
  have hP : va_P D vwCl [(q_nt, .inr (2, [.ref q_en, .ref q_ba, .ref q_de, .int (nI n), .int (nI (prs t))])), (q_en, .inl (cI, 32, .inl (aE t))), (q_ba, .inl (cZ, 32, .inl (aB w))), (q_de, .inl (cI, 8, .inl (aN (dg t))))] zs.heap := hP
  have hl := lv_entry ([.ref q_nt, .int (nI i)]) (n := 2) (Nat.le_of_ble_eq_true rfl)
  rw [lg_entry_eq]
  generalize (lg_sl ([.ref q_nt, .int (nI i)]) ++ List.replicate (2 - (lg_sl ([.ref q_nt, .int (nI i)])).length) Slot.unset).toArray = ls at hl ⊢
  have hl : lv_has ls 2 [(0, .ref q_nt), (1, .int (nI i))] := hl
  have hw := vw
  unfold B_X2_endOf_in at hw
  refine lv_iload_n hx hb dX2_endOf_0 rfl (lv_at hl 1 rfl) ?_
  obtain ⟨zh1, hw⟩ := hw
  refine z_if_lt hx hb zh1 (tgt := 22) dX2_endOf_1 (by decide) ?_
  refine lv_iload_n hx hb dX2_endOf_4 rfl (lv_at hl 1 rfl) ?_
  refine lv_aload_n hx hb dX2_endOf_5 rfl (lv_at hl 0 rfl) ?_
  refine va_get (D := D) (ci := 2) (v := .ref q_en) (C := RX2) (T := TX2) (N := 5) hx hb hts i_X2_endOf_X2 hown hZ.1 hP 0 rfl rfl 0 (by decide) (hts _ m_X2_endOf_f9) (fun _ h9 => h9) rfl dX2_endOf_6 ?_
  refine va_alen hx hb hZ.1 hP 1 0 rfl rfl (v := nI 32) rfl dX2_endOf_9 ?_
  obtain ⟨zh2, hw⟩ := hw
  obtain ⟨hwt, hwf⟩ := hw
  refine z_icmp_ge hx hb zh2 (by decide) (tgt := 22) dX2_endOf_10 (by decide) (fun cc => ?_) (fun cc => ?_)
  · replace hw := hwt cc
    refine lv_iconst (v := (-1)) hx hb dX2_endOf_22 (by decide +kernel) ?_
    have er := hw
    exact W.iret (v := (-1)) hx hb hr (fun t ht hW => ⟨_, rfl, er, ht⟩) (fun _ h => by cases h) dX2_endOf_23
  · replace hw := hwf cc
    refine lv_aload_n hx hb dX2_endOf_13 rfl (lv_at hl 0 rfl) ?_
    refine va_get (D := D) (ci := 2) (v := .ref q_en) (C := RX2) (T := TX2) (N := 5) hx hb hts i_X2_endOf_X2 hown hZ.1 hP 0 rfl rfl 0 (by decide) (hts _ m_X2_endOf_f9) (fun _ h9 => h9) rfl dX2_endOf_14 ?_
    refine lv_iload_n hx hb dX2_endOf_17 rfl (lv_at hl 1 rfl) ?_
    obtain ⟨zh3, hw⟩ := hw
    refine z_iald hx hb hZ.1 hP 1 0 rfl rfl zh3 (by decide) (v := aE t i) rfl dX2_endOf_18 ?_
    refine lv_goto (tgt := 23) hx hb dX2_endOf_19 (by decide) ?_
    have er := hw
    exact W.iret (v := aE t i) hx hb hr (fun t ht hW => ⟨_, rfl, er, ht⟩) (fun _ h => by cases h) dX2_endOf_23
theorem m_X2_isBad_f15 : Cond.fieldLink RX2 15 "NetWalkers$Net" "bads" "[Z" ∈ wsX2_isBad := by decide +kernel
theorem i_X2_isBad_X2 : ∀ w ∈ wsX20, w ∈ wsX2_isBad := by decide +kernel
set_option maxRecDepth 100000 in
set_option maxHeartbeats 4000000 in
theorem w_X2_isBad {l : Launch} {D : va_G} {cI cZ : ClassId} (vv : V_X2_isBad) : K_X2_isBad l D cI cZ := by
  intro q_nt q_en q_ba q_de n t w i hpre0
  have vw := vv n t w i hpre0
  refine Met.ofW (cc := cX2_isBad) (maxL := 2) (ret := (some .boolean)) (by decide) rfl ?_
  intro zp ze zs zm zargs zbelow zmeth zc zs1 B hml hv
  obtain ⟨rfl, hZ, hP⟩ := hv
  have hx := B.exec
  have hb := B.bytes
  have hr := B.returns
  have hts := atoms_spec (ws := wsX2_isBad) B.pre
  have hown : zs.vm.findClass RX2 = some zm.cls := findClass_of_methodNamed B.named
  have hlocks := B.notSynchronized
  have hP : va_P D vwCl [(q_nt, .inr (2, [.ref q_en, .ref q_ba, .ref q_de, .int (nI n), .int (nI (prs t))])), (q_en, .inl (cI, 32, .inl (aE t))), (q_ba, .inl (cZ, 32, .inl (aB w))), (q_de, .inl (cI, 8, .inl (aN (dg t))))] zs.heap := hP
  have hl := lv_entry ([.ref q_nt, .int (nI i)]) (n := 2) (Nat.le_of_ble_eq_true rfl)
  rw [lg_entry_eq]
  generalize (lg_sl ([.ref q_nt, .int (nI i)]) ++ List.replicate (2 - (lg_sl ([.ref q_nt, .int (nI i)])).length) Slot.unset).toArray = ls at hl ⊢
  have hl : lv_has ls 2 [(0, .ref q_nt), (1, .int (nI i))] := hl
  have hw := vw
  unfold B_X2_isBad_in at hw
  refine lv_iload_n hx hb dX2_isBad_0 rfl (lv_at hl 1 rfl) ?_
  obtain ⟨zh1, hw⟩ := hw
  refine z_if_lt hx hb zh1 (tgt := 26) dX2_isBad_1 (by decide) ?_
  refine lv_iload_n hx hb dX2_isBad_4 rfl (lv_at hl 1 rfl) ?_
  refine lv_aload_n hx hb dX2_isBad_5 rfl (lv_at hl 0 rfl) ?_
  refine va_get (D := D) (ci := 2) (v := .ref q_ba) (C := RX2) (T := TX2) (N := 5) hx hb hts i_X2_isBad_X2 hown hZ.1 hP 0 rfl rfl 1 (by decide) (hts _ m_X2_isBad_f15) (fun _ h9 => h9) rfl dX2_isBad_6 ?_
  refine va_alen hx hb hZ.1 hP 2 1 rfl rfl (v := nI 32) rfl dX2_isBad_9 ?_
  obtain ⟨zh2, hw⟩ := hw
  obtain ⟨hwt, hwf⟩ := hw
  refine z_icmp_ge hx hb zh2 (by decide) (tgt := 26) dX2_isBad_10 (by decide) (fun cc => ?_) (fun cc => ?_)
  · replace hw := hwt cc
    refine lv_iconst (v := nI 0) hx hb dX2_isBad_26 (by decide +kernel) ?_
    refine z_st (st' := [.int (bI false)]) rfl ?_
    have er := hw
    exact W.zret (ty := .boolean) (v := bI false) hx hb hr (bI_nar _) (fun t ht hW => ⟨_, rfl, (congrArg bI er), ht⟩) (fun _ h => by cases h) dX2_isBad_27
  · replace hw := hwf cc
    refine lv_aload_n hx hb dX2_isBad_13 rfl (lv_at hl 0 rfl) ?_
    refine va_get (D := D) (ci := 2) (v := .ref q_ba) (C := RX2) (T := TX2) (N := 5) hx hb hts i_X2_isBad_X2 hown hZ.1 hP 0 rfl rfl 1 (by decide) (hts _ m_X2_isBad_f15) (fun _ h9 => h9) rfl dX2_isBad_14 ?_
    refine lv_iload_n hx hb dX2_isBad_17 rfl (lv_at hl 1 rfl) ?_
    obtain ⟨zh3, hw⟩ := hw
    refine z_zald hx hb hZ.1 hP 2 1 rfl rfl zh3 (by decide) (v := bI (w i)) rfl dX2_isBad_18 ?_
    obtain ⟨hwt, hwf⟩ := hw
    refine z_if_eqb hx hb (tgt := 26) dX2_isBad_19 (by decide) (fun cc => ?_) (fun cc => ?_)
    · replace hw := hwt cc
      refine lv_iconst (v := nI 0) hx hb dX2_isBad_26 (by decide +kernel) ?_
      refine z_st (st' := [.int (bI false)]) rfl ?_
      have er := hw
      exact W.zret (ty := .boolean) (v := bI false) hx hb hr (bI_nar _) (fun t ht hW => ⟨_, rfl, (congrArg bI er), ht⟩) (fun _ h => by cases h) dX2_isBad_27
    · replace hw := hwf cc
      refine lv_iconst (v := nI 1) hx hb dX2_isBad_22 (by decide +kernel) ?_
      refine lv_goto (tgt := 27) hx hb dX2_isBad_23 (by decide) ?_
      refine z_st (st' := [.int (bI true)]) rfl ?_
      have er := hw
      exact W.zret (ty := .boolean) (v := bI true) hx hb hr (bI_nar _) (fun t ht hW => ⟨_, rfl, (congrArg bI er), ht⟩) (fun _ h => by cases h) dX2_isBad_27
theorem m_X2_setBad_f15 : Cond.fieldLink RX2 15 "NetWalkers$Net" "bads" "[Z" ∈ wsX2_setBad := by decide +kernel
theorem i_X2_setBad_X2 : ∀ w ∈ wsX20, w ∈ wsX2_setBad := by decide +kernel
set_option maxRecDepth 100000 in
set_option maxHeartbeats 4000000 in
theorem w_X2_setBad {l : Launch} {D : va_G} {cI cZ : ClassId} (vv : V_X2_setBad) : K_X2_setBad l D cI cZ := by
  intro q_nt q_en q_ba q_de sz e0 w0 d0 z0 p0 i x hpre0
  have vw := vv e0 w0 d0 z0 p0 i x hpre0
  refine Met.ofW (cc := cX2_setBad) (maxL := 3) (ret := none) (by decide) rfl ?_
  intro zp ze zs zm zargs zbelow zmeth zc zs1 B hml hv
  obtain ⟨rfl, hsz, hZ, hP, hD0⟩ := hv
  have hx := B.exec
  have hb := B.bytes
  have hr := B.returns
  have hts := atoms_spec (ws := wsX2_setBad) B.pre
  have hown : zs.vm.findClass RX2 = some zm.cls := findClass_of_methodNamed B.named
  have hlocks := B.notSynchronized
  subst hsz
  have hD := hD0.self (sz := zs.heap.size)
  generalize hAe : va_A [(q_nt, .inr (2, [.ref q_en, .ref q_ba, .ref q_de, .int z0, .int p0])), (q_en, .inl (cI, 32, .inl (e0))), (q_ba, .inl (cZ, 32, .inl (aB w0))), (q_de, .inl (cI, 8, .inl (d0)))] zs.heap.size = A at hD ⊢
  have hA : ∀ q : Nat, zs.heap.size ≤ q → A q := fun q h => by rw [← hAe]; exact Or.inr h
  have hS : va_S A zs.heap zs.heap [] := va_S.rf
  have hP : va_P D vwCl [(q_nt, .inr (2, [.ref q_en, .ref q_ba, .ref q_de, .int z0, .int p0])), (q_en, .inl (cI, 32, .inl (e0))), (q_ba, .inl (cZ, 32, .inl (aB w0))), (q_de, .inl (cI, 8, .inl (d0)))] zs.heap := hP
  have hl := lv_entry ([.ref q_nt, .int (nI i), .int (bI x)]) (n := 3) (Nat.le_of_ble_eq_true rfl)
  rw [lg_entry_eq]
  generalize (lg_sl ([.ref q_nt, .int (nI i), .int (bI x)]) ++ List.replicate (3 - (lg_sl ([.ref q_nt, .int (nI i), .int (bI x)])).length) Slot.unset).toArray = ls at hl ⊢
  have hl : lv_has ls 3 [(0, .ref q_nt), (1, .int (nI i)), (2, .int (bI x))] := hl
  have hw := vw
  unfold B_X2_setBad_in at hw
  refine lv_iload_n hx hb dX2_setBad_0 rfl (lv_at hl 1 rfl) ?_
  obtain ⟨zh1, hw⟩ := hw
  refine z_if_lt hx hb zh1 (tgt := 20) dX2_setBad_1 (by decide) ?_
  refine lv_iload_n hx hb dX2_setBad_4 rfl (lv_at hl 1 rfl) ?_
  refine lv_aload_n hx hb dX2_setBad_5 rfl (lv_at hl 0 rfl) ?_
  refine va_get (D := D) (ci := 2) (v := .ref q_ba) (C := RX2) (T := TX2) (N := 5) hx hb hts i_X2_setBad_X2 hown hZ.1 hP 0 rfl rfl 1 (by decide) (hts _ m_X2_setBad_f15) (fun _ h9 => h9) rfl dX2_setBad_6 ?_
  refine va_alen hx hb hZ.1 hP 2 1 rfl rfl (v := nI 32) rfl dX2_setBad_9 ?_
  obtain ⟨zh2, hw⟩ := hw
  obtain ⟨hwt, hwf⟩ := hw
  refine z_icmp_ge hx hb zh2 (by decide) (tgt := 20) dX2_setBad_10 (by decide) (fun cc => ?_) (fun cc => ?_)
  · replace hw := hwt cc
    have ec_ba := hw
    have hP9 : va_P D vwCl [(q_nt, .inr (2, [.ref q_en, .ref q_ba, .ref q_de, .int z0, .int p0])), (q_en, .inl (cI, 32, .inl (e0))), (q_ba, .inl (cZ, 32, .inl (aB w0))), (q_de, .inl (cI, 8, .inl (d0)))] zs.heap := hP.sub [0, 1, 2, 3] rfl
    have hD9 : va_D A [(q_nt, .inr (2, [.ref q_en, .ref q_ba, .ref q_de, .int z0, .int p0])), (q_en, .inl (cI, 32, .inl (e0))), (q_ba, .inl (cZ, 32, .inl (aB w0))), (q_de, .inl (cI, 8, .inl (d0)))] := hD.sub [0, 1, 2, 3] (by decide) rfl
    have hP9 : va_P D vwCl [(q_nt, .inr (2, [.ref q_en, .ref q_ba, .ref q_de, .int z0, .int p0])), (q_en, .inl (cI, 32, .inl (e0))), (q_ba, .inl (cZ, 32, .inl (aB (upB w0 i x)))), (q_de, .inl (cI, 8, .inl (d0)))] zs.heap := z_arr hP9 2 rfl (fun zi hi => congrArg bI (ec_ba zi hi))
    have hD9 : va_D A [(q_nt, .inr (2, [.ref q_en, .ref q_ba, .ref q_de, .int z0, .int p0])), (q_en, .inl (cI, 32, .inl (e0))), (q_ba, .inl (cZ, 32, .inl (aB (upB w0 i x)))), (q_de, .inl (cI, 8, .inl (d0)))] := hD9.set (p := 2) (e := .inl (cZ, 32, .inl (aB (upB w0 i x)))) rfl
    exact W.vret hx hb hr (fun t ht hW => ⟨⟨(), rfl, trivial, by rw [ht]; exact hP9, hD9⟩, hS.F ht⟩) hS.2.2 dX2_setBad_20
  · replace hw := hwf cc
    refine lv_aload_n hx hb dX2_setBad_13 rfl (lv_at hl 0 rfl) ?_
    refine va_get (D := D) (ci := 2) (v := .ref q_ba) (C := RX2) (T := TX2) (N := 5) hx hb hts i_X2_setBad_X2 hown hZ.1 hP 0 rfl rfl 1 (by decide) (hts _ m_X2_setBad_f15) (fun _ h9 => h9) rfl dX2_setBad_14 ?_
    refine lv_iload_n hx hb dX2_setBad_17 rfl (lv_at hl 1 rfl) ?_
    refine lv_iload_n hx hb dX2_setBad_18 rfl (lv_at hl 2 rfl) ?_
    obtain ⟨zh3, hw⟩ := hw
    refine z_zast hx hb hZ.1 hP hD hS 2 1 rfl rfl zh3 (by decide) (g := aB (upB w0 i x)) (aB_up _ _ _) dX2_setBad_19 (fun H locs hP hD hS => ?_)
    have hP : va_P D vwCl [(q_nt, .inr (2, [.ref q_en, .ref q_ba, .ref q_de, .int z0, .int p0])), (q_en, .inl (cI, 32, .inl (e0))), (q_ba, .inl (cZ, 32, .inl (aB (upB w0 i x)))), (q_de, .inl (cI, 8, .inl (d0)))] H := hP
    have hD : va_D A [(q_nt, .inr (2, [.ref q_en, .ref q_ba, .ref q_de, .int z0, .int p0])), (q_en, .inl (cI, 32, .inl (e0))), (q_ba, .inl (cZ, 32, .inl (aB (upB w0 i x)))), (q_de, .inl (cI, 8, .inl (d0)))] := hD
    clear hw
    have hP9 : va_P D vwCl [(q_nt, .inr (2, [.ref q_en, .ref q_ba, .ref q_de, .int z0, .int p0])), (q_en, .inl (cI, 32, .inl (e0))), (q_ba, .inl (cZ, 32, .inl (aB (upB w0 i x)))), (q_de, .inl (cI, 8, .inl (d0)))] H := hP.sub [0, 1, 2, 3] rfl
    have hD9 : va_D A [(q_nt, .inr (2, [.ref q_en, .ref q_ba, .ref q_de, .int z0, .int p0])), (q_en, .inl (cI, 32, .inl (e0))), (q_ba, .inl (cZ, 32, .inl (aB (upB w0 i x)))), (q_de, .inl (cI, 8, .inl (d0)))] := hD.sub [0, 1, 2, 3] (by decide) rfl
    exact W.vret hx hb hr (fun t ht hW => ⟨⟨(), rfl, trivial, by rw [ht]; exact hP9, hD9⟩, hS.F ht⟩) hS.2.2 dX2_setBad_20
theorem m_X2_badDoors_f15 : Cond.fieldLink RX2 15 "NetWalkers$Net" "bads" "[Z" ∈ wsX2_badDoors := by decide +kernel
theorem i_X2_badDoors_X2 : ∀ w ∈ wsX20, w ∈ wsX2_badDoors := by decide +kernel
set_option maxRecDepth 100000 in
set_option maxHeartbeats 4000000 in
theorem w_X2_badDoors {l : Launch} {D : va_G} {cI cZ : ClassId} (vv : V_X2_badDoors) : K_X2_badDoors l D cI cZ := by
  intro q_nt q_en q_ba q_de n t w
  have vw := vv n t w
  refine Met.ofW (cc := cX2_badDoors) (maxL := 3) (ret := (some .int)) (by decide) rfl ?_
  intro zp ze zs zm zargs zbelow zmeth zc zs1 B hml hv
  obtain ⟨rfl, hZ, hP⟩ := hv
  have hx := B.exec
  have hb := B.bytes
  have hr := B.returns
  have hts := atoms_spec (ws := wsX2_badDoors) B.pre
  have hown : zs.vm.findClass RX2 = some zm.cls := findClass_of_methodNamed B.named
  have hlocks := B.notSynchronized
  have hP : va_P D vwCl [(q_nt, .inr (2, [.ref q_en, .ref q_ba, .ref q_de, .int (nI n), .int (nI (prs t))])), (q_en, .inl (cI, 32, .inl (aE t))), (q_ba, .inl (cZ, 32, .inl (aB w))), (q_de, .inl (cI, 8, .inl (aN (dg t))))] zs.heap := hP
  have hl := lv_entry ([.ref q_nt]) (n := 3) (Nat.le_of_ble_eq_true rfl)
  rw [lg_entry_eq]
  generalize (lg_sl ([.ref q_nt]) ++ List.replicate (3 - (lg_sl ([.ref q_nt])).length) Slot.unset).toArray = ls at hl ⊢
  have hl : lv_has ls 3 [(0, .ref q_nt)] := hl
  obtain ⟨X4, hX4⟩ : ∃ X : Nat → Nat → Prop, ∀ (v1 : Nat) (v2 : Nat), X v1 v2 ↔ (∀ ls : Array Slot, lv_has ls 3 [(0, .ref q_nt), (1, .int (nI v1)), (2, .int (nI v2))] → W zp l ze (headSpec wsX2_badDoors ({ frames := 0, cells := 0, slots := 0, locals := 0 } : Room)).room zs zm ([.ref q_nt] : List Value).toArray zbelow zmeth zc zs.heap [] 0 0 (MQ zbelow (vp_Si (fun zr : Int32 => zr = nI (cnt w 32))) ([.ref q_nt] : List Value).toArray zs 0 0 (fun _ => False)) (F0 zm 4 ls [])) := ⟨_, fun _ _ => Iff.rfl⟩
  have b4 : ∀ (v1 : Nat) (v2 : Nat), B_X2_badDoors_4 n t w X4 v1 v2 → X4 v1 v2 := by
    intro v1 v2 hw
    rw [hX4]
    intro ls hl
    unfold B_X2_badDoors_4 at hw
    refine lv_iload_n hx hb dX2_badDoors_4 rfl (lv_at hl 2 rfl) ?_
    refine lv_aload_n hx hb dX2_badDoors_5 rfl (lv_at hl 0 rfl) ?_
    refine va_get (D := D) (ci := 2) (v := .ref q_ba) (C := RX2) (T := TX2) (N := 5) hx hb hts i_X2_badDoors_X2 hown hZ.1 hP 0 rfl rfl 1 (by decide) (hts _ m_X2_badDoors_f15) (fun _ h9 => h9) rfl dX2_badDoors_6 ?_
    refine va_alen hx hb hZ.1 hP 2 1 rfl rfl (v := nI 32) rfl dX2_badDoors_9 ?_
    obtain ⟨zh1, hw⟩ := hw
    obtain ⟨hwt, hwf⟩ := hw
    refine z_icmp_ge hx hb zh1 (by decide) (tgt := 36) dX2_badDoors_10 (by decide) (fun cc => ?_) (fun cc => ?_)
    · replace hw := hwt cc
      refine lv_iload_n hx hb dX2_badDoors_36 rfl (lv_at hl 1 rfl) ?_
      have er := hw
      exact W.iret (v := nI v1) hx hb hr (fun t ht hW => ⟨_, rfl, (congrArg nI er), ht⟩) (fun _ h => by cases h) dX2_badDoors_37
    · replace hw := hwf cc
      refine lv_iload_n hx hb dX2_badDoors_13 rfl (lv_at hl 1 rfl) ?_
      refine lv_aload_n hx hb dX2_badDoors_14 rfl (lv_at hl 0 rfl) ?_
      refine va_get (D := D) (ci := 2) (v := .ref q_ba) (C := RX2) (T := TX2) (N := 5) hx hb hts i_X2_badDoors_X2 hown hZ.1 hP 0 rfl rfl 1 (by decide) (hts _ m_X2_badDoors_f15) (fun _ h9 => h9) rfl dX2_badDoors_15 ?_
      refine lv_iload_n hx hb dX2_badDoors_18 rfl (lv_at hl 2 rfl) ?_
      obtain ⟨zh2, hw⟩ := hw
      refine z_zald hx hb hZ.1 hP 2 1 rfl rfl zh2 (by decide) (v := bI (w v2)) rfl dX2_badDoors_19 ?_
      obtain ⟨hwt, hwf⟩ := hw
      refine z_if_eqb hx hb (tgt := 27) dX2_badDoors_20 (by decide) (fun cc => ?_) (fun cc => ?_)
      · replace hw := hwt cc
        refine lv_iconst (v := nI 0) hx hb dX2_badDoors_27 (by decide +kernel) ?_
        refine z_iadd hx hb (nI_add _ _) dX2_badDoors_28 ?_
        obtain ⟨zx3, ezx3⟩ : ∃ zx3 : Nat, zx3 = v1 + 0 := ⟨_, rfl⟩
        replace hw := hw zx3 ezx3
        refine z_st (st' := [.int (nI zx3)]) (by rw [ezx3]) ?_
        refine lv_istore_n (lv' := [(1, .int (nI zx3)), (0, .ref q_nt), (2, .int (nI v2))]) hx hb dX2_badDoors_29 rfl hl (by decide) rfl (fun ls hl => ?_)
        refine lv_iinc (v := nI (v2 + 1)) (lv' := [(2, .int (nI (v2 + 1))), (1, .int (nI zx3)), (0, .ref q_nt)]) hx hb dX2_badDoors_30 hl (k := 2) rfl (by rw [show Int32.ofInt 1 = nI 1 from by decide +kernel]; exact nI_add _ _) (by decide) rfl (fun ls hl => ?_)
        refine lv_goto (tgt := 4) hx hb dX2_badDoors_33 (by decide) ?_
        exact ((hX4 _ _).mp hw) ls (lv_sub hl [2, 1, 0] rfl)
      · replace hw := hwf cc
        refine lv_iconst (v := nI 1) hx hb dX2_badDoors_23 (by decide +kernel) ?_
        refine lv_goto (tgt := 28) hx hb dX2_badDoors_24 (by decide) ?_
        refine z_iadd hx hb (nI_add _ _) dX2_badDoors_28 ?_
        obtain ⟨zx4, ezx4⟩ : ∃ zx4 : Nat, zx4 = v1 + 1 := ⟨_, rfl⟩
        replace hw := hw zx4 ezx4
        refine z_st (st' := [.int (nI zx4)]) (by rw [ezx4]) ?_
        refine lv_istore_n (lv' := [(1, .int (nI zx4)), (0, .ref q_nt), (2, .int (nI v2))]) hx hb dX2_badDoors_29 rfl hl (by decide) rfl (fun ls hl => ?_)
        refine lv_iinc (v := nI (v2 + 1)) (lv' := [(2, .int (nI (v2 + 1))), (1, .int (nI zx4)), (0, .ref q_nt)]) hx hb dX2_badDoors_30 hl (k := 2) rfl (by rw [show Int32.ofInt 1 = nI 1 from by decide +kernel]; exact nI_add _ _) (by decide) rfl (fun ls hl => ?_)
        refine lv_goto (tgt := 4) hx hb dX2_badDoors_33 (by decide) ?_
        exact ((hX4 _ _).mp hw) ls (lv_sub hl [2, 1, 0] rfl)
  have hw := vw X4 b4
  unfold B_X2_badDoors_in at hw
  refine lv_iconst (v := nI 0) hx hb dX2_badDoors_0 (by decide +kernel) ?_
  refine lv_istore_n (lv' := [(1, .int (nI 0)), (0, .ref q_nt)]) hx hb dX2_badDoors_1 rfl hl (by decide) rfl (fun ls hl => ?_)
  refine lv_iconst (v := nI 0) hx hb dX2_badDoors_2 (by decide +kernel) ?_
  refine lv_istore_n (lv' := [(2, .int (nI 0)), (1, .int (nI 0)), (0, .ref q_nt)]) hx hb dX2_badDoors_3 rfl hl (by decide) rfl (fun ls hl => ?_)
  exact ((hX4 _ _).mp hw) ls (lv_sub hl [2, 1, 0] rfl)
theorem m_X2_setEnd_inX5 : Cond.initialized RX5 ∈ wsX2_setEnd := by decide +kernel
theorem m_X2_setEnd_stX5_postOf : Cond.static yX5_postOf ∈ wsX2_setEnd := by decide +kernel
theorem m_X2_setEnd_f9 : Cond.fieldLink RX2 9 "NetWalkers$Net" "ends" "[I" ∈ wsX2_setEnd := by decide +kernel
theorem i_X2_setEnd_X2 : ∀ w ∈ wsX20, w ∈ wsX2_setEnd := by decide +kernel
theorem m_X2_setEnd_f19 : Cond.fieldLink RX2 19 "NetWalkers$Net" "degrees" "[I" ∈ wsX2_setEnd := by decide +kernel
set_option maxRecDepth 100000 in
set_option maxHeartbeats 4000000 in
theorem w_X2_setEnd {l : Launch} {D : va_G} {cI cZ : ClassId} (k_X5_postOf : K_X5_postOf l D cI cZ) (vv : V_X2_setEnd) : K_X2_setEnd l D cI cZ := by
  intro q_nt q_en q_ba q_de sz e0 w0 d0 z0 p0 i v y hpre0
  have vw := vv e0 w0 d0 z0 p0 i v y hpre0
  refine Met.ofW (cc := cX2_setEnd) (maxL := 5) (ret := none) (by decide) rfl ?_
  intro zp ze zs zm zargs zbelow zmeth zc zs1 B hml hv
  obtain ⟨rfl, hsz, hZ, hP, hD0⟩ := hv
  have hx := B.exec
  have hb := B.bytes
  have hr := B.returns
  have hts := atoms_spec (ws := wsX2_setEnd) B.pre
  have hown : zs.vm.findClass RX2 = some zm.cls := findClass_of_methodNamed B.named
  have hlocks := B.notSynchronized
  subst hsz
  have hD := hD0.self (sz := zs.heap.size)
  generalize hAe : va_A [(q_nt, .inr (2, [.ref q_en, .ref q_ba, .ref q_de, .int z0, .int p0])), (q_en, .inl (cI, 32, .inl (e0))), (q_ba, .inl (cZ, 32, .inl (aB w0))), (q_de, .inl (cI, 8, .inl (d0)))] zs.heap.size = A at hD ⊢
  have hA : ∀ q : Nat, zs.heap.size ≤ q → A q := fun q h => by rw [← hAe]; exact Or.inr h
  have hS : va_S A zs.heap zs.heap [] := va_S.rf
  have hP : va_P D vwCl [(q_nt, .inr (2, [.ref q_en, .ref q_ba, .ref q_de, .int z0, .int p0])), (q_en, .inl (cI, 32, .inl (e0))), (q_ba, .inl (cZ, 32, .inl (aB w0))), (q_de, .inl (cI, 8, .inl (d0)))] zs.heap := hP
  have hl := lv_entry ([.ref q_nt, .int (nI i), .int v, .int y]) (n := 5) (Nat.le_of_ble_eq_true rfl)
  rw [lg_entry_eq]
  generalize (lg_sl ([.ref q_nt, .int (nI i), .int v, .int y]) ++ List.replicate (5 - (lg_sl ([.ref q_nt, .int (nI i), .int v, .int y])).length) Slot.unset).toArray = ls at hl ⊢
  have hl : lv_has ls 5 [(0, .ref q_nt), (1, .int (nI i)), (2, .int v), (3, .int y)] := hl
  have hw := vw
  unfold B_X2_setEnd_in at hw
  refine lv_iload_n hx hb dX2_setEnd_0 rfl (lv_at hl 1 rfl) ?_
  obtain ⟨zh1, hw⟩ := hw
  have hPc : va_P D vwCl [] zs.heap := hP.sub [] rfl
  refine z_ro (va_runSN (As := [.int (nI i)]) (rest := []) ⟨hx, hb, hml, hown, hts⟩ (k_X5_postOf i zh1) ⟨va_cnB 1 hts gX2_setEnd_X5_postOf_n45 rfl rfl rfl hZ.2.2.2.1 (hts _ m_X2_setEnd_inX5) (by decide +kernel) ⟨Nat.le_of_ble_eq_true rfl, Nat.le_of_ble_eq_true rfl⟩, (hts _ m_X2_setEnd_stX5_postOf), trivial⟩ (zPr_S hZ hPc) rfl rfl hl.1 rfl (lv_room (Nat.le_of_ble_eq_true rfl)) dX2_setEnd_1 ⟨Nat.zero_le _, Nat.zero_le _⟩) (fun zr2 hzr2 => ?_)
  have ez := hzr2
  rw [ez]
  clear ez hzr2
  obtain ⟨zx3, ezx3⟩ : ∃ zx3 : Nat, zx3 = i / 4 := ⟨_, rfl⟩
  replace hw := hw zx3 ezx3
  refine z_st (st' := [.int (nI zx3)]) (by rw [ezx3]) ?_
  refine lv_istore (lv' := [(4, .int (nI zx3)), (0, .ref q_nt), (1, .int (nI i)), (2, .int v), (3, .int y)]) hx hb dX2_setEnd_4 hl (by decide) rfl (fun ls hl => ?_)
  refine lv_iload_n hx hb dX2_setEnd_6 rfl (lv_at hl 2 rfl) ?_
  obtain ⟨zh4, hw⟩ := hw
  refine z_if_lt hx hb zh4 (tgt := 47) dX2_setEnd_7 (by decide) ?_
  refine lv_iload_n hx hb dX2_setEnd_10 rfl (lv_at hl 2 rfl) ?_
  refine lv_aload_n hx hb dX2_setEnd_11 rfl (lv_at hl 1 rfl) ?_
  refine va_get (D := D) (ci := 2) (v := .ref q_en) (C := RX2) (T := TX2) (N := 5) hx hb hts i_X2_setEnd_X2 hown hZ.1 hP 0 rfl rfl 0 (by decide) (hts _ m_X2_setEnd_f9) (fun _ h9 => h9) rfl dX2_setEnd_12 ?_
  refine va_alen hx hb hZ.1 hP 1 0 rfl rfl (v := nI 32) rfl dX2_setEnd_15 ?_
  obtain ⟨zh5, hw⟩ := hw
  obtain ⟨hwt, hwf⟩ := hw
  refine z_icmp_ge hx hb zh5 (by decide) (tgt := 47) dX2_setEnd_16 (by decide) (fun cc => ?_) (fun cc => ?_)
  · replace hw := hwt cc
    obtain ⟨ec_en, ec_de⟩ := hw
    have hP9 : va_P D vwCl [(q_nt, .inr (2, [.ref q_en, .ref q_ba, .ref q_de, .int z0, .int p0])), (q_en, .inl (cI, 32, .inl (e0))), (q_ba, .inl (cZ, 32, .inl (aB w0))), (q_de, .inl (cI, 8, .inl (d0)))] zs.heap := hP.sub [0, 1, 2, 3] rfl
    have hD9 : va_D A [(q_nt, .inr (2, [.ref q_en, .ref q_ba, .ref q_de, .int z0, .int p0])), (q_en, .inl (cI, 32, .inl (e0))), (q_ba, .inl (cZ, 32, .inl (aB w0))), (q_de, .inl (cI, 8, .inl (d0)))] := hD.sub [0, 1, 2, 3] (by decide) rfl
    have hP9 : va_P D vwCl [(q_nt, .inr (2, [.ref q_en, .ref q_ba, .ref q_de, .int z0, .int p0])), (q_en, .inl (cI, 32, .inl (upd e0 i v))), (q_ba, .inl (cZ, 32, .inl (aB w0))), (q_de, .inl (cI, 8, .inl (d0)))] zs.heap := z_arr hP9 1 rfl ec_en
    have hD9 : va_D A [(q_nt, .inr (2, [.ref q_en, .ref q_ba, .ref q_de, .int z0, .int p0])), (q_en, .inl (cI, 32, .inl (upd e0 i v))), (q_ba, .inl (cZ, 32, .inl (aB w0))), (q_de, .inl (cI, 8, .inl (d0)))] := hD9.set (p := 1) (e := .inl (cI, 32, .inl (upd e0 i v))) rfl
    have hP9 : va_P D vwCl [(q_nt, .inr (2, [.ref q_en, .ref q_ba, .ref q_de, .int z0, .int p0])), (q_en, .inl (cI, 32, .inl (upd e0 i v))), (q_ba, .inl (cZ, 32, .inl (aB w0))), (q_de, .inl (cI, 8, .inl (upd d0 (i / 4) (d0 (i / 4) + y))))] zs.heap := z_arr hP9 3 rfl ec_de
    have hD9 : va_D A [(q_nt, .inr (2, [.ref q_en, .ref q_ba, .ref q_de, .int z0, .int p0])), (q_en, .inl (cI, 32, .inl (upd e0 i v))), (q_ba, .inl (cZ, 32, .inl (aB w0))), (q_de, .inl (cI, 8, .inl (upd d0 (i / 4) (d0 (i / 4) + y))))] := hD9.set (p := 3) (e := .inl (cI, 8, .inl (upd d0 (i / 4) (d0 (i / 4) + y)))) rfl
    exact W.vret hx hb hr (fun t ht hW => ⟨⟨(), rfl, trivial, by rw [ht]; exact hP9, hD9⟩, hS.F ht⟩) hS.2.2 dX2_setEnd_47
  · replace hw := hwf cc
    refine lv_iload hx hb dX2_setEnd_19 (lv_at hl 0 rfl) ?_
    refine lv_aload_n hx hb dX2_setEnd_21 rfl (lv_at hl 1 rfl) ?_
    refine va_get (D := D) (ci := 2) (v := .ref q_de) (C := RX2) (T := TX2) (N := 5) hx hb hts i_X2_setEnd_X2 hown hZ.1 hP 0 rfl rfl 2 (by decide) (hts _ m_X2_setEnd_f19) (fun _ h9 => h9) rfl dX2_setEnd_22 ?_
    refine va_alen hx hb hZ.1 hP 3 0 rfl rfl (v := nI 8) rfl dX2_setEnd_25 ?_
    obtain ⟨zh6, hw⟩ := hw
    obtain ⟨hwt, hwf⟩ := hw
    refine z_icmp_ge hx hb zh6 (by decide) (tgt := 47) dX2_setEnd_26 (by decide) (fun cc => ?_) (fun cc => ?_)
    · replace hw := hwt cc
      obtain ⟨ec_en, ec_de⟩ := hw
      have hP9 : va_P D vwCl [(q_nt, .inr (2, [.ref q_en, .ref q_ba, .ref q_de, .int z0, .int p0])), (q_en, .inl (cI, 32, .inl (e0))), (q_ba, .inl (cZ, 32, .inl (aB w0))), (q_de, .inl (cI, 8, .inl (d0)))] zs.heap := hP.sub [0, 1, 2, 3] rfl
      have hD9 : va_D A [(q_nt, .inr (2, [.ref q_en, .ref q_ba, .ref q_de, .int z0, .int p0])), (q_en, .inl (cI, 32, .inl (e0))), (q_ba, .inl (cZ, 32, .inl (aB w0))), (q_de, .inl (cI, 8, .inl (d0)))] := hD.sub [0, 1, 2, 3] (by decide) rfl
      have hP9 : va_P D vwCl [(q_nt, .inr (2, [.ref q_en, .ref q_ba, .ref q_de, .int z0, .int p0])), (q_en, .inl (cI, 32, .inl (upd e0 i v))), (q_ba, .inl (cZ, 32, .inl (aB w0))), (q_de, .inl (cI, 8, .inl (d0)))] zs.heap := z_arr hP9 1 rfl ec_en
      have hD9 : va_D A [(q_nt, .inr (2, [.ref q_en, .ref q_ba, .ref q_de, .int z0, .int p0])), (q_en, .inl (cI, 32, .inl (upd e0 i v))), (q_ba, .inl (cZ, 32, .inl (aB w0))), (q_de, .inl (cI, 8, .inl (d0)))] := hD9.set (p := 1) (e := .inl (cI, 32, .inl (upd e0 i v))) rfl
      have hP9 : va_P D vwCl [(q_nt, .inr (2, [.ref q_en, .ref q_ba, .ref q_de, .int z0, .int p0])), (q_en, .inl (cI, 32, .inl (upd e0 i v))), (q_ba, .inl (cZ, 32, .inl (aB w0))), (q_de, .inl (cI, 8, .inl (upd d0 (i / 4) (d0 (i / 4) + y))))] zs.heap := z_arr hP9 3 rfl ec_de
      have hD9 : va_D A [(q_nt, .inr (2, [.ref q_en, .ref q_ba, .ref q_de, .int z0, .int p0])), (q_en, .inl (cI, 32, .inl (upd e0 i v))), (q_ba, .inl (cZ, 32, .inl (aB w0))), (q_de, .inl (cI, 8, .inl (upd d0 (i / 4) (d0 (i / 4) + y))))] := hD9.set (p := 3) (e := .inl (cI, 8, .inl (upd d0 (i / 4) (d0 (i / 4) + y)))) rfl
      exact W.vret hx hb hr (fun t ht hW => ⟨⟨(), rfl, trivial, by rw [ht]; exact hP9, hD9⟩, hS.F ht⟩) hS.2.2 dX2_setEnd_47
    · replace hw := hwf cc
      refine lv_aload_n hx hb dX2_setEnd_29 rfl (lv_at hl 1 rfl) ?_
      refine va_get (D := D) (ci := 2) (v := .ref q_en) (C := RX2) (T := TX2) (N := 5) hx hb hts i_X2_setEnd_X2 hown hZ.1 hP 0 rfl rfl 0 (by decide) (hts _ m_X2_setEnd_f9) (fun _ h9 => h9) rfl dX2_setEnd_30 ?_
      refine lv_iload_n hx hb dX2_setEnd_33 rfl (lv_at hl 2 rfl) ?_
      refine lv_iload_n hx hb dX2_setEnd_34 rfl (lv_at hl 3 rfl) ?_
      obtain ⟨zh7, hw⟩ := hw
      refine z_iast hx hb hZ.1 hP hD hS 1 0 rfl rfl zh7 (by decide) (g := upd e0 i v) rfl dX2_setEnd_35 (fun H locs hP hD hS => ?_)
      have hP : va_P D vwCl [(q_nt, .inr (2, [.ref q_en, .ref q_ba, .ref q_de, .int z0, .int p0])), (q_en, .inl (cI, 32, .inl (upd e0 i v))), (q_ba, .inl (cZ, 32, .inl (aB w0))), (q_de, .inl (cI, 8, .inl (d0)))] H := hP
      have hD : va_D A [(q_nt, .inr (2, [.ref q_en, .ref q_ba, .ref q_de, .int z0, .int p0])), (q_en, .inl (cI, 32, .inl (upd e0 i v))), (q_ba, .inl (cZ, 32, .inl (aB w0))), (q_de, .inl (cI, 8, .inl (d0)))] := hD
      refine lv_aload_n hx hb dX2_setEnd_36 rfl (lv_at hl 1 rfl) ?_
      refine va_get (D := D) (ci := 2) (v := .ref q_de) (C := RX2) (T := TX2) (N := 5) hx hb hts i_X2_setEnd_X2 hown hZ.1 hP 0 rfl rfl 2 (by decide) (hts _ m_X2_setEnd_f19) (fun _ h9 => h9) rfl dX2_setEnd_37 ?_
      refine lv_iload hx hb dX2_setEnd_40 (lv_at hl 0 rfl) ?_
      refine lv_dup2_11 hx hb dX2_setEnd_42 rfl rfl ?_
      obtain ⟨zh8, hw⟩ := hw
      refine z_iald hx hb hZ.1 hP 3 0 rfl rfl zh8 (by decide) (v := d0 zx3) rfl dX2_setEnd_43 ?_
      refine lv_iload_n hx hb dX2_setEnd_44 rfl (lv_at hl 4 rfl) ?_
      refine z_iadd hx hb rfl dX2_setEnd_45 ?_
      obtain ⟨zh9, hw⟩ := hw
      refine z_iast hx hb hZ.1 hP hD hS 3 0 rfl rfl zh9 (by decide) (g := upd d0 zx3 ((d0 zx3) + y)) rfl dX2_setEnd_46 (fun H locs hP hD hS => ?_)
      have hP : va_P D vwCl [(q_nt, .inr (2, [.ref q_en, .ref q_ba, .ref q_de, .int z0, .int p0])), (q_en, .inl (cI, 32, .inl (upd e0 i v))), (q_ba, .inl (cZ, 32, .inl (aB w0))), (q_de, .inl (cI, 8, .inl (upd d0 zx3 ((d0 zx3) + y))))] H := hP
      have hD : va_D A [(q_nt, .inr (2, [.ref q_en, .ref q_ba, .ref q_de, .int z0, .int p0])), (q_en, .inl (cI, 32, .inl (upd e0 i v))), (q_ba, .inl (cZ, 32, .inl (aB w0))), (q_de, .inl (cI, 8, .inl (upd d0 zx3 ((d0 zx3) + y))))] := hD
      have ec_de := hw
      have hP9 : va_P D vwCl [(q_nt, .inr (2, [.ref q_en, .ref q_ba, .ref q_de, .int z0, .int p0])), (q_en, .inl (cI, 32, .inl (upd e0 i v))), (q_ba, .inl (cZ, 32, .inl (aB w0))), (q_de, .inl (cI, 8, .inl (upd d0 zx3 ((d0 zx3) + y))))] H := hP.sub [0, 1, 2, 3] rfl
      have hD9 : va_D A [(q_nt, .inr (2, [.ref q_en, .ref q_ba, .ref q_de, .int z0, .int p0])), (q_en, .inl (cI, 32, .inl (upd e0 i v))), (q_ba, .inl (cZ, 32, .inl (aB w0))), (q_de, .inl (cI, 8, .inl (upd d0 zx3 ((d0 zx3) + y))))] := hD.sub [0, 1, 2, 3] (by decide) rfl
      have hP9 : va_P D vwCl [(q_nt, .inr (2, [.ref q_en, .ref q_ba, .ref q_de, .int z0, .int p0])), (q_en, .inl (cI, 32, .inl (upd e0 i v))), (q_ba, .inl (cZ, 32, .inl (aB w0))), (q_de, .inl (cI, 8, .inl (upd d0 (i / 4) (d0 (i / 4) + y))))] H := z_arr hP9 3 rfl ec_de
      have hD9 : va_D A [(q_nt, .inr (2, [.ref q_en, .ref q_ba, .ref q_de, .int z0, .int p0])), (q_en, .inl (cI, 32, .inl (upd e0 i v))), (q_ba, .inl (cZ, 32, .inl (aB w0))), (q_de, .inl (cI, 8, .inl (upd d0 (i / 4) (d0 (i / 4) + y))))] := hD9.set (p := 3) (e := .inl (cI, 8, .inl (upd d0 (i / 4) (d0 (i / 4) + y)))) rfl
      exact W.vret hx hb hr (fun t ht hW => ⟨⟨(), rfl, trivial, by rw [ht]; exact hP9, hD9⟩, hS.F ht⟩) hS.2.2 dX2_setEnd_47
theorem m_X2_tie_f30 : Cond.fieldLink RX2 30 "NetWalkers$Net" "pairs" "I" ∈ wsX2_tie := by decide +kernel
theorem i_X2_tie_X2 : ∀ w ∈ wsX20, w ∈ wsX2_tie := by decide +kernel
set_option maxRecDepth 100000 in
set_option maxHeartbeats 4000000 in
theorem w_X2_tie {l : Launch} {D : va_G} {cI cZ : ClassId} (k_X2_setEnd : K_X2_setEnd l D cI cZ) (vv : V_X2_tie) : K_X2_tie l D cI cZ := by
  intro q_nt q_en q_ba q_de sz n t w i j hpre0 hpre1 hpre2 hpre3 hpre4 hpre5
  have vw := vv n t w i j hpre0 hpre1 hpre2 hpre3 hpre4 hpre5
  refine Met.ofW (cc := cX2_tie) (maxL := 3) (ret := none) (by decide) rfl ?_
  intro zp ze zs zm zargs zbelow zmeth zc zs1 B hml hv
  obtain ⟨rfl, hsz, hZ, hP, hD0⟩ := hv
  have hx := B.exec
  have hb := B.bytes
  have hr := B.returns
  have hts := atoms_spec (ws := wsX2_tie) B.pre
  have hown : zs.vm.findClass RX2 = some zm.cls := findClass_of_methodNamed B.named
  have hlocks := B.notSynchronized
  subst hsz
  have hD := hD0.self (sz := zs.heap.size)
  generalize hAe : va_A [(q_nt, .inr (2, [.ref q_en, .ref q_ba, .ref q_de, .int (nI n), .int (nI (prs t))])), (q_en, .inl (cI, 32, .inl (aE t))), (q_ba, .inl (cZ, 32, .inl (aB w))), (q_de, .inl (cI, 8, .inl (aN (dg t))))] zs.heap.size = A at hD ⊢
  have hA : ∀ q : Nat, zs.heap.size ≤ q → A q := fun q h => by rw [← hAe]; exact Or.inr h
  have hS : va_S A zs.heap zs.heap [] := va_S.rf
  have hP : va_P D vwCl [(q_nt, .inr (2, [.ref q_en, .ref q_ba, .ref q_de, .int (nI n), .int (nI (prs t))])), (q_en, .inl (cI, 32, .inl (aE t))), (q_ba, .inl (cZ, 32, .inl (aB w))), (q_de, .inl (cI, 8, .inl (aN (dg t))))] zs.heap := hP
  have hl := lv_entry ([.ref q_nt, .int (nI i), .int (nI j)]) (n := 3) (Nat.le_of_ble_eq_true rfl)
  rw [lg_entry_eq]
  generalize (lg_sl ([.ref q_nt, .int (nI i), .int (nI j)]) ++ List.replicate (3 - (lg_sl ([.ref q_nt, .int (nI i), .int (nI j)])).length) Slot.unset).toArray = ls at hl ⊢
  have hl : lv_has ls 3 [(0, .ref q_nt), (1, .int (nI i)), (2, .int (nI j))] := hl
  have hw := vw
  unfold B_X2_tie_in at hw
  refine lv_aload_n hx hb dX2_tie_0 rfl (lv_at hl 0 rfl) ?_
  refine lv_iload_n hx hb dX2_tie_1 rfl (lv_at hl 1 rfl) ?_
  refine lv_iload_n hx hb dX2_tie_2 rfl (lv_at hl 2 rfl) ?_
  refine lv_iconst (v := nI 1) hx hb dX2_tie_3 (by decide +kernel) ?_
  obtain ⟨zh1, hw⟩ := hw
  have hPc : va_P D vwCl [(q_nt, .inr (2, [.ref q_en, .ref q_ba, .ref q_de, .int (nI n), .int (nI (prs t))])), (q_en, .inl (cI, 32, .inl ((aE t)))), (q_ba, .inl (cZ, 32, .inl (aB w))), (q_de, .inl (cI, 8, .inl ((aN (dg t)))))] zs.heap := hP.sub [0, 1, 2, 3] rfl
  have hDc : va_D A [(q_nt, .inr (2, [.ref q_en, .ref q_ba, .ref q_de, .int (nI n), .int (nI (prs t))])), (q_en, .inl (cI, 32, .inl ((aE t)))), (q_ba, .inl (cZ, 32, .inl (aB w))), (q_de, .inl (cI, 8, .inl ((aN (dg t)))))] := hD.sub [0, 1, 2, 3] (by decide) rfl
  have hFc := va_free (wc := [(q_nt, .inr (2, [.ref q_en, .ref q_ba, .ref q_de, .int (nI n), .int (nI (prs t))])), (q_en, .inl (cI, 32, .inl ((aE t)))), (q_ba, .inl (cZ, 32, .inl (aB w))), (q_de, .inl (cI, 8, .inl ((aN (dg t)))))]) hD hS hA [0, 1, 2, 3] rfl
  refine va_callv (va_runV (As := [.int (nI i), .int (nI j), .int (nI 1)]) (rest := []) ⟨hx, hb, hml, hown, hts⟩ (k_X2_setEnd q_nt q_en q_ba q_de zs.heap.size (aE t) w (aN (dg t)) (nI n) (nI (prs t)) i (nI j) (nI 1) zh1) (cwV 3 hts gX2_tie_X2_setEnd rfl rfl rfl (by decide +kernel) ⟨Nat.le_of_ble_eq_true rfl, Nat.le_of_ble_eq_true rfl⟩) (zPw_V hZ hPc (hDc.weaken (fun _ _ _ _ => trivial)) 0 rfl rfl) rfl rfl hl.1 rfl (lv_room (Nat.le_of_ble_eq_true rfl)) dX2_tie_4 ⟨Nat.zero_le _, Nat.zero_le _⟩) hS (fun q _ h => hFc q h) hFc (fun zu zt H1 locs1 ht hvm hq hB hz1 hk1 hS => ?_)
  obtain ⟨hP1, hD1⟩ := hB
  rw [ht] at hP1
  obtain ⟨hP, hD⟩ := va_join (wr := []) (w1 := [(q_nt, .inr (2, [.ref q_en, .ref q_ba, .ref q_de, .int (nI n), .int (nI (prs t))])), (q_en, .inl (cI, 32, .inl (upd (aE t) i (nI j)))), (q_ba, .inl (cZ, 32, .inl (aB w))), (q_de, .inl (cI, 8, .inl (upd (aN (dg t)) (i / 4) ((aN (dg t)) (i / 4) + (nI 1)))))]) hP hD [0, 1, 2, 3] [] rfl rfl (by decide) (by decide) hk1 hFc hP1 hD1
  have hP : va_P D vwCl [(q_nt, .inr (2, [.ref q_en, .ref q_ba, .ref q_de, .int (nI n), .int (nI (prs t))])), (q_en, .inl (cI, 32, .inl (upd (aE t) i (nI j)))), (q_ba, .inl (cZ, 32, .inl (aB w))), (q_de, .inl (cI, 8, .inl (upd (aN (dg t)) (i / 4) ((aN (dg t)) (i / 4) + (nI 1)))))] H1 := hP
  have hD : va_D A [(q_nt, .inr (2, [.ref q_en, .ref q_ba, .ref q_de, .int (nI n), .int (nI (prs t))])), (q_en, .inl (cI, 32, .inl (upd (aE t) i (nI j)))), (q_ba, .inl (cZ, 32, .inl (aB w))), (q_de, .inl (cI, 8, .inl (upd (aN (dg t)) (i / 4) ((aN (dg t)) (i / 4) + (nI 1)))))] := hD
  clear hP1 hD1 hk1 hz1 hFc hDc hPc ht hvm
  refine lv_aload_n hx hb dX2_tie_7 rfl (lv_at hl 0 rfl) ?_
  refine lv_iload_n hx hb dX2_tie_8 rfl (lv_at hl 2 rfl) ?_
  refine lv_iload_n hx hb dX2_tie_9 rfl (lv_at hl 1 rfl) ?_
  refine lv_iconst (v := nI 1) hx hb dX2_tie_10 (by decide +kernel) ?_
  obtain ⟨zh3, hw⟩ := hw
  have hPc : va_P D vwCl [(q_nt, .inr (2, [.ref q_en, .ref q_ba, .ref q_de, .int (nI n), .int (nI (prs t))])), (q_en, .inl (cI, 32, .inl ((upd (aE t) i (nI j))))), (q_ba, .inl (cZ, 32, .inl (aB w))), (q_de, .inl (cI, 8, .inl ((upd (aN (dg t)) (i / 4) ((aN (dg t)) (i / 4) + (nI 1))))))] H1 := hP.sub [0, 1, 2, 3] rfl
  have hDc : va_D A [(q_nt, .inr (2, [.ref q_en, .ref q_ba, .ref q_de, .int (nI n), .int (nI (prs t))])), (q_en, .inl (cI, 32, .inl ((upd (aE t) i (nI j))))), (q_ba, .inl (cZ, 32, .inl (aB w))), (q_de, .inl (cI, 8, .inl ((upd (aN (dg t)) (i / 4) ((aN (dg t)) (i / 4) + (nI 1))))))] := hD.sub [0, 1, 2, 3] (by decide) rfl
  have hFc := va_free (wc := [(q_nt, .inr (2, [.ref q_en, .ref q_ba, .ref q_de, .int (nI n), .int (nI (prs t))])), (q_en, .inl (cI, 32, .inl ((upd (aE t) i (nI j))))), (q_ba, .inl (cZ, 32, .inl (aB w))), (q_de, .inl (cI, 8, .inl ((upd (aN (dg t)) (i / 4) ((aN (dg t)) (i / 4) + (nI 1))))))]) hD hS hA [0, 1, 2, 3] rfl
  refine va_callv (va_runV (As := [.int (nI j), .int (nI i), .int (nI 1)]) (rest := []) ⟨hx, hb, hml, hown, hts⟩ (k_X2_setEnd q_nt q_en q_ba q_de H1.size (upd (aE t) i (nI j)) w (upd (aN (dg t)) (i / 4) ((aN (dg t)) (i / 4) + (nI 1))) (nI n) (nI (prs t)) j (nI i) (nI 1) zh3) (cwV 3 hts gX2_tie_X2_setEnd rfl rfl rfl (by decide +kernel) ⟨Nat.le_of_ble_eq_true rfl, Nat.le_of_ble_eq_true rfl⟩) (zPw_V hZ hPc (hDc.weaken (fun _ _ _ _ => trivial)) 0 rfl rfl) rfl rfl hl.1 rfl (lv_room (Nat.le_of_ble_eq_true rfl)) dX2_tie_11 ⟨Nat.zero_le _, Nat.zero_le _⟩) hS (fun q _ h => hFc q h) hFc (fun zu zt H1 locs1 ht hvm hq hB hz1 hk1 hS => ?_)
  obtain ⟨hP1, hD1⟩ := hB
  rw [ht] at hP1
  obtain ⟨hP, hD⟩ := va_join (wr := []) (w1 := [(q_nt, .inr (2, [.ref q_en, .ref q_ba, .ref q_de, .int (nI n), .int (nI (prs t))])), (q_en, .inl (cI, 32, .inl (upd (upd (aE t) i (nI j)) j (nI i)))), (q_ba, .inl (cZ, 32, .inl (aB w))), (q_de, .inl (cI, 8, .inl (upd (upd (aN (dg t)) (i / 4) ((aN (dg t)) (i / 4) + (nI 1))) (j / 4) ((upd (aN (dg t)) (i / 4) ((aN (dg t)) (i / 4) + (nI 1))) (j / 4) + (nI 1)))))]) hP hD [0, 1, 2, 3] [] rfl rfl (by decide) (by decide) hk1 hFc hP1 hD1
  have hP : va_P D vwCl [(q_nt, .inr (2, [.ref q_en, .ref q_ba, .ref q_de, .int (nI n), .int (nI (prs t))])), (q_en, .inl (cI, 32, .inl (upd (upd (aE t) i (nI j)) j (nI i)))), (q_ba, .inl (cZ, 32, .inl (aB w))), (q_de, .inl (cI, 8, .inl (upd (upd (aN (dg t)) (i / 4) ((aN (dg t)) (i / 4) + (nI 1))) (j / 4) ((upd (aN (dg t)) (i / 4) ((aN (dg t)) (i / 4) + (nI 1))) (j / 4) + (nI 1)))))] H1 := hP
  have hD : va_D A [(q_nt, .inr (2, [.ref q_en, .ref q_ba, .ref q_de, .int (nI n), .int (nI (prs t))])), (q_en, .inl (cI, 32, .inl (upd (upd (aE t) i (nI j)) j (nI i)))), (q_ba, .inl (cZ, 32, .inl (aB w))), (q_de, .inl (cI, 8, .inl (upd (upd (aN (dg t)) (i / 4) ((aN (dg t)) (i / 4) + (nI 1))) (j / 4) ((upd (aN (dg t)) (i / 4) ((aN (dg t)) (i / 4) + (nI 1))) (j / 4) + (nI 1)))))] := hD
  clear hP1 hD1 hk1 hz1 hFc hDc hPc ht hvm
  refine lv_aload_n hx hb dX2_tie_14 rfl (lv_at hl 0 rfl) ?_
  refine lv_dup hx hb dX2_tie_15 rfl ?_
  refine va_get (D := D) (ci := 2) (v := .int (nI (prs t))) (C := RX2) (T := TX2) (N := 5) hx hb hts i_X2_tie_X2 hown hZ.1 hP 0 rfl rfl 4 (by decide) (hts _ m_X2_tie_f30) (fun _ h9 => h9) rfl dX2_tie_16 ?_
  refine lv_iconst (v := nI 1) hx hb dX2_tie_19 (by decide +kernel) ?_
  refine z_iadd hx hb (nI_add _ _) dX2_tie_20 ?_
  refine va_put (D := D) (ci := 2) (v := .int (nI ((prs t) + 1))) (ty := .int) (C := RX2) (T := TX2) (N := 5) hx hb hts i_X2_tie_X2 tyX2 tyX2_ok nmX2 hown hZ.1 hP hD hS 0 rfl rfl 4 (by decide) (hts _ m_X2_tie_f30) (fun _ h9 => h9) rfl (by decide +kernel) rfl rfl (Nat.le_of_ble_eq_true rfl) dX2_tie_21 (fun H locs hP hD hS => ?_)
  have hP : va_P D vwCl [(q_nt, .inr (2, [.ref q_en, .ref q_ba, .ref q_de, .int (nI n), .int (nI ((prs t) + 1))])), (q_en, .inl (cI, 32, .inl (upd (upd (aE t) i (nI j)) j (nI i)))), (q_ba, .inl (cZ, 32, .inl (aB w))), (q_de, .inl (cI, 8, .inl (upd (upd (aN (dg t)) (i / 4) ((aN (dg t)) (i / 4) + (nI 1))) (j / 4) ((upd (aN (dg t)) (i / 4) ((aN (dg t)) (i / 4) + (nI 1))) (j / 4) + (nI 1)))))] H := hP
  have hD : va_D A [(q_nt, .inr (2, [.ref q_en, .ref q_ba, .ref q_de, .int (nI n), .int (nI ((prs t) + 1))])), (q_en, .inl (cI, 32, .inl (upd (upd (aE t) i (nI j)) j (nI i)))), (q_ba, .inl (cZ, 32, .inl (aB w))), (q_de, .inl (cI, 8, .inl (upd (upd (aN (dg t)) (i / 4) ((aN (dg t)) (i / 4) + (nI 1))) (j / 4) ((upd (aN (dg t)) (i / 4) ((aN (dg t)) (i / 4) + (nI 1))) (j / 4) + (nI 1)))))] := hD
  obtain ⟨ec_en, ec_de, ec_pr⟩ := hw
  have hP9 : va_P D vwCl [(q_nt, .inr (2, [.ref q_en, .ref q_ba, .ref q_de, .int (nI n), .int (nI ((prs t) + 1))])), (q_en, .inl (cI, 32, .inl (upd (upd (aE t) i (nI j)) j (nI i)))), (q_ba, .inl (cZ, 32, .inl (aB w))), (q_de, .inl (cI, 8, .inl (upd (upd (aN (dg t)) (i / 4) ((aN (dg t)) (i / 4) + (nI 1))) (j / 4) ((upd (aN (dg t)) (i / 4) ((aN (dg t)) (i / 4) + (nI 1))) (j / 4) + (nI 1)))))] H := hP.sub [0, 1, 2, 3] rfl
  have hD9 : va_D A [(q_nt, .inr (2, [.ref q_en, .ref q_ba, .ref q_de, .int (nI n), .int (nI ((prs t) + 1))])), (q_en, .inl (cI, 32, .inl (upd (upd (aE t) i (nI j)) j (nI i)))), (q_ba, .inl (cZ, 32, .inl (aB w))), (q_de, .inl (cI, 8, .inl (upd (upd (aN (dg t)) (i / 4) ((aN (dg t)) (i / 4) + (nI 1))) (j / 4) ((upd (aN (dg t)) (i / 4) ((aN (dg t)) (i / 4) + (nI 1))) (j / 4) + (nI 1)))))] := hD.sub [0, 1, 2, 3] (by decide) rfl
  have hP9 : va_P D vwCl [(q_nt, .inr (2, [.ref q_en, .ref q_ba, .ref q_de, .int (nI n), .int (nI ((prs t) + 1))])), (q_en, .inl (cI, 32, .inl (aE (tie t i j)))), (q_ba, .inl (cZ, 32, .inl (aB w))), (q_de, .inl (cI, 8, .inl (upd (upd (aN (dg t)) (i / 4) ((aN (dg t)) (i / 4) + (nI 1))) (j / 4) ((upd (aN (dg t)) (i / 4) ((aN (dg t)) (i / 4) + (nI 1))) (j / 4) + (nI 1)))))] H := z_arr hP9 1 rfl ec_en
  have hD9 : va_D A [(q_nt, .inr (2, [.ref q_en, .ref q_ba, .ref q_de, .int (nI n), .int (nI ((prs t) + 1))])), (q_en, .inl (cI, 32, .inl (aE (tie t i j)))), (q_ba, .inl (cZ, 32, .inl (aB w))), (q_de, .inl (cI, 8, .inl (upd (upd (aN (dg t)) (i / 4) ((aN (dg t)) (i / 4) + (nI 1))) (j / 4) ((upd (aN (dg t)) (i / 4) ((aN (dg t)) (i / 4) + (nI 1))) (j / 4) + (nI 1)))))] := hD9.set (p := 1) (e := .inl (cI, 32, .inl (aE (tie t i j)))) rfl
  have hP9 : va_P D vwCl [(q_nt, .inr (2, [.ref q_en, .ref q_ba, .ref q_de, .int (nI n), .int (nI ((prs t) + 1))])), (q_en, .inl (cI, 32, .inl (aE (tie t i j)))), (q_ba, .inl (cZ, 32, .inl (aB w))), (q_de, .inl (cI, 8, .inl (aN (dg (tie t i j)))))] H := z_arr hP9 3 rfl ec_de
  have hD9 : va_D A [(q_nt, .inr (2, [.ref q_en, .ref q_ba, .ref q_de, .int (nI n), .int (nI ((prs t) + 1))])), (q_en, .inl (cI, 32, .inl (aE (tie t i j)))), (q_ba, .inl (cZ, 32, .inl (aB w))), (q_de, .inl (cI, 8, .inl (aN (dg (tie t i j)))))] := hD9.set (p := 3) (e := .inl (cI, 8, .inl (aN (dg (tie t i j))))) rfl
  have hP9 : va_P D vwCl [(q_nt, .inr (2, [.ref q_en, .ref q_ba, .ref q_de, .int (nI n), .int (nI (prs (tie t i j)))])), (q_en, .inl (cI, 32, .inl (aE (tie t i j)))), (q_ba, .inl (cZ, 32, .inl (aB w))), (q_de, .inl (cI, 8, .inl (aN (dg (tie t i j)))))] H := (congrArg (fun z9 : Nat => va_P D vwCl [(q_nt, .inr (2, [.ref q_en, .ref q_ba, .ref q_de, .int (nI n), .int (nI z9)])), (q_en, .inl (cI, 32, .inl (aE (tie t i j)))), (q_ba, .inl (cZ, 32, .inl (aB w))), (q_de, .inl (cI, 8, .inl (aN (dg (tie t i j)))))] H) ec_pr).mp hP9
  have hD9 : va_D A [(q_nt, .inr (2, [.ref q_en, .ref q_ba, .ref q_de, .int (nI n), .int (nI (prs (tie t i j)))])), (q_en, .inl (cI, 32, .inl (aE (tie t i j)))), (q_ba, .inl (cZ, 32, .inl (aB w))), (q_de, .inl (cI, 8, .inl (aN (dg (tie t i j)))))] := (congrArg (fun z9 : Nat => va_D A [(q_nt, .inr (2, [.ref q_en, .ref q_ba, .ref q_de, .int (nI n), .int (nI z9)])), (q_en, .inl (cI, 32, .inl (aE (tie t i j)))), (q_ba, .inl (cZ, 32, .inl (aB w))), (q_de, .inl (cI, 8, .inl (aN (dg (tie t i j)))))]) ec_pr).mp hD9
  exact W.vret hx hb hr (fun t ht hW => ⟨⟨(), rfl, trivial, by rw [ht]; exact hP9, hD9⟩, hS.F ht⟩) hS.2.2 dX2_tie_24
theorem m_X2_untie_f30 : Cond.fieldLink RX2 30 "NetWalkers$Net" "pairs" "I" ∈ wsX2_untie := by decide +kernel
theorem i_X2_untie_X2 : ∀ w ∈ wsX20, w ∈ wsX2_untie := by decide +kernel
set_option maxRecDepth 100000 in
set_option maxHeartbeats 4000000 in
theorem w_X2_untie {l : Launch} {D : va_G} {cI cZ : ClassId} (k_X2_setEnd : K_X2_setEnd l D cI cZ) (vv : V_X2_untie) : K_X2_untie l D cI cZ := by
  intro q_nt q_en q_ba q_de sz n t w i j hpre0 hpre1 hpre2 hpre3
  have vw := vv n t w i j hpre0 hpre1 hpre2 hpre3
  refine Met.ofW (cc := cX2_untie) (maxL := 3) (ret := none) (by decide) rfl ?_
  intro zp ze zs zm zargs zbelow zmeth zc zs1 B hml hv
  obtain ⟨rfl, hsz, hZ, hP, hD0⟩ := hv
  have hx := B.exec
  have hb := B.bytes
  have hr := B.returns
  have hts := atoms_spec (ws := wsX2_untie) B.pre
  have hown : zs.vm.findClass RX2 = some zm.cls := findClass_of_methodNamed B.named
  have hlocks := B.notSynchronized
  subst hsz
  have hD := hD0.self (sz := zs.heap.size)
  generalize hAe : va_A [(q_nt, .inr (2, [.ref q_en, .ref q_ba, .ref q_de, .int (nI n), .int (nI (prs t))])), (q_en, .inl (cI, 32, .inl (aE t))), (q_ba, .inl (cZ, 32, .inl (aB w))), (q_de, .inl (cI, 8, .inl (aN (dg t))))] zs.heap.size = A at hD ⊢
  have hA : ∀ q : Nat, zs.heap.size ≤ q → A q := fun q h => by rw [← hAe]; exact Or.inr h
  have hS : va_S A zs.heap zs.heap [] := va_S.rf
  have hP : va_P D vwCl [(q_nt, .inr (2, [.ref q_en, .ref q_ba, .ref q_de, .int (nI n), .int (nI (prs t))])), (q_en, .inl (cI, 32, .inl (aE t))), (q_ba, .inl (cZ, 32, .inl (aB w))), (q_de, .inl (cI, 8, .inl (aN (dg t))))] zs.heap := hP
  have hl := lv_entry ([.ref q_nt, .int (nI i), .int (nI j)]) (n := 3) (Nat.le_of_ble_eq_true rfl)
  rw [lg_entry_eq]
  generalize (lg_sl ([.ref q_nt, .int (nI i), .int (nI j)]) ++ List.replicate (3 - (lg_sl ([.ref q_nt, .int (nI i), .int (nI j)])).length) Slot.unset).toArray = ls at hl ⊢
  have hl : lv_has ls 3 [(0, .ref q_nt), (1, .int (nI i)), (2, .int (nI j))] := hl
  have hw := vw
  unfold B_X2_untie_in at hw
  refine lv_aload_n hx hb dX2_untie_0 rfl (lv_at hl 0 rfl) ?_
  refine lv_iload_n hx hb dX2_untie_1 rfl (lv_at hl 1 rfl) ?_
  refine lv_iconst (v := (-1)) hx hb dX2_untie_2 (by decide +kernel) ?_
  refine lv_iconst (v := (-1)) hx hb dX2_untie_3 (by decide +kernel) ?_
  obtain ⟨zh1, hw⟩ := hw
  have hPc : va_P D vwCl [(q_nt, .inr (2, [.ref q_en, .ref q_ba, .ref q_de, .int (nI n), .int (nI (prs t))])), (q_en, .inl (cI, 32, .inl ((aE t)))), (q_ba, .inl (cZ, 32, .inl (aB w))), (q_de, .inl (cI, 8, .inl ((aN (dg t)))))] zs.heap := hP.sub [0, 1, 2, 3] rfl
  have hDc : va_D A [(q_nt, .inr (2, [.ref q_en, .ref q_ba, .ref q_de, .int (nI n), .int (nI (prs t))])), (q_en, .inl (cI, 32, .inl ((aE t)))), (q_ba, .inl (cZ, 32, .inl (aB w))), (q_de, .inl (cI, 8, .inl ((aN (dg t)))))] := hD.sub [0, 1, 2, 3] (by decide) rfl
  have hFc := va_free (wc := [(q_nt, .inr (2, [.ref q_en, .ref q_ba, .ref q_de, .int (nI n), .int (nI (prs t))])), (q_en, .inl (cI, 32, .inl ((aE t)))), (q_ba, .inl (cZ, 32, .inl (aB w))), (q_de, .inl (cI, 8, .inl ((aN (dg t)))))]) hD hS hA [0, 1, 2, 3] rfl
  refine va_callv (va_runV (As := [.int (nI i), .int (-1), .int (-1)]) (rest := []) ⟨hx, hb, hml, hown, hts⟩ (k_X2_setEnd q_nt q_en q_ba q_de zs.heap.size (aE t) w (aN (dg t)) (nI n) (nI (prs t)) i (-1) (-1) zh1) (cwV 3 hts gX2_untie_X2_setEnd rfl rfl rfl (by decide +kernel) ⟨Nat.le_of_ble_eq_true rfl, Nat.le_of_ble_eq_true rfl⟩) (zPw_V hZ hPc (hDc.weaken (fun _ _ _ _ => trivial)) 0 rfl rfl) rfl rfl hl.1 rfl (lv_room (Nat.le_of_ble_eq_true rfl)) dX2_untie_4 ⟨Nat.zero_le _, Nat.zero_le _⟩) hS (fun q _ h => hFc q h) hFc (fun zu zt H1 locs1 ht hvm hq hB hz1 hk1 hS => ?_)
  obtain ⟨hP1, hD1⟩ := hB
  rw [ht] at hP1
  obtain ⟨hP, hD⟩ := va_join (wr := []) (w1 := [(q_nt, .inr (2, [.ref q_en, .ref q_ba, .ref q_de, .int (nI n), .int (nI (prs t))])), (q_en, .inl (cI, 32, .inl (upd (aE t) i (-1)))), (q_ba, .inl (cZ, 32, .inl (aB w))), (q_de, .inl (cI, 8, .inl (upd (aN (dg t)) (i / 4) ((aN (dg t)) (i / 4) + (-1)))))]) hP hD [0, 1, 2, 3] [] rfl rfl (by decide) (by decide) hk1 hFc hP1 hD1
  have hP : va_P D vwCl [(q_nt, .inr (2, [.ref q_en, .ref q_ba, .ref q_de, .int (nI n), .int (nI (prs t))])), (q_en, .inl (cI, 32, .inl (upd (aE t) i (-1)))), (q_ba, .inl (cZ, 32, .inl (aB w))), (q_de, .inl (cI, 8, .inl (upd (aN (dg t)) (i / 4) ((aN (dg t)) (i / 4) + (-1)))))] H1 := hP
  have hD : va_D A [(q_nt, .inr (2, [.ref q_en, .ref q_ba, .ref q_de, .int (nI n), .int (nI (prs t))])), (q_en, .inl (cI, 32, .inl (upd (aE t) i (-1)))), (q_ba, .inl (cZ, 32, .inl (aB w))), (q_de, .inl (cI, 8, .inl (upd (aN (dg t)) (i / 4) ((aN (dg t)) (i / 4) + (-1)))))] := hD
  clear hP1 hD1 hk1 hz1 hFc hDc hPc ht hvm
  refine lv_aload_n hx hb dX2_untie_7 rfl (lv_at hl 0 rfl) ?_
  refine lv_iload_n hx hb dX2_untie_8 rfl (lv_at hl 2 rfl) ?_
  refine lv_iconst (v := (-1)) hx hb dX2_untie_9 (by decide +kernel) ?_
  refine lv_iconst (v := (-1)) hx hb dX2_untie_10 (by decide +kernel) ?_
  obtain ⟨zh3, hw⟩ := hw
  have hPc : va_P D vwCl [(q_nt, .inr (2, [.ref q_en, .ref q_ba, .ref q_de, .int (nI n), .int (nI (prs t))])), (q_en, .inl (cI, 32, .inl ((upd (aE t) i (-1))))), (q_ba, .inl (cZ, 32, .inl (aB w))), (q_de, .inl (cI, 8, .inl ((upd (aN (dg t)) (i / 4) ((aN (dg t)) (i / 4) + (-1))))))] H1 := hP.sub [0, 1, 2, 3] rfl
  have hDc : va_D A [(q_nt, .inr (2, [.ref q_en, .ref q_ba, .ref q_de, .int (nI n), .int (nI (prs t))])), (q_en, .inl (cI, 32, .inl ((upd (aE t) i (-1))))), (q_ba, .inl (cZ, 32, .inl (aB w))), (q_de, .inl (cI, 8, .inl ((upd (aN (dg t)) (i / 4) ((aN (dg t)) (i / 4) + (-1))))))] := hD.sub [0, 1, 2, 3] (by decide) rfl
  have hFc := va_free (wc := [(q_nt, .inr (2, [.ref q_en, .ref q_ba, .ref q_de, .int (nI n), .int (nI (prs t))])), (q_en, .inl (cI, 32, .inl ((upd (aE t) i (-1))))), (q_ba, .inl (cZ, 32, .inl (aB w))), (q_de, .inl (cI, 8, .inl ((upd (aN (dg t)) (i / 4) ((aN (dg t)) (i / 4) + (-1))))))]) hD hS hA [0, 1, 2, 3] rfl
  refine va_callv (va_runV (As := [.int (nI j), .int (-1), .int (-1)]) (rest := []) ⟨hx, hb, hml, hown, hts⟩ (k_X2_setEnd q_nt q_en q_ba q_de H1.size (upd (aE t) i (-1)) w (upd (aN (dg t)) (i / 4) ((aN (dg t)) (i / 4) + (-1))) (nI n) (nI (prs t)) j (-1) (-1) zh3) (cwV 3 hts gX2_untie_X2_setEnd rfl rfl rfl (by decide +kernel) ⟨Nat.le_of_ble_eq_true rfl, Nat.le_of_ble_eq_true rfl⟩) (zPw_V hZ hPc (hDc.weaken (fun _ _ _ _ => trivial)) 0 rfl rfl) rfl rfl hl.1 rfl (lv_room (Nat.le_of_ble_eq_true rfl)) dX2_untie_11 ⟨Nat.zero_le _, Nat.zero_le _⟩) hS (fun q _ h => hFc q h) hFc (fun zu zt H1 locs1 ht hvm hq hB hz1 hk1 hS => ?_)
  obtain ⟨hP1, hD1⟩ := hB
  rw [ht] at hP1
  obtain ⟨hP, hD⟩ := va_join (wr := []) (w1 := [(q_nt, .inr (2, [.ref q_en, .ref q_ba, .ref q_de, .int (nI n), .int (nI (prs t))])), (q_en, .inl (cI, 32, .inl (upd (upd (aE t) i (-1)) j (-1)))), (q_ba, .inl (cZ, 32, .inl (aB w))), (q_de, .inl (cI, 8, .inl (upd (upd (aN (dg t)) (i / 4) ((aN (dg t)) (i / 4) + (-1))) (j / 4) ((upd (aN (dg t)) (i / 4) ((aN (dg t)) (i / 4) + (-1))) (j / 4) + (-1)))))]) hP hD [0, 1, 2, 3] [] rfl rfl (by decide) (by decide) hk1 hFc hP1 hD1
  have hP : va_P D vwCl [(q_nt, .inr (2, [.ref q_en, .ref q_ba, .ref q_de, .int (nI n), .int (nI (prs t))])), (q_en, .inl (cI, 32, .inl (upd (upd (aE t) i (-1)) j (-1)))), (q_ba, .inl (cZ, 32, .inl (aB w))), (q_de, .inl (cI, 8, .inl (upd (upd (aN (dg t)) (i / 4) ((aN (dg t)) (i / 4) + (-1))) (j / 4) ((upd (aN (dg t)) (i / 4) ((aN (dg t)) (i / 4) + (-1))) (j / 4) + (-1)))))] H1 := hP
  have hD : va_D A [(q_nt, .inr (2, [.ref q_en, .ref q_ba, .ref q_de, .int (nI n), .int (nI (prs t))])), (q_en, .inl (cI, 32, .inl (upd (upd (aE t) i (-1)) j (-1)))), (q_ba, .inl (cZ, 32, .inl (aB w))), (q_de, .inl (cI, 8, .inl (upd (upd (aN (dg t)) (i / 4) ((aN (dg t)) (i / 4) + (-1))) (j / 4) ((upd (aN (dg t)) (i / 4) ((aN (dg t)) (i / 4) + (-1))) (j / 4) + (-1)))))] := hD
  clear hP1 hD1 hk1 hz1 hFc hDc hPc ht hvm
  refine lv_aload_n hx hb dX2_untie_14 rfl (lv_at hl 0 rfl) ?_
  refine lv_dup hx hb dX2_untie_15 rfl ?_
  refine va_get (D := D) (ci := 2) (v := .int (nI (prs t))) (C := RX2) (T := TX2) (N := 5) hx hb hts i_X2_untie_X2 hown hZ.1 hP 0 rfl rfl 4 (by decide) (hts _ m_X2_untie_f30) (fun _ h9 => h9) rfl dX2_untie_16 ?_
  refine lv_iconst (v := nI 1) hx hb dX2_untie_19 (by decide +kernel) ?_
  obtain ⟨zh5, hw⟩ := hw
  refine z_isub hx hb (pk_sub zh5) dX2_untie_20 ?_
  refine va_put (D := D) (ci := 2) (v := .int (nI ((prs t) - 1))) (ty := .int) (C := RX2) (T := TX2) (N := 5) hx hb hts i_X2_untie_X2 tyX2 tyX2_ok nmX2 hown hZ.1 hP hD hS 0 rfl rfl 4 (by decide) (hts _ m_X2_untie_f30) (fun _ h9 => h9) rfl (by decide +kernel) rfl rfl (Nat.le_of_ble_eq_true rfl) dX2_untie_21 (fun H locs hP hD hS => ?_)
  have hP : va_P D vwCl [(q_nt, .inr (2, [.ref q_en, .ref q_ba, .ref q_de, .int (nI n), .int (nI ((prs t) - 1))])), (q_en, .inl (cI, 32, .inl (upd (upd (aE t) i (-1)) j (-1)))), (q_ba, .inl (cZ, 32, .inl (aB w))), (q_de, .inl (cI, 8, .inl (upd (upd (aN (dg t)) (i / 4) ((aN (dg t)) (i / 4) + (-1))) (j / 4) ((upd (aN (dg t)) (i / 4) ((aN (dg t)) (i / 4) + (-1))) (j / 4) + (-1)))))] H := hP
  have hD : va_D A [(q_nt, .inr (2, [.ref q_en, .ref q_ba, .ref q_de, .int (nI n), .int (nI ((prs t) - 1))])), (q_en, .inl (cI, 32, .inl (upd (upd (aE t) i (-1)) j (-1)))), (q_ba, .inl (cZ, 32, .inl (aB w))), (q_de, .inl (cI, 8, .inl (upd (upd (aN (dg t)) (i / 4) ((aN (dg t)) (i / 4) + (-1))) (j / 4) ((upd (aN (dg t)) (i / 4) ((aN (dg t)) (i / 4) + (-1))) (j / 4) + (-1)))))] := hD
  obtain ⟨ec_en, ec_de, ec_pr⟩ := hw
  have hP9 : va_P D vwCl [(q_nt, .inr (2, [.ref q_en, .ref q_ba, .ref q_de, .int (nI n), .int (nI ((prs t) - 1))])), (q_en, .inl (cI, 32, .inl (upd (upd (aE t) i (-1)) j (-1)))), (q_ba, .inl (cZ, 32, .inl (aB w))), (q_de, .inl (cI, 8, .inl (upd (upd (aN (dg t)) (i / 4) ((aN (dg t)) (i / 4) + (-1))) (j / 4) ((upd (aN (dg t)) (i / 4) ((aN (dg t)) (i / 4) + (-1))) (j / 4) + (-1)))))] H := hP.sub [0, 1, 2, 3] rfl
  have hD9 : va_D A [(q_nt, .inr (2, [.ref q_en, .ref q_ba, .ref q_de, .int (nI n), .int (nI ((prs t) - 1))])), (q_en, .inl (cI, 32, .inl (upd (upd (aE t) i (-1)) j (-1)))), (q_ba, .inl (cZ, 32, .inl (aB w))), (q_de, .inl (cI, 8, .inl (upd (upd (aN (dg t)) (i / 4) ((aN (dg t)) (i / 4) + (-1))) (j / 4) ((upd (aN (dg t)) (i / 4) ((aN (dg t)) (i / 4) + (-1))) (j / 4) + (-1)))))] := hD.sub [0, 1, 2, 3] (by decide) rfl
  have hP9 : va_P D vwCl [(q_nt, .inr (2, [.ref q_en, .ref q_ba, .ref q_de, .int (nI n), .int (nI ((prs t) - 1))])), (q_en, .inl (cI, 32, .inl (aE (unt t i j)))), (q_ba, .inl (cZ, 32, .inl (aB w))), (q_de, .inl (cI, 8, .inl (upd (upd (aN (dg t)) (i / 4) ((aN (dg t)) (i / 4) + (-1))) (j / 4) ((upd (aN (dg t)) (i / 4) ((aN (dg t)) (i / 4) + (-1))) (j / 4) + (-1)))))] H := z_arr hP9 1 rfl ec_en
  have hD9 : va_D A [(q_nt, .inr (2, [.ref q_en, .ref q_ba, .ref q_de, .int (nI n), .int (nI ((prs t) - 1))])), (q_en, .inl (cI, 32, .inl (aE (unt t i j)))), (q_ba, .inl (cZ, 32, .inl (aB w))), (q_de, .inl (cI, 8, .inl (upd (upd (aN (dg t)) (i / 4) ((aN (dg t)) (i / 4) + (-1))) (j / 4) ((upd (aN (dg t)) (i / 4) ((aN (dg t)) (i / 4) + (-1))) (j / 4) + (-1)))))] := hD9.set (p := 1) (e := .inl (cI, 32, .inl (aE (unt t i j)))) rfl
  have hP9 : va_P D vwCl [(q_nt, .inr (2, [.ref q_en, .ref q_ba, .ref q_de, .int (nI n), .int (nI ((prs t) - 1))])), (q_en, .inl (cI, 32, .inl (aE (unt t i j)))), (q_ba, .inl (cZ, 32, .inl (aB w))), (q_de, .inl (cI, 8, .inl (aN (dg (unt t i j)))))] H := z_arr hP9 3 rfl ec_de
  have hD9 : va_D A [(q_nt, .inr (2, [.ref q_en, .ref q_ba, .ref q_de, .int (nI n), .int (nI ((prs t) - 1))])), (q_en, .inl (cI, 32, .inl (aE (unt t i j)))), (q_ba, .inl (cZ, 32, .inl (aB w))), (q_de, .inl (cI, 8, .inl (aN (dg (unt t i j)))))] := hD9.set (p := 3) (e := .inl (cI, 8, .inl (aN (dg (unt t i j))))) rfl
  have hP9 : va_P D vwCl [(q_nt, .inr (2, [.ref q_en, .ref q_ba, .ref q_de, .int (nI n), .int (nI (prs (unt t i j)))])), (q_en, .inl (cI, 32, .inl (aE (unt t i j)))), (q_ba, .inl (cZ, 32, .inl (aB w))), (q_de, .inl (cI, 8, .inl (aN (dg (unt t i j)))))] H := (congrArg (fun z9 : Nat => va_P D vwCl [(q_nt, .inr (2, [.ref q_en, .ref q_ba, .ref q_de, .int (nI n), .int (nI z9)])), (q_en, .inl (cI, 32, .inl (aE (unt t i j)))), (q_ba, .inl (cZ, 32, .inl (aB w))), (q_de, .inl (cI, 8, .inl (aN (dg (unt t i j)))))] H) ec_pr).mp hP9
  have hD9 : va_D A [(q_nt, .inr (2, [.ref q_en, .ref q_ba, .ref q_de, .int (nI n), .int (nI (prs (unt t i j)))])), (q_en, .inl (cI, 32, .inl (aE (unt t i j)))), (q_ba, .inl (cZ, 32, .inl (aB w))), (q_de, .inl (cI, 8, .inl (aN (dg (unt t i j)))))] := (congrArg (fun z9 : Nat => va_D A [(q_nt, .inr (2, [.ref q_en, .ref q_ba, .ref q_de, .int (nI n), .int (nI z9)])), (q_en, .inl (cI, 32, .inl (aE (unt t i j)))), (q_ba, .inl (cZ, 32, .inl (aB w))), (q_de, .inl (cI, 8, .inl (aN (dg (unt t i j)))))]) ec_pr).mp hD9
  exact W.vret hx hb hr (fun t ht hW => ⟨⟨(), rfl, trivial, by rw [ht]; exact hP9, hD9⟩, hS.F ht⟩) hS.2.2 dX2_untie_24
theorem m_X2_isReady_f26 : Cond.fieldLink RX2 26 "NetWalkers$Net" "size" "I" ∈ wsX2_isReady := by decide +kernel
theorem i_X2_isReady_X2 : ∀ w ∈ wsX20, w ∈ wsX2_isReady := by decide +kernel
set_option maxRecDepth 100000 in
set_option maxHeartbeats 4000000 in
theorem w_X2_isReady {l : Launch} {D : va_G} {cI cZ : ClassId} (k_X2_reachedFromFirst : K_X2_reachedFromFirst l D cI cZ) (k_X2_allPosts : K_X2_allPosts l D cI cZ) (k_X2_hasFirstDoors : K_X2_hasFirstDoors l D cI cZ) (vv : V_X2_isReady) : K_X2_isReady l D cI cZ := by
  intro q_nt q_en q_ba q_de n t w hpre0
  have vw := vv n t w hpre0
  refine Met.ofW (cc := cX2_isReady) (maxL := 2) (ret := (some .boolean)) (by decide) rfl ?_
  intro zp ze zs zm zargs zbelow zmeth zc zs1 B hml hv
  obtain ⟨rfl, hZ, hP⟩ := hv
  have hx := B.exec
  have hb := B.bytes
  have hr := B.returns
  have hts := atoms_spec (ws := wsX2_isReady) B.pre
  have hown : zs.vm.findClass RX2 = some zm.cls := findClass_of_methodNamed B.named
  have hlocks := B.notSynchronized
  have hP : va_P D vwCl [(q_nt, .inr (2, [.ref q_en, .ref q_ba, .ref q_de, .int (nI n), .int (nI (prs t))])), (q_en, .inl (cI, 32, .inl (aE t))), (q_ba, .inl (cZ, 32, .inl (aB w))), (q_de, .inl (cI, 8, .inl (aN (dg t))))] zs.heap := hP
  have hl := lv_entry ([.ref q_nt]) (n := 2) (Nat.le_of_ble_eq_true rfl)
  rw [lg_entry_eq]
  generalize (lg_sl ([.ref q_nt]) ++ List.replicate (2 - (lg_sl ([.ref q_nt])).length) Slot.unset).toArray = ls at hl ⊢
  have hl : lv_has ls 2 [(0, .ref q_nt)] := hl
  obtain ⟨X2, hX2⟩ : ∃ X : Nat → Prop, ∀ (v1 : Nat), X v1 ↔ (∀ ls : Array Slot, lv_has ls 2 [(0, .ref q_nt), (1, .int (nI v1))] → W zp l ze (headSpec wsX2_isReady ({ frames := 2, cells := 0, slots := 0, locals := 44 } : Room)).room zs zm ([.ref q_nt] : List Value).toArray zbelow zmeth zc zs.heap [] 0 0 (MQ zbelow (vp_Si (fun zr : Int32 => zr = bI (rdy n t))) ([.ref q_nt] : List Value).toArray zs 0 0 (fun _ => False)) (F0 zm 2 ls [])) := ⟨_, fun _ => Iff.rfl⟩
  have b2 : ∀ (v1 : Nat), B_X2_isReady_2 n t w X2 v1 → X2 v1 := by
    intro v1 hw
    rw [hX2]
    intro ls hl
    unfold B_X2_isReady_2 at hw
    refine lv_iload_n hx hb dX2_isReady_2 rfl (lv_at hl 1 rfl) ?_
    refine lv_aload_n hx hb dX2_isReady_3 rfl (lv_at hl 0 rfl) ?_
    refine va_get (D := D) (ci := 2) (v := .int (nI n)) (C := RX2) (T := TX2) (N := 5) hx hb hts i_X2_isReady_X2 hown hZ.1 hP 0 rfl rfl 3 (by decide) (hts _ m_X2_isReady_f26) (fun _ h9 => h9) rfl dX2_isReady_4 ?_
    obtain ⟨zh1, hw⟩ := hw
    obtain ⟨zh2, hw⟩ := hw
    obtain ⟨hwt, hwf⟩ := hw
    refine z_icmp_ge hx hb zh1 zh2 (tgt := 26) dX2_isReady_7 (by decide) (fun cc => ?_) (fun cc => ?_)
    · replace hw := hwt cc
      refine lv_aload_n hx hb dX2_isReady_26 rfl (lv_at hl 0 rfl) ?_
      obtain ⟨zh3, hw⟩ := hw
      have hPc : va_P D vwCl [(q_nt, .inr (2, [.ref q_en, .ref q_ba, .ref q_de, .int (nI n), .int (nI (prs t))])), (q_en, .inl (cI, 32, .inl (aE t))), (q_ba, .inl (cZ, 32, .inl (aB w))), (q_de, .inl (cI, 8, .inl (aN (dg t))))] zs.heap := hP.sub [0, 1, 2, 3] rfl
      refine z_ro (va_runV (As := []) (rest := []) ⟨hx, hb, hml, hown, hts⟩ (k_X2_reachedFromFirst q_nt q_en q_ba q_de n t w zh3) (cwV 0 hts gX2_isReady_X2_reachedFromFirst rfl rfl rfl (by decide +kernel) ⟨Nat.le_of_ble_eq_true rfl, Nat.le_of_ble_eq_true rfl⟩) (zPr_V hZ hPc 0 rfl rfl) rfl rfl hl.1 rfl (lv_room (Nat.le_of_ble_eq_true rfl)) dX2_isReady_27 ⟨Nat.zero_le _, Nat.zero_le _⟩) (fun zr4 hzr4 => ?_)
      have ez := hzr4
      rw [ez]
      clear ez hzr4
      refine lv_aload_n hx hb dX2_isReady_30 rfl (lv_at hl 0 rfl) ?_
      obtain ⟨zh5, hw⟩ := hw
      have hPc : va_P D vwCl [(q_nt, .inr (2, [.ref q_en, .ref q_ba, .ref q_de, .int (nI n), .int (nI (prs t))])), (q_en, .inl (cI, 32, .inl (aE t))), (q_ba, .inl (cZ, 32, .inl (aB w))), (q_de, .inl (cI, 8, .inl (aN (dg t))))] zs.heap := hP.sub [0, 1, 2, 3] rfl
      refine z_ro (va_runV (As := []) (rest := [.int (nI (rch t (n - 1)))]) ⟨hx, hb, hml, hown, hts⟩ (k_X2_allPosts q_nt q_en q_ba q_de n t w zh5) (cwV 0 hts gX2_isReady_X2_allPosts rfl rfl rfl (by decide +kernel) ⟨Nat.le_of_ble_eq_true rfl, Nat.le_of_ble_eq_true rfl⟩) (zPr_V hZ hPc 0 rfl rfl) rfl rfl hl.1 rfl (lv_room (Nat.le_of_ble_eq_true rfl)) dX2_isReady_31 ⟨Nat.zero_le _, Nat.zero_le _⟩) (fun zr6 hzr6 => ?_)
      have ez := hzr6
      rw [ez]
      clear ez hzr6
      obtain ⟨zh7, hw⟩ := hw
      obtain ⟨zh8, hw⟩ := hw
      obtain ⟨hwt, hwf⟩ := hw
      refine z_icmp_ne hx hb zh7 zh8 (tgt := 41) dX2_isReady_34 (by decide) (fun cc => ?_) (fun cc => ?_)
      · replace hw := hwt cc
        refine lv_iconst (v := nI 0) hx hb dX2_isReady_41 (by decide +kernel) ?_
        refine z_st (st' := [.int (bI false)]) rfl ?_
        have er := hw
        exact W.zret (ty := .boolean) (v := bI false) hx hb hr (bI_nar _) (fun t ht hW => ⟨_, rfl, (congrArg bI er), ht⟩) (fun _ h => by cases h) dX2_isReady_42
      · replace hw := hwf cc
        refine lv_iconst (v := nI 1) hx hb dX2_isReady_37 (by decide +kernel) ?_
        refine lv_goto (tgt := 42) hx hb dX2_isReady_38 (by decide) ?_
        refine z_st (st' := [.int (bI true)]) rfl ?_
        have er := hw
        exact W.zret (ty := .boolean) (v := bI true) hx hb hr (bI_nar _) (fun t ht hW => ⟨_, rfl, (congrArg bI er), ht⟩) (fun _ h => by cases h) dX2_isReady_42
    · replace hw := hwf cc
      refine lv_aload_n hx hb dX2_isReady_10 rfl (lv_at hl 0 rfl) ?_
      refine lv_iload_n hx hb dX2_isReady_11 rfl (lv_at hl 1 rfl) ?_
      obtain ⟨zh9, hw⟩ := hw
      have hPc : va_P D vwCl [(q_nt, .inr (2, [.ref q_en, .ref q_ba, .ref q_de, .int (nI n), .int (nI (prs t))])), (q_en, .inl (cI, 32, .inl (aE t))), (q_ba, .inl (cZ, 32, .inl (aB w))), (q_de, .inl (cI, 8, .inl (aN (dg t))))] zs.heap := hP.sub [0, 1, 2, 3] rfl
      refine z_ro (va_runV (As := [.int (nI v1)]) (rest := []) ⟨hx, hb, hml, hown, hts⟩ (k_X2_hasFirstDoors q_nt q_en q_ba q_de n t w v1 zh9) (cwV 1 hts gX2_isReady_X2_hasFirstDoors rfl rfl rfl (by decide +kernel) ⟨Nat.le_of_ble_eq_true rfl, Nat.le_of_ble_eq_true rfl⟩) (zPr_V hZ hPc 0 rfl rfl) rfl rfl hl.1 rfl (lv_room (Nat.le_of_ble_eq_true rfl)) dX2_isReady_12 ⟨Nat.zero_le _, Nat.zero_le _⟩) (fun zr10 hzr10 => ?_)
      have ez := hzr10
      rw [ez]
      clear ez hzr10
      obtain ⟨hwt, hwf⟩ := hw
      refine z_if_neb hx hb (tgt := 20) dX2_isReady_15 (by decide) (fun cc => ?_) (fun cc => ?_)
      · replace hw := hwt cc
        refine lv_iinc (v := nI (v1 + 1)) (lv' := [(1, .int (nI (v1 + 1))), (0, .ref q_nt)]) hx hb dX2_isReady_20 hl (k := 1) rfl (by rw [show Int32.ofInt 1 = nI 1 from by decide +kernel]; exact nI_add _ _) (by decide) rfl (fun ls hl => ?_)
        refine lv_goto (tgt := 2) hx hb dX2_isReady_23 (by decide) ?_
        exact ((hX2 _).mp hw) ls (lv_sub hl [1, 0] rfl)
      · replace hw := hwf cc
        refine lv_iconst (v := nI 0) hx hb dX2_isReady_18 (by decide +kernel) ?_
        refine z_st (st' := [.int (bI false)]) rfl ?_
        have er := hw
        exact W.zret (ty := .boolean) (v := bI false) hx hb hr (bI_nar _) (fun t ht hW => ⟨_, rfl, (congrArg bI er), ht⟩) (fun _ h => by cases h) dX2_isReady_19
  have hw := vw X2 b2
  unfold B_X2_isReady_in at hw
  refine lv_iconst (v := nI 0) hx hb dX2_isReady_0 (by decide +kernel) ?_
  refine lv_istore_n (lv' := [(1, .int (nI 0)), (0, .ref q_nt)]) hx hb dX2_isReady_1 rfl hl (by decide) rfl (fun ls hl => ?_)
  exact ((hX2 _).mp hw) ls (lv_sub hl [1, 0] rfl)
theorem m_X2_hasFirstDoors_inX5 : Cond.initialized RX5 ∈ wsX2_hasFirstDoors := by decide +kernel
theorem m_X2_hasFirstDoors_stX5_placeOf : Cond.static yX5_placeOf ∈ wsX2_hasFirstDoors := by decide +kernel
set_option maxRecDepth 100000 in
set_option maxHeartbeats 4000000 in
theorem w_X2_hasFirstDoors {l : Launch} {D : va_G} {cI cZ : ClassId} (k_X2_degreeOf : K_X2_degreeOf l D cI cZ) (k_X5_placeOf : K_X5_placeOf l D cI cZ) (k_X2_endOf : K_X2_endOf l D cI cZ) (vv : V_X2_hasFirstDoors) : K_X2_hasFirstDoors l D cI cZ := by
  intro q_nt q_en q_ba q_de n t w p hpre0
  have vw := vv n t w p hpre0
  refine Met.ofW (cc := cX2_hasFirstDoors) (maxL := 3) (ret := (some .boolean)) (by decide) rfl ?_
  intro zp ze zs zm zargs zbelow zmeth zc zs1 B hml hv
  obtain ⟨rfl, hZ, hP⟩ := hv
  have hx := B.exec
  have hb := B.bytes
  have hr := B.returns
  have hts := atoms_spec (ws := wsX2_hasFirstDoors) B.pre
  have hown : zs.vm.findClass RX2 = some zm.cls := findClass_of_methodNamed B.named
  have hlocks := B.notSynchronized
  have hP : va_P D vwCl [(q_nt, .inr (2, [.ref q_en, .ref q_ba, .ref q_de, .int (nI n), .int (nI (prs t))])), (q_en, .inl (cI, 32, .inl (aE t))), (q_ba, .inl (cZ, 32, .inl (aB w))), (q_de, .inl (cI, 8, .inl (aN (dg t))))] zs.heap := hP
  have hl := lv_entry ([.ref q_nt, .int (nI p)]) (n := 3) (Nat.le_of_ble_eq_true rfl)
  rw [lg_entry_eq]
  generalize (lg_sl ([.ref q_nt, .int (nI p)]) ++ List.replicate (3 - (lg_sl ([.ref q_nt, .int (nI p)])).length) Slot.unset).toArray = ls at hl ⊢
  have hl : lv_has ls 3 [(0, .ref q_nt), (1, .int (nI p))] := hl
  obtain ⟨X2, hX2⟩ : ∃ X : Nat → Prop, ∀ (v2 : Nat), X v2 ↔ (∀ ls : Array Slot, lv_has ls 3 [(0, .ref q_nt), (1, .int (nI p)), (2, .int (nI v2))] → W zp l ze (headSpec wsX2_hasFirstDoors ({ frames := 1, cells := 0, slots := 0, locals := 21 } : Room)).room zs zm ([.ref q_nt, .int (nI p)] : List Value).toArray zbelow zmeth zc zs.heap [] 0 0 (MQ zbelow (vp_Si (fun zr : Int32 => zr = bI (okd t p))) ([.ref q_nt, .int (nI p)] : List Value).toArray zs 0 0 (fun _ => False)) (F0 zm 2 ls [])) := ⟨_, fun _ => Iff.rfl⟩
  have b2 : ∀ (v2 : Nat), B_X2_hasFirstDoors_2 n t w p X2 v2 → X2 v2 := by
    intro v2 hw
    rw [hX2]
    intro ls hl
    unfold B_X2_hasFirstDoors_2 at hw
    refine lv_iload_n hx hb dX2_hasFirstDoors_2 rfl (lv_at hl 2 rfl) ?_
    refine lv_aload_n hx hb dX2_hasFirstDoors_3 rfl (lv_at hl 0 rfl) ?_
    refine lv_iload_n hx hb dX2_hasFirstDoors_4 rfl (lv_at hl 1 rfl) ?_
    obtain ⟨zh1, hw⟩ := hw
    have hPc : va_P D vwCl [(q_nt, .inr (2, [.ref q_en, .ref q_ba, .ref q_de, .int (nI n), .int (nI (prs t))])), (q_en, .inl (cI, 32, .inl (aE t))), (q_ba, .inl (cZ, 32, .inl (aB w))), (q_de, .inl (cI, 8, .inl (aN (dg t))))] zs.heap := hP.sub [0, 1, 2, 3] rfl
    refine z_ro (va_runV (As := [.int (nI p)]) (rest := [.int (nI v2)]) ⟨hx, hb, hml, hown, hts⟩ (k_X2_degreeOf q_nt q_en q_ba q_de n t w p zh1) (cwV 1 hts gX2_hasFirstDoors_X2_degreeOf rfl rfl rfl (by decide +kernel) ⟨Nat.le_of_ble_eq_true rfl, Nat.le_of_ble_eq_true rfl⟩) (zPr_V hZ hPc 0 rfl rfl) rfl rfl hl.1 rfl (lv_room (Nat.le_of_ble_eq_true rfl)) dX2_hasFirstDoors_5 ⟨Nat.zero_le _, Nat.zero_le _⟩) (fun zr2 hzr2 => ?_)
    have ez := hzr2
    rw [ez]
    clear ez hzr2
    obtain ⟨zh3, hw⟩ := hw
    obtain ⟨zh4, hw⟩ := hw
    obtain ⟨hwt, hwf⟩ := hw
    refine z_icmp_ge hx hb zh3 zh4 (tgt := 32) dX2_hasFirstDoors_8 (by decide) (fun cc => ?_) (fun cc => ?_)
    · replace hw := hwt cc
      refine lv_iconst (v := nI 1) hx hb dX2_hasFirstDoors_32 (by decide +kernel) ?_
      refine z_st (st' := [.int (bI true)]) rfl ?_
      have er := hw
      exact W.zret (ty := .boolean) (v := bI true) hx hb hr (bI_nar _) (fun t ht hW => ⟨_, rfl, (congrArg bI er), ht⟩) (fun _ h => by cases h) dX2_hasFirstDoors_33
    · replace hw := hwf cc
      refine lv_aload_n hx hb dX2_hasFirstDoors_11 rfl (lv_at hl 0 rfl) ?_
      refine lv_iload_n hx hb dX2_hasFirstDoors_12 rfl (lv_at hl 1 rfl) ?_
      refine lv_iload_n hx hb dX2_hasFirstDoors_13 rfl (lv_at hl 2 rfl) ?_
      have hPc : va_P D vwCl [] zs.heap := hP.sub [] rfl
      refine z_ro (va_runSN (As := [.int (nI p), .int (nI v2)]) (rest := [.ref q_nt]) ⟨hx, hb, hml, hown, hts⟩ (k_X5_placeOf p v2) ⟨va_cnB 2 hts gX2_hasFirstDoors_X5_placeOf_n62 rfl rfl rfl hZ.2.2.2.2.1 (hts _ m_X2_hasFirstDoors_inX5) (by decide +kernel) ⟨Nat.le_of_ble_eq_true rfl, Nat.le_of_ble_eq_true rfl⟩, (hts _ m_X2_hasFirstDoors_stX5_placeOf), trivial⟩ (zPr_S hZ hPc) rfl rfl hl.1 rfl (lv_room (Nat.le_of_ble_eq_true rfl)) dX2_hasFirstDoors_14 ⟨Nat.zero_le _, Nat.zero_le _⟩) (fun zr5 hzr5 => ?_)
      have ez := hzr5
      rw [ez]
      clear ez hzr5
      obtain ⟨zh6, hw⟩ := hw
      have hPc : va_P D vwCl [(q_nt, .inr (2, [.ref q_en, .ref q_ba, .ref q_de, .int (nI n), .int (nI (prs t))])), (q_en, .inl (cI, 32, .inl (aE t))), (q_ba, .inl (cZ, 32, .inl (aB w))), (q_de, .inl (cI, 8, .inl (aN (dg t))))] zs.heap := hP.sub [0, 1, 2, 3] rfl
      refine z_ro (va_runV (As := [.int (nI (4 * p + v2))]) (rest := []) ⟨hx, hb, hml, hown, hts⟩ (k_X2_endOf q_nt q_en q_ba q_de n t w (4 * p + v2) zh6) (cwV 1 hts gX2_hasFirstDoors_X2_endOf rfl rfl rfl (by decide +kernel) ⟨Nat.le_of_ble_eq_true rfl, Nat.le_of_ble_eq_true rfl⟩) (zPr_V hZ hPc 0 rfl rfl) rfl rfl hl.1 rfl (lv_room (Nat.le_of_ble_eq_true rfl)) dX2_hasFirstDoors_17 ⟨Nat.zero_le _, Nat.zero_le _⟩) (fun zr7 hzr7 => ?_)
      have ez := hzr7
      rw [ez]
      clear ez hzr7
      refine lv_iconst (v := (-1)) hx hb dX2_hasFirstDoors_20 (by decide +kernel) ?_
      obtain ⟨hwt, hwf⟩ := hw
      refine lv_icmp_ne hx hb (tgt := 26) dX2_hasFirstDoors_21 (by decide) (fun cc => ?_) (fun cc => ?_)
      · replace hw := hwt cc
        refine lv_iinc (v := nI (v2 + 1)) (lv' := [(2, .int (nI (v2 + 1))), (0, .ref q_nt), (1, .int (nI p))]) hx hb dX2_hasFirstDoors_26 hl (k := 2) rfl (by rw [show Int32.ofInt 1 = nI 1 from by decide +kernel]; exact nI_add _ _) (by decide) rfl (fun ls hl => ?_)
        refine lv_goto (tgt := 2) hx hb dX2_hasFirstDoors_29 (by decide) ?_
        exact ((hX2 _).mp hw) ls (lv_sub hl [1, 2, 0] rfl)
      · replace hw := hwf cc
        refine lv_iconst (v := nI 0) hx hb dX2_hasFirstDoors_24 (by decide +kernel) ?_
        refine z_st (st' := [.int (bI false)]) rfl ?_
        have er := hw
        exact W.zret (ty := .boolean) (v := bI false) hx hb hr (bI_nar _) (fun t ht hW => ⟨_, rfl, (congrArg bI er), ht⟩) (fun _ h => by cases h) dX2_hasFirstDoors_25
  have hw := vw X2 b2
  unfold B_X2_hasFirstDoors_in at hw
  refine lv_iconst (v := nI 0) hx hb dX2_hasFirstDoors_0 (by decide +kernel) ?_
  refine lv_istore_n (lv' := [(2, .int (nI 0)), (0, .ref q_nt), (1, .int (nI p))]) hx hb dX2_hasFirstDoors_1 rfl hl (by decide) rfl (fun ls hl => ?_)
  exact ((hX2 _).mp hw) ls (lv_sub hl [1, 2, 0] rfl)
theorem m_X2_reachedFromFirst_f26 : Cond.fieldLink RX2 26 "NetWalkers$Net" "size" "I" ∈ wsX2_reachedFromFirst := by decide +kernel
theorem i_X2_reachedFromFirst_X2 : ∀ w ∈ wsX20, w ∈ wsX2_reachedFromFirst := by decide +kernel
theorem m_X2_reachedFromFirst_f9 : Cond.fieldLink RX2 9 "NetWalkers$Net" "ends" "[I" ∈ wsX2_reachedFromFirst := by decide +kernel
theorem m_X2_reachedFromFirst_inX5 : Cond.initialized RX5 ∈ wsX2_reachedFromFirst := by decide +kernel
theorem m_X2_reachedFromFirst_stX5_postOf : Cond.static yX5_postOf ∈ wsX2_reachedFromFirst := by decide +kernel
set_option maxRecDepth 100000 in
set_option maxHeartbeats 4000000 in
theorem w_X2_reachedFromFirst {l : Launch} {D : va_G} {cI cZ : ClassId} (k_X5_postOf : K_X5_postOf l D cI cZ) (k_X2_endOf : K_X2_endOf l D cI cZ) (vv : V_X2_reachedFromFirst) : K_X2_reachedFromFirst l D cI cZ := by
  intro q_nt q_en q_ba q_de n t w hpre0
  have vw := vv n t w hpre0
  refine Met.ofW (cc := cX2_reachedFromFirst) (maxL := 4) (ret := (some .int)) (by decide) rfl ?_
  intro zp ze zs zm zargs zbelow zmeth zc zs1 B hml hv
  obtain ⟨rfl, hZ, hP⟩ := hv
  have hx := B.exec
  have hb := B.bytes
  have hr := B.returns
  have hts := atoms_spec (ws := wsX2_reachedFromFirst) B.pre
  have hown : zs.vm.findClass RX2 = some zm.cls := findClass_of_methodNamed B.named
  have hlocks := B.notSynchronized
  have hP : va_P D vwCl [(q_nt, .inr (2, [.ref q_en, .ref q_ba, .ref q_de, .int (nI n), .int (nI (prs t))])), (q_en, .inl (cI, 32, .inl (aE t))), (q_ba, .inl (cZ, 32, .inl (aB w))), (q_de, .inl (cI, 8, .inl (aN (dg t))))] zs.heap := hP
  have hl := lv_entry ([.ref q_nt]) (n := 4) (Nat.le_of_ble_eq_true rfl)
  rw [lg_entry_eq]
  generalize (lg_sl ([.ref q_nt]) ++ List.replicate (4 - (lg_sl ([.ref q_nt])).length) Slot.unset).toArray = ls at hl ⊢
  have hl : lv_has ls 4 [(0, .ref q_nt)] := hl
  obtain ⟨X4, hX4⟩ : ∃ X : Nat → Nat → Prop, ∀ (v1 : Nat) (v2 : Nat), X v1 v2 ↔ (∀ ls : Array Slot, lv_has ls 4 [(0, .ref q_nt), (1, .int (nI v1)), (2, .int (nI v2))] → W zp l ze (headSpec wsX2_reachedFromFirst ({ frames := 1, cells := 0, slots := 0, locals := 21 } : Room)).room zs zm ([.ref q_nt] : List Value).toArray zbelow zmeth zc zs.heap [] 0 0 (MQ zbelow (vp_Si (fun zr : Int32 => zr = nI (rch t (n - 1)))) ([.ref q_nt] : List Value).toArray zs 0 0 (fun _ => False)) (F0 zm 4 ls [])) := ⟨_, fun _ _ => Iff.rfl⟩
  obtain ⟨X14, hX14⟩ : ∃ X : Nat → Nat → Nat → Prop, ∀ (v1 : Nat) (v2 : Nat) (v3 : Nat), X v1 v2 v3 ↔ (∀ ls : Array Slot, lv_has ls 4 [(0, .ref q_nt), (1, .int (nI v1)), (2, .int (nI v2)), (3, .int (nI v3))] → W zp l ze (headSpec wsX2_reachedFromFirst ({ frames := 1, cells := 0, slots := 0, locals := 21 } : Room)).room zs zm ([.ref q_nt] : List Value).toArray zbelow zmeth zc zs.heap [] 0 0 (MQ zbelow (vp_Si (fun zr : Int32 => zr = nI (rch t (n - 1)))) ([.ref q_nt] : List Value).toArray zs 0 0 (fun _ => False)) (F0 zm 14 ls [])) := ⟨_, fun _ _ _ => Iff.rfl⟩
  have b4 : ∀ (v1 : Nat) (v2 : Nat), B_X2_reachedFromFirst_4 n t w X4 X14 v1 v2 → X4 v1 v2 := by
    intro v1 v2 hw
    rw [hX4]
    intro ls hl
    unfold B_X2_reachedFromFirst_4 at hw
    refine lv_iload_n hx hb dX2_reachedFromFirst_4 rfl (lv_at hl 2 rfl) ?_
    refine lv_aload_n hx hb dX2_reachedFromFirst_5 rfl (lv_at hl 0 rfl) ?_
    refine va_get (D := D) (ci := 2) (v := .int (nI n)) (C := RX2) (T := TX2) (N := 5) hx hb hts i_X2_reachedFromFirst_X2 hown hZ.1 hP 0 rfl rfl 3 (by decide) (hts _ m_X2_reachedFromFirst_f26) (fun _ h9 => h9) rfl dX2_reachedFromFirst_6 ?_
    obtain ⟨zh1, hw⟩ := hw
    obtain ⟨zh2, hw⟩ := hw
    obtain ⟨hwt, hwf⟩ := hw
    refine z_icmp_ge hx hb zh1 zh2 (tgt := 69) dX2_reachedFromFirst_9 (by decide) (fun cc => ?_) (fun cc => ?_)
    · replace hw := hwt cc
      refine lv_iload_n hx hb dX2_reachedFromFirst_69 rfl (lv_at hl 1 rfl) ?_
      have er := hw
      exact W.iret (v := nI v1) hx hb hr (fun t ht hW => ⟨_, rfl, (congrArg nI er), ht⟩) (fun _ h => by cases h) dX2_reachedFromFirst_70
    · replace hw := hwf cc
      refine lv_iconst (v := nI 0) hx hb dX2_reachedFromFirst_12 (by decide +kernel) ?_
      refine lv_istore_n (lv' := [(3, .int (nI 0)), (0, .ref q_nt), (1, .int (nI v1)), (2, .int (nI v2))]) hx hb dX2_reachedFromFirst_13 rfl hl (by decide) rfl (fun ls hl => ?_)
      exact ((hX14 _ _ _).mp hw) ls (lv_sub hl [1, 2, 3, 0] rfl)
  have b14 : ∀ (v1 : Nat) (v2 : Nat) (v3 : Nat), B_X2_reachedFromFirst_14 n t w X4 X14 v1 v2 v3 → X14 v1 v2 v3 := by
    intro v1 v2 v3 hw
    rw [hX14]
    intro ls hl
    unfold B_X2_reachedFromFirst_14 at hw
    refine lv_iload_n hx hb dX2_reachedFromFirst_14 rfl (lv_at hl 3 rfl) ?_
    refine lv_aload_n hx hb dX2_reachedFromFirst_15 rfl (lv_at hl 0 rfl) ?_
    refine va_get (D := D) (ci := 2) (v := .ref q_en) (C := RX2) (T := TX2) (N := 5) hx hb hts i_X2_reachedFromFirst_X2 hown hZ.1 hP 0 rfl rfl 0 (by decide) (hts _ m_X2_reachedFromFirst_f9) (fun _ h9 => h9) rfl dX2_reachedFromFirst_16 ?_
    refine va_alen hx hb hZ.1 hP 1 0 rfl rfl (v := nI 32) rfl dX2_reachedFromFirst_19 ?_
    obtain ⟨zh3, hw⟩ := hw
    obtain ⟨hwt, hwf⟩ := hw
    refine z_icmp_ge hx hb zh3 (by decide) (tgt := 63) dX2_reachedFromFirst_20 (by decide) (fun cc => ?_) (fun cc => ?_)
    · replace hw := hwt cc
      refine lv_iinc (v := nI (v2 + 1)) (lv' := [(2, .int (nI (v2 + 1))), (0, .ref q_nt), (1, .int (nI v1)), (3, .int (nI v3))]) hx hb dX2_reachedFromFirst_63 hl (k := 2) rfl (by rw [show Int32.ofInt 1 = nI 1 from by decide +kernel]; exact nI_add _ _) (by decide) rfl (fun ls hl => ?_)
      refine lv_goto (tgt := 4) hx hb dX2_reachedFromFirst_66 (by decide) ?_
      exact ((hX4 _ _).mp hw) ls (lv_sub hl [1, 2, 0] rfl)
    · replace hw := hwf cc
      refine lv_iload_n hx hb dX2_reachedFromFirst_23 rfl (lv_at hl 1 rfl) ?_
      refine lv_iload_n hx hb dX2_reachedFromFirst_24 rfl (lv_at hl 3 rfl) ?_
      obtain ⟨zh4, hw⟩ := hw
      have hPc : va_P D vwCl [] zs.heap := hP.sub [] rfl
      refine z_ro (va_runSN (As := [.int (nI v3)]) (rest := [.int (nI v1)]) ⟨hx, hb, hml, hown, hts⟩ (k_X5_postOf v3 zh4) ⟨va_cnB 1 hts gX2_reachedFromFirst_X5_postOf_n45 rfl rfl rfl hZ.2.2.2.1 (hts _ m_X2_reachedFromFirst_inX5) (by decide +kernel) ⟨Nat.le_of_ble_eq_true rfl, Nat.le_of_ble_eq_true rfl⟩, (hts _ m_X2_reachedFromFirst_stX5_postOf), trivial⟩ (zPr_S hZ hPc) rfl rfl hl.1 rfl (lv_room (Nat.le_of_ble_eq_true rfl)) dX2_reachedFromFirst_25 ⟨Nat.zero_le _, Nat.zero_le _⟩) (fun zr5 hzr5 => ?_)
      have ez := hzr5
      rw [ez]
      clear ez hzr5
      obtain ⟨zh6, hw⟩ := hw
      obtain ⟨zh7, hw⟩ := hw
      refine z_ishr hx hb (n_shr zh7 zh6) dX2_reachedFromFirst_28 ?_
      refine lv_iconst (v := nI 1) hx hb dX2_reachedFromFirst_29 (by decide +kernel) ?_
      refine z_iand hx hb (n_and _ _) dX2_reachedFromFirst_30 ?_
      refine lv_iconst (v := nI 1) hx hb dX2_reachedFromFirst_31 (by decide +kernel) ?_
      obtain ⟨zh8, hw⟩ := hw
      obtain ⟨hwt, hwf⟩ := hw
      refine z_icmp_ne hx hb zh8 (by decide) (tgt := 57) dX2_reachedFromFirst_32 (by decide) (fun cc => ?_) (fun cc => ?_)
      · replace hw := hwt cc
        refine lv_iinc (v := nI (v3 + 1)) (lv' := [(3, .int (nI (v3 + 1))), (0, .ref q_nt), (1, .int (nI v1)), (2, .int (nI v2))]) hx hb dX2_reachedFromFirst_57 hl (k := 3) rfl (by rw [show Int32.ofInt 1 = nI 1 from by decide +kernel]; exact nI_add _ _) (by decide) rfl (fun ls hl => ?_)
        refine lv_goto (tgt := 14) hx hb dX2_reachedFromFirst_60 (by decide) ?_
        exact ((hX14 _ _ _).mp hw) ls (lv_sub hl [1, 2, 3, 0] rfl)
      · replace hw := hwf cc
        refine lv_aload_n hx hb dX2_reachedFromFirst_35 rfl (lv_at hl 0 rfl) ?_
        refine lv_iload_n hx hb dX2_reachedFromFirst_36 rfl (lv_at hl 3 rfl) ?_
        obtain ⟨zh9, hw⟩ := hw
        have hPc : va_P D vwCl [(q_nt, .inr (2, [.ref q_en, .ref q_ba, .ref q_de, .int (nI n), .int (nI (prs t))])), (q_en, .inl (cI, 32, .inl (aE t))), (q_ba, .inl (cZ, 32, .inl (aB w))), (q_de, .inl (cI, 8, .inl (aN (dg t))))] zs.heap := hP.sub [0, 1, 2, 3] rfl
        refine z_ro (va_runV (As := [.int (nI v3)]) (rest := []) ⟨hx, hb, hml, hown, hts⟩ (k_X2_endOf q_nt q_en q_ba q_de n t w v3 zh9) (cwV 1 hts gX2_reachedFromFirst_X2_endOf rfl rfl rfl (by decide +kernel) ⟨Nat.le_of_ble_eq_true rfl, Nat.le_of_ble_eq_true rfl⟩) (zPr_V hZ hPc 0 rfl rfl) rfl rfl hl.1 rfl (lv_room (Nat.le_of_ble_eq_true rfl)) dX2_reachedFromFirst_37 ⟨Nat.zero_le _, Nat.zero_le _⟩) (fun zr10 hzr10 => ?_)
        have ez := hzr10
        rw [ez]
        clear ez hzr10
        refine lv_iconst (v := (-1)) hx hb dX2_reachedFromFirst_40 (by decide +kernel) ?_
        obtain ⟨hwt, hwf⟩ := hw
        refine lv_icmp_eq hx hb (tgt := 57) dX2_reachedFromFirst_41 (by decide) (fun cc => ?_) (fun cc => ?_)
        · replace hw := hwt cc
          refine lv_iinc (v := nI (v3 + 1)) (lv' := [(3, .int (nI (v3 + 1))), (0, .ref q_nt), (1, .int (nI v1)), (2, .int (nI v2))]) hx hb dX2_reachedFromFirst_57 hl (k := 3) rfl (by rw [show Int32.ofInt 1 = nI 1 from by decide +kernel]; exact nI_add _ _) (by decide) rfl (fun ls hl => ?_)
          refine lv_goto (tgt := 14) hx hb dX2_reachedFromFirst_60 (by decide) ?_
          exact ((hX14 _ _ _).mp hw) ls (lv_sub hl [1, 2, 3, 0] rfl)
        · replace hw := hwf cc
          refine lv_iload_n hx hb dX2_reachedFromFirst_44 rfl (lv_at hl 1 rfl) ?_
          refine lv_iconst (v := nI 1) hx hb dX2_reachedFromFirst_45 (by decide +kernel) ?_
          refine lv_aload_n hx hb dX2_reachedFromFirst_46 rfl (lv_at hl 0 rfl) ?_
          refine lv_iload_n hx hb dX2_reachedFromFirst_47 rfl (lv_at hl 3 rfl) ?_
          obtain ⟨zh11, hw⟩ := hw
          have hPc : va_P D vwCl [(q_nt, .inr (2, [.ref q_en, .ref q_ba, .ref q_de, .int (nI n), .int (nI (prs t))])), (q_en, .inl (cI, 32, .inl (aE t))), (q_ba, .inl (cZ, 32, .inl (aB w))), (q_de, .inl (cI, 8, .inl (aN (dg t))))] zs.heap := hP.sub [0, 1, 2, 3] rfl
          refine z_ro (va_runV (As := [.int (nI v3)]) (rest := [.int (nI 1), .int (nI v1)]) ⟨hx, hb, hml, hown, hts⟩ (k_X2_endOf q_nt q_en q_ba q_de n t w v3 zh11) (cwV 1 hts gX2_reachedFromFirst_X2_endOf rfl rfl rfl (by decide +kernel) ⟨Nat.le_of_ble_eq_true rfl, Nat.le_of_ble_eq_true rfl⟩) (zPr_V hZ hPc 0 rfl rfl) rfl rfl hl.1 rfl (lv_room (Nat.le_of_ble_eq_true rfl)) dX2_reachedFromFirst_48 ⟨Nat.zero_le _, Nat.zero_le _⟩) (fun zr12 hzr12 => ?_)
          have ez := hzr12
          rw [ez]
          clear ez hzr12
          obtain ⟨zk13, ezk13, hw⟩ := hw
          refine z_st (st' := [.int (nI zk13), .int (nI 1), .int (nI v1)]) (by rw [ezk13]) ?_
          obtain ⟨zh14, hw⟩ := hw
          have hPc : va_P D vwCl [] zs.heap := hP.sub [] rfl
          refine z_ro (va_runSN (As := [.int (nI zk13)]) (rest := [.int (nI 1), .int (nI v1)]) ⟨hx, hb, hml, hown, hts⟩ (k_X5_postOf zk13 zh14) ⟨va_cnB 1 hts gX2_reachedFromFirst_X5_postOf_n45 rfl rfl rfl hZ.2.2.2.1 (hts _ m_X2_reachedFromFirst_inX5) (by decide +kernel) ⟨Nat.le_of_ble_eq_true rfl, Nat.le_of_ble_eq_true rfl⟩, (hts _ m_X2_reachedFromFirst_stX5_postOf), trivial⟩ (zPr_S hZ hPc) rfl rfl hl.1 rfl (lv_room (Nat.le_of_ble_eq_true rfl)) dX2_reachedFromFirst_51 ⟨Nat.zero_le _, Nat.zero_le _⟩) (fun zr15 hzr15 => ?_)
          have ez := hzr15
          rw [ez]
          clear ez hzr15
          obtain ⟨zh16, hw⟩ := hw
          refine z_ishl hx hb (n_shl _ zh16) dX2_reachedFromFirst_54 ?_
          refine z_ior hx hb (n_or _ _) dX2_reachedFromFirst_55 ?_
          obtain ⟨zx17, ezx17⟩ : ∃ zx17 : Nat, zx17 = v1 ||| (1 <<< (zk13 / 4)) := ⟨_, rfl⟩
          replace hw := hw zx17 ezx17
          refine z_st (st' := [.int (nI zx17)]) (by rw [ezx17]) ?_
          refine lv_istore_n (lv' := [(1, .int (nI zx17)), (0, .ref q_nt), (2, .int (nI v2)), (3, .int (nI v3))]) hx hb dX2_reachedFromFirst_56 rfl hl (by decide) rfl (fun ls hl => ?_)
          refine lv_iinc (v := nI (v3 + 1)) (lv' := [(3, .int (nI (v3 + 1))), (1, .int (nI zx17)), (0, .ref q_nt), (2, .int (nI v2))]) hx hb dX2_reachedFromFirst_57 hl (k := 3) rfl (by rw [show Int32.ofInt 1 = nI 1 from by decide +kernel]; exact nI_add _ _) (by decide) rfl (fun ls hl => ?_)
          refine lv_goto (tgt := 14) hx hb dX2_reachedFromFirst_60 (by decide) ?_
          exact ((hX14 _ _ _).mp hw) ls (lv_sub hl [2, 1, 3, 0] rfl)
  have hw := vw X4 X14 b4 b14
  unfold B_X2_reachedFromFirst_in at hw
  refine lv_iconst (v := nI 1) hx hb dX2_reachedFromFirst_0 (by decide +kernel) ?_
  refine lv_istore_n (lv' := [(1, .int (nI 1)), (0, .ref q_nt)]) hx hb dX2_reachedFromFirst_1 rfl hl (by decide) rfl (fun ls hl => ?_)
  refine lv_iconst (v := nI 1) hx hb dX2_reachedFromFirst_2 (by decide +kernel) ?_
  refine lv_istore_n (lv' := [(2, .int (nI 1)), (1, .int (nI 1)), (0, .ref q_nt)]) hx hb dX2_reachedFromFirst_3 rfl hl (by decide) rfl (fun ls hl => ?_)
  exact ((hX4 _ _).mp hw) ls (lv_sub hl [2, 1, 0] rfl)
set_option maxRecDepth 100000 in
set_option maxHeartbeats 4000000 in
theorem w_X2_through {l : Launch} {D : va_G} {cI cZ : ClassId} (k_X2_endOf : K_X2_endOf l D cI cZ) (k_X2_isBad : K_X2_isBad l D cI cZ) (vv : V_X2_through) : K_X2_through l D cI cZ := by
  intro q_nt q_en q_ba q_de n t w i hpre0
  have vw := vv n t w i hpre0
  refine Met.ofW (cc := cX2_through) (maxL := 3) (ret := (some .int)) (by decide) rfl ?_
  intro zp ze zs zm zargs zbelow zmeth zc zs1 B hml hv
  obtain ⟨rfl, hZ, hP⟩ := hv
  have hx := B.exec
  have hb := B.bytes
  have hr := B.returns
  have hts := atoms_spec (ws := wsX2_through) B.pre
  have hown : zs.vm.findClass RX2 = some zm.cls := findClass_of_methodNamed B.named
  have hlocks := B.notSynchronized
  have hP : va_P D vwCl [(q_nt, .inr (2, [.ref q_en, .ref q_ba, .ref q_de, .int (nI n), .int (nI (prs t))])), (q_en, .inl (cI, 32, .inl (aE t))), (q_ba, .inl (cZ, 32, .inl (aB w))), (q_de, .inl (cI, 8, .inl (aN (dg t))))] zs.heap := hP
  have hl := lv_entry ([.ref q_nt, .int (nI i)]) (n := 3) (Nat.le_of_ble_eq_true rfl)
  rw [lg_entry_eq]
  generalize (lg_sl ([.ref q_nt, .int (nI i)]) ++ List.replicate (3 - (lg_sl ([.ref q_nt, .int (nI i)])).length) Slot.unset).toArray = ls at hl ⊢
  have hl : lv_has ls 3 [(0, .ref q_nt), (1, .int (nI i))] := hl
  have hw := vw
  unfold B_X2_through_in at hw
  refine lv_aload_n hx hb dX2_through_0 rfl (lv_at hl 0 rfl) ?_
  refine lv_iload_n hx hb dX2_through_1 rfl (lv_at hl 1 rfl) ?_
  obtain ⟨zh1, hw⟩ := hw
  have hPc : va_P D vwCl [(q_nt, .inr (2, [.ref q_en, .ref q_ba, .ref q_de, .int (nI n), .int (nI (prs t))])), (q_en, .inl (cI, 32, .inl (aE t))), (q_ba, .inl (cZ, 32, .inl (aB w))), (q_de, .inl (cI, 8, .inl (aN (dg t))))] zs.heap := hP.sub [0, 1, 2, 3] rfl
  refine z_ro (va_runV (As := [.int (nI i)]) (rest := []) ⟨hx, hb, hml, hown, hts⟩ (k_X2_endOf q_nt q_en q_ba q_de n t w i zh1) (cwV 1 hts gX2_through_X2_endOf rfl rfl rfl (by decide +kernel) ⟨Nat.le_of_ble_eq_true rfl, Nat.le_of_ble_eq_true rfl⟩) (zPr_V hZ hPc 0 rfl rfl) rfl rfl hl.1 rfl (lv_room (Nat.le_of_ble_eq_true rfl)) dX2_through_2 ⟨Nat.zero_le _, Nat.zero_le _⟩) (fun zr2 hzr2 => ?_)
  have ez := hzr2
  rw [ez]
  clear ez hzr2
  obtain ⟨zx3, ezx3⟩ : ∃ zx3 : Int32, zx3 = aE t i := ⟨_, rfl⟩
  replace hw := hw zx3 ezx3
  refine z_st (st' := [.int zx3]) (by rw [ezx3]) ?_
  refine lv_istore_n (lv' := [(2, .int zx3), (0, .ref q_nt), (1, .int (nI i))]) hx hb dX2_through_5 rfl hl (by decide) rfl (fun ls hl => ?_)
  refine lv_iload_n hx hb dX2_through_6 rfl (lv_at hl 0 rfl) ?_
  refine lv_iconst (v := (-1)) hx hb dX2_through_7 (by decide +kernel) ?_
  obtain ⟨hwt, hwf⟩ := hw
  refine lv_icmp_eq hx hb (tgt := 19) dX2_through_8 (by decide) (fun cc => ?_) (fun cc => ?_)
  · replace hw := hwt cc
    refine lv_iload_n hx hb dX2_through_19 rfl (lv_at hl 2 rfl) ?_
    refine lv_goto (tgt := 24) hx hb dX2_through_20 (by decide) ?_
    have er := hw
    exact W.iret (v := nI i) hx hb hr (fun t ht hW => ⟨_, rfl, (congrArg nI er), ht⟩) (fun _ h => by cases h) dX2_through_24
  · replace hw := hwf cc
    refine lv_aload_n hx hb dX2_through_11 rfl (lv_at hl 1 rfl) ?_
    refine lv_iload_n hx hb dX2_through_12 rfl (lv_at hl 2 rfl) ?_
    obtain ⟨zh4, hw⟩ := hw
    have hPc : va_P D vwCl [(q_nt, .inr (2, [.ref q_en, .ref q_ba, .ref q_de, .int (nI n), .int (nI (prs t))])), (q_en, .inl (cI, 32, .inl (aE t))), (q_ba, .inl (cZ, 32, .inl (aB w))), (q_de, .inl (cI, 8, .inl (aN (dg t))))] zs.heap := hP.sub [0, 1, 2, 3] rfl
    refine z_ro (va_runV (As := [.int (nI i)]) (rest := []) ⟨hx, hb, hml, hown, hts⟩ (k_X2_isBad q_nt q_en q_ba q_de n t w i zh4) (cwV 1 hts gX2_through_X2_isBad rfl rfl rfl (by decide +kernel) ⟨Nat.le_of_ble_eq_true rfl, Nat.le_of_ble_eq_true rfl⟩) (zPr_V hZ hPc 0 rfl rfl) rfl rfl hl.1 rfl (lv_room (Nat.le_of_ble_eq_true rfl)) dX2_through_13 ⟨Nat.zero_le _, Nat.zero_le _⟩) (fun zr5 hzr5 => ?_)
    have ez := hzr5
    rw [ez]
    clear ez hzr5
    obtain ⟨hwt, hwf⟩ := hw
    refine z_if_eqb hx hb (tgt := 23) dX2_through_16 (by decide) (fun cc => ?_) (fun cc => ?_)
    · replace hw := hwt cc
      refine lv_iload_n hx hb dX2_through_23 rfl (lv_at hl 0 rfl) ?_
      have er := hw
      exact W.iret (v := zx3) hx hb hr (fun t ht hW => ⟨_, rfl, er, ht⟩) (fun _ h => by cases h) dX2_through_24
    · replace hw := hwf cc
      refine lv_iload_n hx hb dX2_through_19 rfl (lv_at hl 2 rfl) ?_
      refine lv_goto (tgt := 24) hx hb dX2_through_20 (by decide) ?_
      have er := hw
      exact W.iret (v := nI i) hx hb hr (fun t ht hW => ⟨_, rfl, (congrArg nI er), ht⟩) (fun _ h => by cases h) dX2_through_24
theorem m_X2_walkOn_inX5 : Cond.initialized RX5 ∈ wsX2_walkOn := by decide +kernel
theorem m_X2_walkOn_stX5_postOf : Cond.static yX5_postOf ∈ wsX2_walkOn := by decide +kernel
theorem m_X2_walkOn_stX5_placeOf : Cond.static yX5_placeOf ∈ wsX2_walkOn := by decide +kernel
theorem m_X2_walkOn_stX5_doorOf : Cond.static yX5_doorOf ∈ wsX2_walkOn := by decide +kernel
set_option maxRecDepth 100000 in
set_option maxHeartbeats 4000000 in
theorem w_X2_walkOn {l : Launch} {D : va_G} {cI cZ : ClassId} (k_X5_postOf : K_X5_postOf l D cI cZ) (k_X2_degreeOf : K_X2_degreeOf l D cI cZ) (k_X5_placeOf : K_X5_placeOf l D cI cZ) (k_X2_through : K_X2_through l D cI cZ) (k_X5_doorOf : K_X5_doorOf l D cI cZ) (vv : V_X2_walkOn) : K_X2_walkOn l D cI cZ := by
  intro q_nt q_en q_ba q_de n t w i x how hpre0 hpre1 hpre2
  have vw := vv n t w i x how hpre0 hpre1 hpre2
  refine Met.ofW (cc := cX2_walkOn) (maxL := 7) (ret := (some .int)) (by decide) rfl ?_
  intro zp ze zs zm zargs zbelow zmeth zc zs1 B hml hv
  obtain ⟨rfl, hZ, hP⟩ := hv
  have hx := B.exec
  have hb := B.bytes
  have hr := B.returns
  have hts := atoms_spec (ws := wsX2_walkOn) B.pre
  have hown : zs.vm.findClass RX2 = some zm.cls := findClass_of_methodNamed B.named
  have hlocks := B.notSynchronized
  have hP : va_P D vwCl [(q_nt, .inr (2, [.ref q_en, .ref q_ba, .ref q_de, .int (nI n), .int (nI (prs t))])), (q_en, .inl (cI, 32, .inl (aE t))), (q_ba, .inl (cZ, 32, .inl (aB w))), (q_de, .inl (cI, 8, .inl (aN (dg t))))] zs.heap := hP
  have hl := lv_entry ([.ref q_nt, .int (nI i), .int (nI x), .int (nI how)]) (n := 7) (Nat.le_of_ble_eq_true rfl)
  rw [lg_entry_eq]
  generalize (lg_sl ([.ref q_nt, .int (nI i), .int (nI x), .int (nI how)]) ++ List.replicate (7 - (lg_sl ([.ref q_nt, .int (nI i), .int (nI x), .int (nI how)])).length) Slot.unset).toArray = ls at hl ⊢
  have hl : lv_has ls 7 [(0, .ref q_nt), (1, .int (nI i)), (2, .int (nI x)), (3, .int (nI how))] := hl
  have hw := vw
  unfold B_X2_walkOn_in at hw
  refine lv_iload_n hx hb dX2_walkOn_0 rfl (lv_at hl 1 rfl) ?_
  obtain ⟨zh1, hw⟩ := hw
  have hPc : va_P D vwCl [] zs.heap := hP.sub [] rfl
  refine z_ro (va_runSN (As := [.int (nI i)]) (rest := []) ⟨hx, hb, hml, hown, hts⟩ (k_X5_postOf i zh1) ⟨va_cnB 1 hts gX2_walkOn_X5_postOf_n45 rfl rfl rfl hZ.2.2.2.1 (hts _ m_X2_walkOn_inX5) (by decide +kernel) ⟨Nat.le_of_ble_eq_true rfl, Nat.le_of_ble_eq_true rfl⟩, (hts _ m_X2_walkOn_stX5_postOf), trivial⟩ (zPr_S hZ hPc) rfl rfl hl.1 rfl (lv_room (Nat.le_of_ble_eq_true rfl)) dX2_walkOn_1 ⟨Nat.zero_le _, Nat.zero_le _⟩) (fun zr2 hzr2 => ?_)
  have ez := hzr2
  rw [ez]
  clear ez hzr2
  obtain ⟨zx3, ezx3⟩ : ∃ zx3 : Nat, zx3 = i / 4 := ⟨_, rfl⟩
  replace hw := hw zx3 ezx3
  refine z_st (st' := [.int (nI zx3)]) (by rw [ezx3]) ?_
  refine lv_istore (lv' := [(4, .int (nI zx3)), (0, .ref q_nt), (1, .int (nI i)), (2, .int (nI x)), (3, .int (nI how))]) hx hb dX2_walkOn_4 hl (by decide) rfl (fun ls hl => ?_)
  refine lv_aload_n hx hb dX2_walkOn_6 rfl (lv_at hl 1 rfl) ?_
  refine lv_iload hx hb dX2_walkOn_7 (lv_at hl 0 rfl) ?_
  obtain ⟨zh4, hw⟩ := hw
  have hPc : va_P D vwCl [(q_nt, .inr (2, [.ref q_en, .ref q_ba, .ref q_de, .int (nI n), .int (nI (prs t))])), (q_en, .inl (cI, 32, .inl (aE t))), (q_ba, .inl (cZ, 32, .inl (aB w))), (q_de, .inl (cI, 8, .inl (aN (dg t))))] zs.heap := hP.sub [0, 1, 2, 3] rfl
  refine z_ro (va_runV (As := [.int (nI zx3)]) (rest := []) ⟨hx, hb, hml, hown, hts⟩ (k_X2_degreeOf q_nt q_en q_ba q_de n t w zx3 zh4) (cwV 1 hts gX2_walkOn_X2_degreeOf rfl rfl rfl (by decide +kernel) ⟨Nat.le_of_ble_eq_true rfl, Nat.le_of_ble_eq_true rfl⟩) (zPr_V hZ hPc 0 rfl rfl) rfl rfl hl.1 rfl (lv_room (Nat.le_of_ble_eq_true rfl)) dX2_walkOn_9 ⟨Nat.zero_le _, Nat.zero_le _⟩) (fun zr5 hzr5 => ?_)
  have ez := hzr5
  rw [ez]
  clear ez hzr5
  obtain ⟨zx6, ezx6⟩ : ∃ zx6 : Nat, zx6 = dg t zx3 := ⟨_, rfl⟩
  replace hw := hw zx6 ezx6
  refine z_st (st' := [.int (nI zx6)]) (by rw [ezx6]) ?_
  refine lv_istore (lv' := [(5, .int (nI zx6)), (4, .int (nI zx3)), (0, .ref q_nt), (1, .int (nI i)), (2, .int (nI x)), (3, .int (nI how))]) hx hb dX2_walkOn_12 hl (by decide) rfl (fun ls hl => ?_)
  refine lv_iload hx hb dX2_walkOn_14 (lv_at hl 0 rfl) ?_
  obtain ⟨zh7, hw⟩ := hw
  obtain ⟨hwt, hwf⟩ := hw
  refine z_if_gt hx hb zh7 (tgt := 21) dX2_walkOn_16 (by decide) (fun cc => ?_) (fun cc => ?_)
  · replace hw := hwt cc
    refine lv_iload_n hx hb dX2_walkOn_21 rfl (lv_at hl 5 rfl) ?_
    obtain ⟨zh8, hw⟩ := hw
    obtain ⟨hwt, hwf⟩ := hw
    refine z_if_ne hx hb zh8 (tgt := 32) dX2_walkOn_22 (by decide) (fun cc => ?_) (fun cc => ?_)
    · replace hw := hwt cc
      refine lv_iconst (v := nI 0) hx hb dX2_walkOn_32 (by decide +kernel) ?_
      refine lv_istore (lv' := [(6, .int (nI 0)), (5, .int (nI zx6)), (4, .int (nI zx3)), (0, .ref q_nt), (1, .int (nI i)), (2, .int (nI x)), (3, .int (nI how))]) hx hb dX2_walkOn_33 hl (by decide) rfl (fun ls hl => ?_)
      refine lv_aload_n hx hb dX2_walkOn_35 rfl (lv_at hl 3 rfl) ?_
      refine lv_iload hx hb dX2_walkOn_36 (lv_at hl 2 rfl) ?_
      refine lv_iload hx hb dX2_walkOn_38 (lv_at hl 0 rfl) ?_
      refine lv_iload_n hx hb dX2_walkOn_40 rfl (lv_at hl 5 rfl) ?_
      refine z_iadd hx hb (nI_add _ _) dX2_walkOn_41 ?_
      refine lv_iload hx hb dX2_walkOn_42 (lv_at hl 1 rfl) ?_
      obtain ⟨zh9, hw⟩ := hw
      obtain ⟨zh10, hw⟩ := hw
      obtain ⟨zh11, hw⟩ := hw
      refine z_irem hx hb (n_nz zh10 zh11) (n_rem zh9 zh10 zh11) dX2_walkOn_44 ?_
      have hPc : va_P D vwCl [] zs.heap := hP.sub [] rfl
      refine z_ro (va_runSN (As := [.int (nI zx3), .int (nI ((0 + x) % zx6))]) (rest := [.ref q_nt]) ⟨hx, hb, hml, hown, hts⟩ (k_X5_placeOf zx3 ((0 + x) % zx6)) ⟨va_cnB 2 hts gX2_walkOn_X5_placeOf_n62 rfl rfl rfl hZ.2.2.2.2.1 (hts _ m_X2_walkOn_inX5) (by decide +kernel) ⟨Nat.le_of_ble_eq_true rfl, Nat.le_of_ble_eq_true rfl⟩, (hts _ m_X2_walkOn_stX5_placeOf), trivial⟩ (zPr_S hZ hPc) rfl rfl hl.1 rfl (lv_room (Nat.le_of_ble_eq_true rfl)) dX2_walkOn_45 ⟨Nat.zero_le _, Nat.zero_le _⟩) (fun zr12 hzr12 => ?_)
      have ez := hzr12
      rw [ez]
      clear ez hzr12
      obtain ⟨zh13, hw⟩ := hw
      have hPc : va_P D vwCl [(q_nt, .inr (2, [.ref q_en, .ref q_ba, .ref q_de, .int (nI n), .int (nI (prs t))])), (q_en, .inl (cI, 32, .inl (aE t))), (q_ba, .inl (cZ, 32, .inl (aB w))), (q_de, .inl (cI, 8, .inl (aN (dg t))))] zs.heap := hP.sub [0, 1, 2, 3] rfl
      refine z_ro (va_runV (As := [.int (nI (4 * zx3 + ((0 + x) % zx6)))]) (rest := []) ⟨hx, hb, hml, hown, hts⟩ (k_X2_through q_nt q_en q_ba q_de n t w (4 * zx3 + ((0 + x) % zx6)) zh13) (cwV 1 hts gX2_walkOn_X2_through rfl rfl rfl (by decide +kernel) ⟨Nat.le_of_ble_eq_true rfl, Nat.le_of_ble_eq_true rfl⟩) (zPr_V hZ hPc 0 rfl rfl) rfl rfl hl.1 rfl (lv_room (Nat.le_of_ble_eq_true rfl)) dX2_walkOn_48 ⟨Nat.zero_le _, Nat.zero_le _⟩) (fun zr14 hzr14 => ?_)
      have ez := hzr14
      rw [ez]
      clear ez hzr14
      have er := hw
      exact W.iret (v := nI (thr t w (4 * zx3 + ((0 + x) % zx6)))) hx hb hr (fun t ht hW => ⟨_, rfl, (congrArg nI er), ht⟩) (fun _ h => by cases h) dX2_walkOn_51
    · replace hw := hwf cc
      refine lv_iload_n hx hb dX2_walkOn_25 rfl (lv_at hl 3 rfl) ?_
      obtain ⟨zh15, hw⟩ := hw
      have hPc : va_P D vwCl [] zs.heap := hP.sub [] rfl
      refine z_ro (va_runSN (As := [.int (nI i)]) (rest := []) ⟨hx, hb, hml, hown, hts⟩ (k_X5_doorOf i zh15) ⟨va_cnB 1 hts gX2_walkOn_X5_doorOf_n72 rfl rfl rfl hZ.2.2.2.2.2.1 (hts _ m_X2_walkOn_inX5) (by decide +kernel) ⟨Nat.le_of_ble_eq_true rfl, Nat.le_of_ble_eq_true rfl⟩, (hts _ m_X2_walkOn_stX5_doorOf), trivial⟩ (zPr_S hZ hPc) rfl rfl hl.1 rfl (lv_room (Nat.le_of_ble_eq_true rfl)) dX2_walkOn_26 ⟨Nat.zero_le _, Nat.zero_le _⟩) (fun zr16 hzr16 => ?_)
      have ez := hzr16
      rw [ez]
      clear ez hzr16
      refine lv_goto (tgt := 33) hx hb dX2_walkOn_29 (by decide) ?_
      obtain ⟨zx17, ezx17⟩ : ∃ zx17 : Nat, zx17 = i % 4 := ⟨_, rfl⟩
      replace hw := hw zx17 ezx17
      refine z_st (st' := [.int (nI zx17)]) (by rw [ezx17]) ?_
      refine lv_istore (lv' := [(6, .int (nI zx17)), (5, .int (nI zx6)), (4, .int (nI zx3)), (0, .ref q_nt), (1, .int (nI i)), (2, .int (nI x)), (3, .int (nI how))]) hx hb dX2_walkOn_33 hl (by decide) rfl (fun ls hl => ?_)
      refine lv_aload_n hx hb dX2_walkOn_35 rfl (lv_at hl 3 rfl) ?_
      refine lv_iload hx hb dX2_walkOn_36 (lv_at hl 2 rfl) ?_
      refine lv_iload hx hb dX2_walkOn_38 (lv_at hl 0 rfl) ?_
      refine lv_iload_n hx hb dX2_walkOn_40 rfl (lv_at hl 5 rfl) ?_
      refine z_iadd hx hb (nI_add _ _) dX2_walkOn_41 ?_
      refine lv_iload hx hb dX2_walkOn_42 (lv_at hl 1 rfl) ?_
      obtain ⟨zh18, hw⟩ := hw
      obtain ⟨zh19, hw⟩ := hw
      obtain ⟨zh20, hw⟩ := hw
      refine z_irem hx hb (n_nz zh19 zh20) (n_rem zh18 zh19 zh20) dX2_walkOn_44 ?_
      have hPc : va_P D vwCl [] zs.heap := hP.sub [] rfl
      refine z_ro (va_runSN (As := [.int (nI zx3), .int (nI ((zx17 + x) % zx6))]) (rest := [.ref q_nt]) ⟨hx, hb, hml, hown, hts⟩ (k_X5_placeOf zx3 ((zx17 + x) % zx6)) ⟨va_cnB 2 hts gX2_walkOn_X5_placeOf_n62 rfl rfl rfl hZ.2.2.2.2.1 (hts _ m_X2_walkOn_inX5) (by decide +kernel) ⟨Nat.le_of_ble_eq_true rfl, Nat.le_of_ble_eq_true rfl⟩, (hts _ m_X2_walkOn_stX5_placeOf), trivial⟩ (zPr_S hZ hPc) rfl rfl hl.1 rfl (lv_room (Nat.le_of_ble_eq_true rfl)) dX2_walkOn_45 ⟨Nat.zero_le _, Nat.zero_le _⟩) (fun zr21 hzr21 => ?_)
      have ez := hzr21
      rw [ez]
      clear ez hzr21
      obtain ⟨zh22, hw⟩ := hw
      have hPc : va_P D vwCl [(q_nt, .inr (2, [.ref q_en, .ref q_ba, .ref q_de, .int (nI n), .int (nI (prs t))])), (q_en, .inl (cI, 32, .inl (aE t))), (q_ba, .inl (cZ, 32, .inl (aB w))), (q_de, .inl (cI, 8, .inl (aN (dg t))))] zs.heap := hP.sub [0, 1, 2, 3] rfl
      refine z_ro (va_runV (As := [.int (nI (4 * zx3 + ((zx17 + x) % zx6)))]) (rest := []) ⟨hx, hb, hml, hown, hts⟩ (k_X2_through q_nt q_en q_ba q_de n t w (4 * zx3 + ((zx17 + x) % zx6)) zh22) (cwV 1 hts gX2_walkOn_X2_through rfl rfl rfl (by decide +kernel) ⟨Nat.le_of_ble_eq_true rfl, Nat.le_of_ble_eq_true rfl⟩) (zPr_V hZ hPc 0 rfl rfl) rfl rfl hl.1 rfl (lv_room (Nat.le_of_ble_eq_true rfl)) dX2_walkOn_48 ⟨Nat.zero_le _, Nat.zero_le _⟩) (fun zr23 hzr23 => ?_)
      have ez := hzr23
      rw [ez]
      clear ez hzr23
      have er := hw
      exact W.iret (v := nI (thr t w (4 * zx3 + ((zx17 + x) % zx6)))) hx hb hr (fun t ht hW => ⟨_, rfl, (congrArg nI er), ht⟩) (fun _ h => by cases h) dX2_walkOn_51
  · replace hw := hwf cc
    refine lv_iload_n hx hb dX2_walkOn_19 rfl (lv_at hl 3 rfl) ?_
    have er := hw
    exact W.iret (v := nI i) hx hb hr (fun t ht hW => ⟨_, rfl, (congrArg nI er), ht⟩) (fun _ h => by cases h) dX2_walkOn_20
theorem m_X5_rowOf_t_f19 : Cond.fieldLink RX5 19 "NetWalkers" "row" "LNetWalkers$Row;" ∈ wsX5_rowOf := by decide +kernel
theorem i_X5_rowOf_t_X5 : ∀ w ∈ wsX50, w ∈ wsX5_rowOf := by decide +kernel
theorem m_X5_rowOf_t_f23 : Cond.fieldLink RX5 23 "NetWalkers" "otherRow" "LNetWalkers$Row;" ∈ wsX5_rowOf := by decide +kernel
set_option maxRecDepth 100000 in
set_option maxHeartbeats 4000000 in
theorem w_X5_rowOf_t {l : Launch} {D : va_G} {cI cZ : ClassId} (vv : V_X5_rowOf_t) : K_X5_rowOf_t l D cI cZ := by
  intro q_x q_rw q_nm q_rv q_nv q_nt q_hd q_lk q_rg r L r2 L2 o hpre0
  have vw := vv r L r2 L2 o hpre0
  refine Met.ofW (cc := cX5_rowOf) (maxL := 2) (ret := (some (.object "NetWalkers$Row"))) (by decide) rfl ?_
  intro zp ze zs zm zargs zbelow zmeth zc zs1 B hml hv
  obtain ⟨rfl, hZ, hP⟩ := hv
  have hx := B.exec
  have hb := B.bytes
  have hr := B.returns
  have hts := atoms_spec (ws := wsX5_rowOf) B.pre
  have hown : zs.vm.findClass RX5 = some zm.cls := findClass_of_methodNamed B.named
  have hlocks := B.notSynchronized
  have hP : va_P D vwCl [(q_x, .inr (5, [.ref q_nt, .ref q_rw, .ref q_rv, .ref q_hd, .ref q_lk, .ref q_rg])), (q_rw, .inr (4, [.ref q_nm, .int (nI L)])), (q_nm, .inl (cI, 40, .inl (aN r))), (q_rv, .inr (4, [.ref q_nv, .int (nI L2)])), (q_nv, .inl (cI, 40, .inl (aN r2)))] zs.heap := hP
  have hl := lv_entry ([.ref q_x, .int (bI o)]) (n := 2) (Nat.le_of_ble_eq_true rfl)
  rw [lg_entry_eq]
  generalize (lg_sl ([.ref q_x, .int (bI o)]) ++ List.replicate (2 - (lg_sl ([.ref q_x, .int (bI o)])).length) Slot.unset).toArray = ls at hl ⊢
  have hl : lv_has ls 2 [(0, .ref q_x), (1, .int (bI o))] := hl
  have hw := vw
  unfold B_X5_rowOf_t_in at hw
  refine lv_iload_n hx hb dX5_rowOf_0 rfl (lv_at hl 1 rfl) ?_
  obtain ⟨hwt, hwf⟩ := hw
  refine z_if_eqb hx hb (tgt := 11) dX5_rowOf_1 (by decide) (fun cc => ?_) (fun cc => ?_)
  · replace hw := hwt cc
    refine lv_aload_n hx hb dX5_rowOf_11 rfl (lv_at hl 0 rfl) ?_
    refine va_get (D := D) (ci := 5) (v := .ref q_rw) (C := RX5) (T := TX5) (N := 6) hx hb hts i_X5_rowOf_t_X5 hown hZ.1 hP 0 rfl rfl 1 (by decide) (hts _ m_X5_rowOf_t_f19) (fun _ h9 => h9) rfl dX5_rowOf_12 ?_
    exact hw.elim
  · replace hw := hwf cc
    refine lv_aload_n hx hb dX5_rowOf_4 rfl (lv_at hl 0 rfl) ?_
    refine va_get (D := D) (ci := 5) (v := .ref q_rv) (C := RX5) (T := TX5) (N := 6) hx hb hts i_X5_rowOf_t_X5 hown hZ.1 hP 0 rfl rfl 2 (by decide) (hts _ m_X5_rowOf_t_f23) (fun _ h9 => h9) rfl dX5_rowOf_5 ?_
    refine lv_goto (tgt := 15) hx hb dX5_rowOf_8 (by decide) ?_
    clear hw
    exact W.aret (v := .ref q_rv) hx hb hr (Or.inl ⟨_, rfl⟩) (Or.inr ⟨_, rfl⟩) (fun t ht hW => ⟨_, rfl, rfl, ht⟩) (fun _ h => by cases h) dX5_rowOf_15
theorem m_X5_rowOf_f_f19 : Cond.fieldLink RX5 19 "NetWalkers" "row" "LNetWalkers$Row;" ∈ wsX5_rowOf := by decide +kernel
theorem i_X5_rowOf_f_X5 : ∀ w ∈ wsX50, w ∈ wsX5_rowOf := by decide +kernel
theorem m_X5_rowOf_f_f23 : Cond.fieldLink RX5 23 "NetWalkers" "otherRow" "LNetWalkers$Row;" ∈ wsX5_rowOf := by decide +kernel
set_option maxRecDepth 100000 in
set_option maxHeartbeats 4000000 in
theorem w_X5_rowOf_f {l : Launch} {D : va_G} {cI cZ : ClassId} (vv : V_X5_rowOf_f) : K_X5_rowOf_f l D cI cZ := by
  intro q_x q_rw q_nm q_rv q_nv q_nt q_hd q_lk q_rg r L r2 L2 o hpre0
  have vw := vv r L r2 L2 o hpre0
  refine Met.ofW (cc := cX5_rowOf) (maxL := 2) (ret := (some (.object "NetWalkers$Row"))) (by decide) rfl ?_
  intro zp ze zs zm zargs zbelow zmeth zc zs1 B hml hv
  obtain ⟨rfl, hZ, hP⟩ := hv
  have hx := B.exec
  have hb := B.bytes
  have hr := B.returns
  have hts := atoms_spec (ws := wsX5_rowOf) B.pre
  have hown : zs.vm.findClass RX5 = some zm.cls := findClass_of_methodNamed B.named
  have hlocks := B.notSynchronized
  have hP : va_P D vwCl [(q_x, .inr (5, [.ref q_nt, .ref q_rw, .ref q_rv, .ref q_hd, .ref q_lk, .ref q_rg])), (q_rw, .inr (4, [.ref q_nm, .int (nI L)])), (q_nm, .inl (cI, 40, .inl (aN r))), (q_rv, .inr (4, [.ref q_nv, .int (nI L2)])), (q_nv, .inl (cI, 40, .inl (aN r2)))] zs.heap := hP
  have hl := lv_entry ([.ref q_x, .int (bI o)]) (n := 2) (Nat.le_of_ble_eq_true rfl)
  rw [lg_entry_eq]
  generalize (lg_sl ([.ref q_x, .int (bI o)]) ++ List.replicate (2 - (lg_sl ([.ref q_x, .int (bI o)])).length) Slot.unset).toArray = ls at hl ⊢
  have hl : lv_has ls 2 [(0, .ref q_x), (1, .int (bI o))] := hl
  have hw := vw
  unfold B_X5_rowOf_f_in at hw
  refine lv_iload_n hx hb dX5_rowOf_0 rfl (lv_at hl 1 rfl) ?_
  obtain ⟨hwt, hwf⟩ := hw
  refine z_if_eqb hx hb (tgt := 11) dX5_rowOf_1 (by decide) (fun cc => ?_) (fun cc => ?_)
  · replace hw := hwt cc
    refine lv_aload_n hx hb dX5_rowOf_11 rfl (lv_at hl 0 rfl) ?_
    refine va_get (D := D) (ci := 5) (v := .ref q_rw) (C := RX5) (T := TX5) (N := 6) hx hb hts i_X5_rowOf_f_X5 hown hZ.1 hP 0 rfl rfl 1 (by decide) (hts _ m_X5_rowOf_f_f19) (fun _ h9 => h9) rfl dX5_rowOf_12 ?_
    clear hw
    exact W.aret (v := .ref q_rw) hx hb hr (Or.inl ⟨_, rfl⟩) (Or.inr ⟨_, rfl⟩) (fun t ht hW => ⟨_, rfl, rfl, ht⟩) (fun _ h => by cases h) dX5_rowOf_15
  · replace hw := hwf cc
    refine lv_aload_n hx hb dX5_rowOf_4 rfl (lv_at hl 0 rfl) ?_
    refine va_get (D := D) (ci := 5) (v := .ref q_rv) (C := RX5) (T := TX5) (N := 6) hx hb hts i_X5_rowOf_f_X5 hown hZ.1 hP 0 rfl rfl 2 (by decide) (hts _ m_X5_rowOf_f_f23) (fun _ h9 => h9) rfl dX5_rowOf_5 ?_
    refine lv_goto (tgt := 15) hx hb dX5_rowOf_8 (by decide) ?_
    exact hw.elim
