/-! ===== by program: the walks ===== -/
set_option maxRecDepth 100000 in
set_option maxHeartbeats 4000000 in
theorem w_X6_in {l : Launch} {D : va_G} {cI cZ : ClassId} (vv : V_X6_in) : K_X6_in l D cI cZ := by
  intro v lo hi
  have vw := vv v lo hi
  refine Met.ofW (cc := cX6_in) (maxL := 3) (ret := (some .boolean)) (by decide) rfl ?_
  intro zp ze zs zm zargs zbelow zmeth zc zs1 B hml hv
  obtain ⟨rfl, hZ, hP⟩ := hv
  have hx := B.exec
  have hb := B.bytes
  have hr := B.returns
  have hts := atoms_spec (ws := wsX6_in) B.pre
  have hown : zs.vm.findClass RX6 = some zm.cls := findClass_of_methodNamed B.named
  have hlocks := B.notSynchronized
  have hP : va_P D vwCl [] zs.heap := hP
  have hl := lv_entry ([.int v, .int lo, .int hi]) (n := 3) (Nat.le_of_ble_eq_true rfl)
  rw [lg_entry_eq]
  generalize (lg_sl ([.int v, .int lo, .int hi]) ++ List.replicate (3 - (lg_sl ([.int v, .int lo, .int hi])).length) Slot.unset).toArray = ls at hl ⊢
  have hl : lv_has ls 3 [(0, .int v), (1, .int lo), (2, .int hi)] := hl
  have hw := vw
  unfold B_X6_in_in at hw
  refine lv_iload_n hx hb dX6_in_0 rfl (lv_at hl 0 rfl) ?_
  refine lv_iload_n hx hb dX6_in_1 rfl (lv_at hl 1 rfl) ?_
  obtain ⟨hwt, hwf⟩ := hw
  refine lv_icmp_lt hx hb (tgt := 14) dX6_in_2 (by decide) (fun cc => ?_) (fun cc => ?_)
  · replace hw := hwt cc
    refine lv_iconst (v := nI 0) hx hb dX6_in_14 (by decide +kernel) ?_
    refine z_st (st' := [.int (bI false)]) rfl ?_
    have er := hw
    exact W.zret (ty := .boolean) (v := bI false) hx hb hr (bI_nar _) (fun t ht hW => ⟨_, rfl, (congrArg bI er), ht⟩) (fun _ h => by cases h) dX6_in_15
  · replace hw := hwf cc
    refine lv_iload_n hx hb dX6_in_5 rfl (lv_at hl 0 rfl) ?_
    refine lv_iload_n hx hb dX6_in_6 rfl (lv_at hl 2 rfl) ?_
    obtain ⟨hwt, hwf⟩ := hw
    refine lv_icmp_gt hx hb (tgt := 14) dX6_in_7 (by decide) (fun cc => ?_) (fun cc => ?_)
    · replace hw := hwt cc
      refine lv_iconst (v := nI 0) hx hb dX6_in_14 (by decide +kernel) ?_
      refine z_st (st' := [.int (bI false)]) rfl ?_
      have er := hw
      exact W.zret (ty := .boolean) (v := bI false) hx hb hr (bI_nar _) (fun t ht hW => ⟨_, rfl, (congrArg bI er), ht⟩) (fun _ h => by cases h) dX6_in_15
    · replace hw := hwf cc
      refine lv_iconst (v := nI 1) hx hb dX6_in_10 (by decide +kernel) ?_
      refine lv_goto (tgt := 15) hx hb dX6_in_11 (by decide) ?_
      refine z_st (st' := [.int (bI true)]) rfl ?_
      have er := hw
      exact W.zret (ty := .boolean) (v := bI true) hx hb hr (bI_nar _) (fun t ht hW => ⟨_, rfl, (congrArg bI er), ht⟩) (fun _ h => by cases h) dX6_in_15
theorem m_X6_begin_f13 : Cond.fieldLink RX6 13 "NetWalkersModel" "to" "[I" ∈ wsX6_begin := by decide +kernel
theorem i_X6_begin_X6 : ∀ w ∈ wsX60, w ∈ wsX6_begin := by decide +kernel
theorem m_X6_begin_f17 : Cond.fieldLink RX6 17 "NetWalkersModel" "isBad" "[Z" ∈ wsX6_begin := by decide +kernel
set_option maxRecDepth 100000 in
set_option maxHeartbeats 4000000 in
theorem w_X6_begin {l : Launch} {D : va_G} {cI cZ : ClassId} (vv : V_X6_begin) : K_X6_begin l D cI cZ := by
  intro q_md q_mt q_mb q_ml q_mr q_lo q_dp q_sh q_fd sz n t w r L r2 L2 a0 y0 lo dp cl sh fd
  have vw := vv n t w r L r2 L2 a0 y0 lo dp cl sh fd
  refine Met.ofW (cc := cX6_begin) (maxL := 2) (ret := none) (by decide) rfl ?_
  intro zp ze zs zm zargs zbelow zmeth zc zs1 B hml hv
  obtain ⟨rfl, hsz, hZ, hP, hD0⟩ := hv
  have hx := B.exec
  have hb := B.bytes
  have hr := B.returns
  have hts := atoms_spec (ws := wsX6_begin) B.pre
  have hown : zs.vm.findClass RX6 = some zm.cls := findClass_of_methodNamed B.named
  have hlocks := B.notSynchronized
  subst hsz
  have hD := hD0.self (sz := zs.heap.size)
  generalize hAe : va_A [(q_md, .inr (6, [.int (nI n), .ref q_mt, .ref q_mb, .ref q_ml, .ref q_mr, .int (nI a0), .int (nI y0), .ref q_lo, .ref q_dp, .int (nI cl), .ref q_sh, .ref q_fd])), (q_mt, .inl (cI, 32, .inl (t))), (q_mb, .inl (cZ, 32, .inl (aB w))), (q_ml, .inl (cI, 2, .inl (aN (lnF L L2)))), (q_mr, .inl (cI, 80, .inl (aN (rwF r r2)))), (q_lo, .inl (cI, 8, .inl (lo))), (q_dp, .inl (cI, 8, .inl (dp))), (q_sh, .inl (cI, 5, .inl (aN sh))), (q_fd, .inl (cI, 5, .inl (aN fd)))] zs.heap.size = A at hD ⊢
  have hA : ∀ q : Nat, zs.heap.size ≤ q → A q := fun q h => by rw [← hAe]; exact Or.inr h
  have hS : va_S A zs.heap zs.heap [] := va_S.rf
  have hP : va_P D vwCl [(q_md, .inr (6, [.int (nI n), .ref q_mt, .ref q_mb, .ref q_ml, .ref q_mr, .int (nI a0), .int (nI y0), .ref q_lo, .ref q_dp, .int (nI cl), .ref q_sh, .ref q_fd])), (q_mt, .inl (cI, 32, .inl (t))), (q_mb, .inl (cZ, 32, .inl (aB w))), (q_ml, .inl (cI, 2, .inl (aN (lnF L L2)))), (q_mr, .inl (cI, 80, .inl (aN (rwF r r2)))), (q_lo, .inl (cI, 8, .inl (lo))), (q_dp, .inl (cI, 8, .inl (dp))), (q_sh, .inl (cI, 5, .inl (aN sh))), (q_fd, .inl (cI, 5, .inl (aN fd)))] zs.heap := hP
  have hl := lv_entry ([.ref q_md]) (n := 2) (Nat.le_of_ble_eq_true rfl)
  rw [lg_entry_eq]
  generalize (lg_sl ([.ref q_md]) ++ List.replicate (2 - (lg_sl ([.ref q_md])).length) Slot.unset).toArray = ls at hl ⊢
  have hl : lv_has ls 2 [(0, .ref q_md)] := hl
  obtain ⟨X2, hX2⟩ : ∃ X : Nat → (Nat → Int32) → (Nat → Bool) → Prop, ∀ (v1 : Nat) (c_mt : Nat → Int32) (c_mb : Nat → Bool), X v1 c_mt c_mb ↔ (∀ (H : Heap) (locs : List Loc), va_P D vwCl [(q_md, .inr (6, [.int (nI n), .ref q_mt, .ref q_mb, .ref q_ml, .ref q_mr, .int (nI a0), .int (nI y0), .ref q_lo, .ref q_dp, .int (nI cl), .ref q_sh, .ref q_fd])), (q_mt, .inl (cI, 32, .inl (c_mt))), (q_mb, .inl (cZ, 32, .inl (aB c_mb))), (q_ml, .inl (cI, 2, .inl (aN (lnF L L2)))), (q_mr, .inl (cI, 80, .inl (aN (rwF r r2)))), (q_lo, .inl (cI, 8, .inl (lo))), (q_dp, .inl (cI, 8, .inl (dp))), (q_sh, .inl (cI, 5, .inl (aN sh))), (q_fd, .inl (cI, 5, .inl (aN fd)))] H → va_D A [(q_md, .inr (6, [.int (nI n), .ref q_mt, .ref q_mb, .ref q_ml, .ref q_mr, .int (nI a0), .int (nI y0), .ref q_lo, .ref q_dp, .int (nI cl), .ref q_sh, .ref q_fd])), (q_mt, .inl (cI, 32, .inl (c_mt))), (q_mb, .inl (cZ, 32, .inl (aB c_mb))), (q_ml, .inl (cI, 2, .inl (aN (lnF L L2)))), (q_mr, .inl (cI, 80, .inl (aN (rwF r r2)))), (q_lo, .inl (cI, 8, .inl (lo))), (q_dp, .inl (cI, 8, .inl (dp))), (q_sh, .inl (cI, 5, .inl (aN sh))), (q_fd, .inl (cI, 5, .inl (aN fd)))] → va_S A zs.heap H locs → ∀ ls : Array Slot, lv_has ls 2 [(0, .ref q_md), (1, .int (nI v1))] → W zp l ze (headSpec wsX6_begin ({ frames := 0, cells := 0, slots := 0, locals := 0 } : Room)).room zs zm ([.ref q_md] : List Value).toArray zbelow zmeth zc H locs 0 0 (MQ zbelow (va_Qv (S := Unit) (fun zu => True) (fun (zu : Unit) zt => va_P D vwCl [(q_md, .inr (6, [.int (nI n), .ref q_mt, .ref q_mb, .ref q_ml, .ref q_mr, .int (nI a0), .int (nI y0), .ref q_lo, .ref q_dp, .int (nI cl), .ref q_sh, .ref q_fd])), (q_mt, .inl (cI, 32, .inl (aT tF))), (q_mb, .inl (cZ, 32, .inl (aB wF))), (q_ml, .inl (cI, 2, .inl (aN (lnF L L2)))), (q_mr, .inl (cI, 80, .inl (aN (rwF r r2)))), (q_lo, .inl (cI, 8, .inl (lo))), (q_dp, .inl (cI, 8, .inl (dp))), (q_sh, .inl (cI, 5, .inl (aN sh))), (q_fd, .inl (cI, 5, .inl (aN fd)))] zt.heap ∧ va_D A [(q_md, .inr (6, [.int (nI n), .ref q_mt, .ref q_mb, .ref q_ml, .ref q_mr, .int (nI a0), .int (nI y0), .ref q_lo, .ref q_dp, .int (nI cl), .ref q_sh, .ref q_fd])), (q_mt, .inl (cI, 32, .inl (aT tF))), (q_mb, .inl (cZ, 32, .inl (aB wF))), (q_ml, .inl (cI, 2, .inl (aN (lnF L L2)))), (q_mr, .inl (cI, 80, .inl (aN (rwF r r2)))), (q_lo, .inl (cI, 8, .inl (lo))), (q_dp, .inl (cI, 8, .inl (dp))), (q_sh, .inl (cI, 5, .inl (aN sh))), (q_fd, .inl (cI, 5, .inl (aN fd)))]) A) ([.ref q_md] : List Value).toArray zs 0 0 A) (F0 zm 2 ls [])) := ⟨_, fun _ _ _ => Iff.rfl⟩
  have b2 : ∀ (v1 : Nat) (c_mt : Nat → Int32) (c_mb : Nat → Bool), B_X6_begin_2 n t w r L r2 L2 a0 y0 lo dp cl sh fd X2 v1 c_mt c_mb → X2 v1 c_mt c_mb := by
    intro v1 c_mt c_mb hw
    rw [hX2]
    intro H locs hP hD hS ls hl
    unfold B_X6_begin_2 at hw
    refine lv_iload_n hx hb dX6_begin_2 rfl (lv_at hl 1 rfl) ?_
    refine lv_bipush (v := nI 32) hx hb dX6_begin_3 (by decide +kernel) ?_
    obtain ⟨zh1, hw⟩ := hw
    obtain ⟨hwt, hwf⟩ := hw
    refine z_icmp_ge hx hb zh1 (by decide) (tgt := 29) dX6_begin_5 (by decide) (fun cc => ?_) (fun cc => ?_)
    · replace hw := hwt cc
      obtain ⟨ec_mt, ec_mb⟩ := hw
      have hP9 : va_P D vwCl [(q_md, .inr (6, [.int (nI n), .ref q_mt, .ref q_mb, .ref q_ml, .ref q_mr, .int (nI a0), .int (nI y0), .ref q_lo, .ref q_dp, .int (nI cl), .ref q_sh, .ref q_fd])), (q_mt, .inl (cI, 32, .inl (c_mt))), (q_mb, .inl (cZ, 32, .inl (aB c_mb))), (q_ml, .inl (cI, 2, .inl (aN (lnF L L2)))), (q_mr, .inl (cI, 80, .inl (aN (rwF r r2)))), (q_lo, .inl (cI, 8, .inl (lo))), (q_dp, .inl (cI, 8, .inl (dp))), (q_sh, .inl (cI, 5, .inl (aN sh))), (q_fd, .inl (cI, 5, .inl (aN fd)))] H := hP.sub [0, 1, 2, 3, 4, 5, 6, 7, 8] rfl
      have hD9 : va_D A [(q_md, .inr (6, [.int (nI n), .ref q_mt, .ref q_mb, .ref q_ml, .ref q_mr, .int (nI a0), .int (nI y0), .ref q_lo, .ref q_dp, .int (nI cl), .ref q_sh, .ref q_fd])), (q_mt, .inl (cI, 32, .inl (c_mt))), (q_mb, .inl (cZ, 32, .inl (aB c_mb))), (q_ml, .inl (cI, 2, .inl (aN (lnF L L2)))), (q_mr, .inl (cI, 80, .inl (aN (rwF r r2)))), (q_lo, .inl (cI, 8, .inl (lo))), (q_dp, .inl (cI, 8, .inl (dp))), (q_sh, .inl (cI, 5, .inl (aN sh))), (q_fd, .inl (cI, 5, .inl (aN fd)))] := hD.sub [0, 1, 2, 3, 4, 5, 6, 7, 8] (by decide) rfl
      have hP9 : va_P D vwCl [(q_md, .inr (6, [.int (nI n), .ref q_mt, .ref q_mb, .ref q_ml, .ref q_mr, .int (nI a0), .int (nI y0), .ref q_lo, .ref q_dp, .int (nI cl), .ref q_sh, .ref q_fd])), (q_mt, .inl (cI, 32, .inl (aT tF))), (q_mb, .inl (cZ, 32, .inl (aB c_mb))), (q_ml, .inl (cI, 2, .inl (aN (lnF L L2)))), (q_mr, .inl (cI, 80, .inl (aN (rwF r r2)))), (q_lo, .inl (cI, 8, .inl (lo))), (q_dp, .inl (cI, 8, .inl (dp))), (q_sh, .inl (cI, 5, .inl (aN sh))), (q_fd, .inl (cI, 5, .inl (aN fd)))] H := z_arr hP9 1 rfl ec_mt
      have hD9 : va_D A [(q_md, .inr (6, [.int (nI n), .ref q_mt, .ref q_mb, .ref q_ml, .ref q_mr, .int (nI a0), .int (nI y0), .ref q_lo, .ref q_dp, .int (nI cl), .ref q_sh, .ref q_fd])), (q_mt, .inl (cI, 32, .inl (aT tF))), (q_mb, .inl (cZ, 32, .inl (aB c_mb))), (q_ml, .inl (cI, 2, .inl (aN (lnF L L2)))), (q_mr, .inl (cI, 80, .inl (aN (rwF r r2)))), (q_lo, .inl (cI, 8, .inl (lo))), (q_dp, .inl (cI, 8, .inl (dp))), (q_sh, .inl (cI, 5, .inl (aN sh))), (q_fd, .inl (cI, 5, .inl (aN fd)))] := hD9.set (p := 1) (e := .inl (cI, 32, .inl (aT tF))) rfl
      have hP9 : va_P D vwCl [(q_md, .inr (6, [.int (nI n), .ref q_mt, .ref q_mb, .ref q_ml, .ref q_mr, .int (nI a0), .int (nI y0), .ref q_lo, .ref q_dp, .int (nI cl), .ref q_sh, .ref q_fd])), (q_mt, .inl (cI, 32, .inl (aT tF))), (q_mb, .inl (cZ, 32, .inl (aB wF))), (q_ml, .inl (cI, 2, .inl (aN (lnF L L2)))), (q_mr, .inl (cI, 80, .inl (aN (rwF r r2)))), (q_lo, .inl (cI, 8, .inl (lo))), (q_dp, .inl (cI, 8, .inl (dp))), (q_sh, .inl (cI, 5, .inl (aN sh))), (q_fd, .inl (cI, 5, .inl (aN fd)))] H := z_arr hP9 2 rfl (fun zi hi => congrArg bI (ec_mb zi hi))
      have hD9 : va_D A [(q_md, .inr (6, [.int (nI n), .ref q_mt, .ref q_mb, .ref q_ml, .ref q_mr, .int (nI a0), .int (nI y0), .ref q_lo, .ref q_dp, .int (nI cl), .ref q_sh, .ref q_fd])), (q_mt, .inl (cI, 32, .inl (aT tF))), (q_mb, .inl (cZ, 32, .inl (aB wF))), (q_ml, .inl (cI, 2, .inl (aN (lnF L L2)))), (q_mr, .inl (cI, 80, .inl (aN (rwF r r2)))), (q_lo, .inl (cI, 8, .inl (lo))), (q_dp, .inl (cI, 8, .inl (dp))), (q_sh, .inl (cI, 5, .inl (aN sh))), (q_fd, .inl (cI, 5, .inl (aN fd)))] := hD9.set (p := 2) (e := .inl (cZ, 32, .inl (aB wF))) rfl
      exact W.vret hx hb hr (fun t ht hW => ⟨⟨(), rfl, trivial, by rw [ht]; exact hP9, hD9⟩, hS.F ht⟩) hS.2.2 dX6_begin_29
    · replace hw := hwf cc
      refine lv_aload_n hx hb dX6_begin_8 rfl (lv_at hl 0 rfl) ?_
      refine va_get (D := D) (ci := 6) (v := .ref q_mt) (C := RX6) (T := TX6) (N := 12) hx hb hts i_X6_begin_X6 hown hZ.1 hP 0 rfl rfl 1 (by decide) (hts _ m_X6_begin_f13) (fun _ h9 => h9) rfl dX6_begin_9 ?_
      refine lv_iload_n hx hb dX6_begin_12 rfl (lv_at hl 1 rfl) ?_
      refine lv_bipush (v := (-6)) hx hb dX6_begin_13 (by decide +kernel) ?_
      obtain ⟨zh2, hw⟩ := hw
      refine z_iast hx hb hZ.1 hP hD hS 1 0 rfl rfl zh2 (by decide) (g := upd c_mt v1 (-6)) rfl dX6_begin_15 (fun H locs hP hD hS => ?_)
      have hP : va_P D vwCl [(q_md, .inr (6, [.int (nI n), .ref q_mt, .ref q_mb, .ref q_ml, .ref q_mr, .int (nI a0), .int (nI y0), .ref q_lo, .ref q_dp, .int (nI cl), .ref q_sh, .ref q_fd])), (q_mt, .inl (cI, 32, .inl (upd c_mt v1 (-6)))), (q_mb, .inl (cZ, 32, .inl (aB c_mb))), (q_ml, .inl (cI, 2, .inl (aN (lnF L L2)))), (q_mr, .inl (cI, 80, .inl (aN (rwF r r2)))), (q_lo, .inl (cI, 8, .inl (lo))), (q_dp, .inl (cI, 8, .inl (dp))), (q_sh, .inl (cI, 5, .inl (aN sh))), (q_fd, .inl (cI, 5, .inl (aN fd)))] H := hP
      have hD : va_D A [(q_md, .inr (6, [.int (nI n), .ref q_mt, .ref q_mb, .ref q_ml, .ref q_mr, .int (nI a0), .int (nI y0), .ref q_lo, .ref q_dp, .int (nI cl), .ref q_sh, .ref q_fd])), (q_mt, .inl (cI, 32, .inl (upd c_mt v1 (-6)))), (q_mb, .inl (cZ, 32, .inl (aB c_mb))), (q_ml, .inl (cI, 2, .inl (aN (lnF L L2)))), (q_mr, .inl (cI, 80, .inl (aN (rwF r r2)))), (q_lo, .inl (cI, 8, .inl (lo))), (q_dp, .inl (cI, 8, .inl (dp))), (q_sh, .inl (cI, 5, .inl (aN sh))), (q_fd, .inl (cI, 5, .inl (aN fd)))] := hD
      refine lv_aload_n hx hb dX6_begin_16 rfl (lv_at hl 0 rfl) ?_
      refine va_get (D := D) (ci := 6) (v := .ref q_mb) (C := RX6) (T := TX6) (N := 12) hx hb hts i_X6_begin_X6 hown hZ.1 hP 0 rfl rfl 2 (by decide) (hts _ m_X6_begin_f17) (fun _ h9 => h9) rfl dX6_begin_17 ?_
      refine lv_iload_n hx hb dX6_begin_20 rfl (lv_at hl 1 rfl) ?_
      refine lv_iconst (v := nI 0) hx hb dX6_begin_21 (by decide +kernel) ?_
      obtain ⟨zh3, hw⟩ := hw
      refine z_st (st' := [.int (bI false), .int (nI v1), .ref q_mb]) rfl ?_
      refine z_zast hx hb hZ.1 hP hD hS 2 1 rfl rfl zh3 (by decide) (g := aB (upB c_mb v1 false)) (aB_up _ _ _) dX6_begin_22 (fun H locs hP hD hS => ?_)
      have hP : va_P D vwCl [(q_md, .inr (6, [.int (nI n), .ref q_mt, .ref q_mb, .ref q_ml, .ref q_mr, .int (nI a0), .int (nI y0), .ref q_lo, .ref q_dp, .int (nI cl), .ref q_sh, .ref q_fd])), (q_mt, .inl (cI, 32, .inl (upd c_mt v1 (-6)))), (q_mb, .inl (cZ, 32, .inl (aB (upB c_mb v1 false)))), (q_ml, .inl (cI, 2, .inl (aN (lnF L L2)))), (q_mr, .inl (cI, 80, .inl (aN (rwF r r2)))), (q_lo, .inl (cI, 8, .inl (lo))), (q_dp, .inl (cI, 8, .inl (dp))), (q_sh, .inl (cI, 5, .inl (aN sh))), (q_fd, .inl (cI, 5, .inl (aN fd)))] H := hP
      have hD : va_D A [(q_md, .inr (6, [.int (nI n), .ref q_mt, .ref q_mb, .ref q_ml, .ref q_mr, .int (nI a0), .int (nI y0), .ref q_lo, .ref q_dp, .int (nI cl), .ref q_sh, .ref q_fd])), (q_mt, .inl (cI, 32, .inl (upd c_mt v1 (-6)))), (q_mb, .inl (cZ, 32, .inl (aB (upB c_mb v1 false)))), (q_ml, .inl (cI, 2, .inl (aN (lnF L L2)))), (q_mr, .inl (cI, 80, .inl (aN (rwF r r2)))), (q_lo, .inl (cI, 8, .inl (lo))), (q_dp, .inl (cI, 8, .inl (dp))), (q_sh, .inl (cI, 5, .inl (aN sh))), (q_fd, .inl (cI, 5, .inl (aN fd)))] := hD
      refine lv_iinc (v := nI (v1 + 1)) (lv' := [(1, .int (nI (v1 + 1))), (0, .ref q_md)]) hx hb dX6_begin_23 hl (k := 1) rfl (by rw [show Int32.ofInt 1 = nI 1 from by decide +kernel]; exact nI_add _ _) (by decide) rfl (fun ls hl => ?_)
      refine lv_goto (tgt := 2) hx hb dX6_begin_26 (by decide) ?_
      have hP9 : va_P D vwCl [(q_md, .inr (6, [.int (nI n), .ref q_mt, .ref q_mb, .ref q_ml, .ref q_mr, .int (nI a0), .int (nI y0), .ref q_lo, .ref q_dp, .int (nI cl), .ref q_sh, .ref q_fd])), (q_mt, .inl (cI, 32, .inl (upd c_mt v1 (-6)))), (q_mb, .inl (cZ, 32, .inl (aB (upB c_mb v1 false)))), (q_ml, .inl (cI, 2, .inl (aN (lnF L L2)))), (q_mr, .inl (cI, 80, .inl (aN (rwF r r2)))), (q_lo, .inl (cI, 8, .inl (lo))), (q_dp, .inl (cI, 8, .inl (dp))), (q_sh, .inl (cI, 5, .inl (aN sh))), (q_fd, .inl (cI, 5, .inl (aN fd)))] H := hP.sub [0, 1, 2, 3, 4, 5, 6, 7, 8] rfl
      have hD9 : va_D A [(q_md, .inr (6, [.int (nI n), .ref q_mt, .ref q_mb, .ref q_ml, .ref q_mr, .int (nI a0), .int (nI y0), .ref q_lo, .ref q_dp, .int (nI cl), .ref q_sh, .ref q_fd])), (q_mt, .inl (cI, 32, .inl (upd c_mt v1 (-6)))), (q_mb, .inl (cZ, 32, .inl (aB (upB c_mb v1 false)))), (q_ml, .inl (cI, 2, .inl (aN (lnF L L2)))), (q_mr, .inl (cI, 80, .inl (aN (rwF r r2)))), (q_lo, .inl (cI, 8, .inl (lo))), (q_dp, .inl (cI, 8, .inl (dp))), (q_sh, .inl (cI, 5, .inl (aN sh))), (q_fd, .inl (cI, 5, .inl (aN fd)))] := hD.sub [0, 1, 2, 3, 4, 5, 6, 7, 8] (by decide) rfl
      exact ((hX2 _ _ _).mp hw) _ _ hP9 hD9 hS ls (lv_sub hl [1, 0] rfl)
  have hw := vw X2 b2
  unfold B_X6_begin_in at hw
  refine lv_iconst (v := nI 0) hx hb dX6_begin_0 (by decide +kernel) ?_
  refine lv_istore_n (lv' := [(1, .int (nI 0)), (0, .ref q_md)]) hx hb dX6_begin_1 rfl hl (by decide) rfl (fun ls hl => ?_)
  have hP9 : va_P D vwCl [(q_md, .inr (6, [.int (nI n), .ref q_mt, .ref q_mb, .ref q_ml, .ref q_mr, .int (nI a0), .int (nI y0), .ref q_lo, .ref q_dp, .int (nI cl), .ref q_sh, .ref q_fd])), (q_mt, .inl (cI, 32, .inl (t))), (q_mb, .inl (cZ, 32, .inl (aB w))), (q_ml, .inl (cI, 2, .inl (aN (lnF L L2)))), (q_mr, .inl (cI, 80, .inl (aN (rwF r r2)))), (q_lo, .inl (cI, 8, .inl (lo))), (q_dp, .inl (cI, 8, .inl (dp))), (q_sh, .inl (cI, 5, .inl (aN sh))), (q_fd, .inl (cI, 5, .inl (aN fd)))] zs.heap := hP.sub [0, 1, 2, 3, 4, 5, 6, 7, 8] rfl
  have hD9 : va_D A [(q_md, .inr (6, [.int (nI n), .ref q_mt, .ref q_mb, .ref q_ml, .ref q_mr, .int (nI a0), .int (nI y0), .ref q_lo, .ref q_dp, .int (nI cl), .ref q_sh, .ref q_fd])), (q_mt, .inl (cI, 32, .inl (t))), (q_mb, .inl (cZ, 32, .inl (aB w))), (q_ml, .inl (cI, 2, .inl (aN (lnF L L2)))), (q_mr, .inl (cI, 80, .inl (aN (rwF r r2)))), (q_lo, .inl (cI, 8, .inl (lo))), (q_dp, .inl (cI, 8, .inl (dp))), (q_sh, .inl (cI, 5, .inl (aN sh))), (q_fd, .inl (cI, 5, .inl (aN fd)))] := hD.sub [0, 1, 2, 3, 4, 5, 6, 7, 8] (by decide) rfl
  exact ((hX2 _ _ _).mp hw) _ _ hP9 hD9 hS ls (lv_sub hl [1, 0] rfl)
theorem m_X6_isPost_f7 : Cond.fieldLink RX6 7 "NetWalkersModel" "posts" "I" ∈ wsX6_isPost := by decide +kernel
theorem i_X6_isPost_X6 : ∀ w ∈ wsX60, w ∈ wsX6_isPost := by decide +kernel
set_option maxRecDepth 100000 in
set_option maxHeartbeats 4000000 in
theorem w_X6_isPost {l : Launch} {D : va_G} {cI cZ : ClassId} (k_X6_in : K_X6_in l D cI cZ) (vv : V_X6_isPost) : K_X6_isPost l D cI cZ := by
  intro q_md q_mt q_mb q_ml q_mr q_lo q_dp q_sh q_fd n t w r L r2 L2 a0 y0 lo dp cl sh fd p hpre0 hpre1
  have vw := vv n t w r L r2 L2 a0 y0 lo dp cl sh fd p hpre0 hpre1
  refine Met.ofW (cc := cX6_isPost) (maxL := 2) (ret := (some .boolean)) (by decide) rfl ?_
  intro zp ze zs zm zargs zbelow zmeth zc zs1 B hml hv
  obtain ⟨rfl, hZ, hP⟩ := hv
  have hx := B.exec
  have hb := B.bytes
  have hr := B.returns
  have hts := atoms_spec (ws := wsX6_isPost) B.pre
  have hown : zs.vm.findClass RX6 = some zm.cls := findClass_of_methodNamed B.named
  have hlocks := B.notSynchronized
  have hP : va_P D vwCl [(q_md, .inr (6, [.int (nI n), .ref q_mt, .ref q_mb, .ref q_ml, .ref q_mr, .int (nI a0), .int (nI y0), .ref q_lo, .ref q_dp, .int (nI cl), .ref q_sh, .ref q_fd])), (q_mt, .inl (cI, 32, .inl (aT t))), (q_mb, .inl (cZ, 32, .inl (aB w))), (q_ml, .inl (cI, 2, .inl (aN (lnF L L2)))), (q_mr, .inl (cI, 80, .inl (aN (rwF r r2)))), (q_lo, .inl (cI, 8, .inl (lo))), (q_dp, .inl (cI, 8, .inl (dp))), (q_sh, .inl (cI, 5, .inl (aN sh))), (q_fd, .inl (cI, 5, .inl (aN fd)))] zs.heap := hP
  have hl := lv_entry ([.ref q_md, .int p]) (n := 2) (Nat.le_of_ble_eq_true rfl)
  rw [lg_entry_eq]
  generalize (lg_sl ([.ref q_md, .int p]) ++ List.replicate (2 - (lg_sl ([.ref q_md, .int p])).length) Slot.unset).toArray = ls at hl ⊢
  have hl : lv_has ls 2 [(0, .ref q_md), (1, .int p)] := hl
  have hw := vw
  unfold B_X6_isPost_in at hw
  refine lv_iload_n hx hb dX6_isPost_0 rfl (lv_at hl 1 rfl) ?_
  refine lv_iconst (v := nI 0) hx hb dX6_isPost_1 (by decide +kernel) ?_
  refine lv_aload_n hx hb dX6_isPost_2 rfl (lv_at hl 0 rfl) ?_
  refine va_get (D := D) (ci := 6) (v := .int (nI n)) (C := RX6) (T := TX6) (N := 12) hx hb hts i_X6_isPost_X6 hown hZ.1 hP 0 rfl rfl 0 (by decide) (hts _ m_X6_isPost_f7) (fun _ h9 => h9) rfl dX6_isPost_3 ?_
  refine lv_iconst (v := nI 1) hx hb dX6_isPost_6 (by decide +kernel) ?_
  obtain ⟨zh1, hw⟩ := hw
  refine z_isub hx hb (pk_sub zh1) dX6_isPost_7 ?_
  have hPc : va_P D vwCl [] zs.heap := hP.sub [] rfl
  refine z_ro (va_runS (As := [.int p, .int (nI 0), .int (nI (n - 1))]) (rest := []) ⟨hx, hb, hml, hown, hts⟩ (k_X6_in p (nI 0) (nI (n - 1))) (va_cwS 3 hts gX6_isPost_X6_in rfl rfl rfl (by decide +kernel) ⟨Nat.le_of_ble_eq_true rfl, Nat.le_of_ble_eq_true rfl⟩) (zPr_S hZ hPc) rfl rfl hl.1 rfl (lv_room (Nat.le_of_ble_eq_true rfl)) dX6_isPost_8 ⟨Nat.zero_le _, Nat.zero_le _⟩) (fun zr2 hzr2 => ?_)
  have ez := hzr2
  rw [ez]
  clear ez hzr2
  have er := hw
  exact W.zret (ty := .boolean) (v := bI (decide ((nI 0) ≤ p ∧ p ≤ (nI (n - 1))))) hx hb hr (bI_nar _) (fun t ht hW => ⟨_, rfl, (congrArg bI er), ht⟩) (fun _ h => by cases h) dX6_isPost_11
set_option maxRecDepth 100000 in
set_option maxHeartbeats 4000000 in
theorem w_X6_isDoor {l : Launch} {D : va_G} {cI cZ : ClassId} (k_X6_isPost : K_X6_isPost l D cI cZ) (k_X6_in : K_X6_in l D cI cZ) (vv : V_X6_isDoor) : K_X6_isDoor l D cI cZ := by
  intro q_md q_mt q_mb q_ml q_mr q_lo q_dp q_sh q_fd n t w r L r2 L2 a0 y0 lo dp cl sh fd p d hpre0 hpre1
  have vw := vv n t w r L r2 L2 a0 y0 lo dp cl sh fd p d hpre0 hpre1
  refine Met.ofW (cc := cX6_isDoor) (maxL := 3) (ret := (some .boolean)) (by decide) rfl ?_
  intro zp ze zs zm zargs zbelow zmeth zc zs1 B hml hv
  obtain ⟨rfl, hZ, hP⟩ := hv
  have hx := B.exec
  have hb := B.bytes
  have hr := B.returns
  have hts := atoms_spec (ws := wsX6_isDoor) B.pre
  have hown : zs.vm.findClass RX6 = some zm.cls := findClass_of_methodNamed B.named
  have hlocks := B.notSynchronized
  have hP : va_P D vwCl [(q_md, .inr (6, [.int (nI n), .ref q_mt, .ref q_mb, .ref q_ml, .ref q_mr, .int (nI a0), .int (nI y0), .ref q_lo, .ref q_dp, .int (nI cl), .ref q_sh, .ref q_fd])), (q_mt, .inl (cI, 32, .inl (aT t))), (q_mb, .inl (cZ, 32, .inl (aB w))), (q_ml, .inl (cI, 2, .inl (aN (lnF L L2)))), (q_mr, .inl (cI, 80, .inl (aN (rwF r r2)))), (q_lo, .inl (cI, 8, .inl (lo))), (q_dp, .inl (cI, 8, .inl (dp))), (q_sh, .inl (cI, 5, .inl (aN sh))), (q_fd, .inl (cI, 5, .inl (aN fd)))] zs.heap := hP
  have hl := lv_entry ([.ref q_md, .int p, .int d]) (n := 3) (Nat.le_of_ble_eq_true rfl)
  rw [lg_entry_eq]
  generalize (lg_sl ([.ref q_md, .int p, .int d]) ++ List.replicate (3 - (lg_sl ([.ref q_md, .int p, .int d])).length) Slot.unset).toArray = ls at hl ⊢
  have hl : lv_has ls 3 [(0, .ref q_md), (1, .int p), (2, .int d)] := hl
  have hw := vw
  unfold B_X6_isDoor_in at hw
  refine lv_aload_n hx hb dX6_isDoor_0 rfl (lv_at hl 0 rfl) ?_
  refine lv_iload_n hx hb dX6_isDoor_1 rfl (lv_at hl 1 rfl) ?_
  obtain ⟨zh1, hw⟩ := hw
  obtain ⟨zh2, hw⟩ := hw
  have hPc : va_P D vwCl [(q_md, .inr (6, [.int (nI n), .ref q_mt, .ref q_mb, .ref q_ml, .ref q_mr, .int (nI a0), .int (nI y0), .ref q_lo, .ref q_dp, .int (nI cl), .ref q_sh, .ref q_fd])), (q_mt, .inl (cI, 32, .inl (aT t))), (q_mb, .inl (cZ, 32, .inl (aB w))), (q_ml, .inl (cI, 2, .inl (aN (lnF L L2)))), (q_mr, .inl (cI, 80, .inl (aN (rwF r r2)))), (q_lo, .inl (cI, 8, .inl (lo))), (q_dp, .inl (cI, 8, .inl (dp))), (q_sh, .inl (cI, 5, .inl (aN sh))), (q_fd, .inl (cI, 5, .inl (aN fd)))] zs.heap := hP.sub [0, 1, 2, 3, 4, 5, 6, 7, 8] rfl
  refine z_ro (va_runV (As := [.int p]) (rest := []) ⟨hx, hb, hml, hown, hts⟩ (k_X6_isPost q_md q_mt q_mb q_ml q_mr q_lo q_dp q_sh q_fd n t w r L r2 L2 a0 y0 lo dp cl sh fd p zh1 zh2) (cwV 1 hts gX6_isDoor_X6_isPost rfl rfl rfl (by decide +kernel) ⟨Nat.le_of_ble_eq_true rfl, Nat.le_of_ble_eq_true rfl⟩) (zPr_V hZ hPc 0 rfl rfl) rfl rfl hl.1 rfl (lv_room (Nat.le_of_ble_eq_true rfl)) dX6_isDoor_2 ⟨Nat.zero_le _, Nat.zero_le _⟩) (fun zr3 hzr3 => ?_)
  have ez := hzr3
  rw [ez]
  clear ez hzr3
  obtain ⟨hwt, hwf⟩ := hw
  refine z_if_eqb hx hb (tgt := 21) dX6_isDoor_5 (by decide) (fun cc => ?_) (fun cc => ?_)
  · replace hw := hwt cc
    refine lv_iconst (v := nI 0) hx hb dX6_isDoor_21 (by decide +kernel) ?_
    refine z_st (st' := [.int (bI false)]) rfl ?_
    have er := hw
    exact W.zret (ty := .boolean) (v := bI false) hx hb hr (bI_nar _) (fun t ht hW => ⟨_, rfl, (congrArg bI er), ht⟩) (fun _ h => by cases h) dX6_isDoor_22
  · replace hw := hwf cc
    refine lv_iload_n hx hb dX6_isDoor_8 rfl (lv_at hl 2 rfl) ?_
    refine lv_iconst (v := nI 0) hx hb dX6_isDoor_9 (by decide +kernel) ?_
    refine lv_iconst (v := nI 3) hx hb dX6_isDoor_10 (by decide +kernel) ?_
    have hPc : va_P D vwCl [] zs.heap := hP.sub [] rfl
    refine z_ro (va_runS (As := [.int d, .int (nI 0), .int (nI 3)]) (rest := []) ⟨hx, hb, hml, hown, hts⟩ (k_X6_in d (nI 0) (nI 3)) (va_cwS 3 hts gX6_isDoor_X6_in rfl rfl rfl (by decide +kernel) ⟨Nat.le_of_ble_eq_true rfl, Nat.le_of_ble_eq_true rfl⟩) (zPr_S hZ hPc) rfl rfl hl.1 rfl (lv_room (Nat.le_of_ble_eq_true rfl)) dX6_isDoor_11 ⟨Nat.zero_le _, Nat.zero_le _⟩) (fun zr4 hzr4 => ?_)
    have ez := hzr4
    rw [ez]
    clear ez hzr4
    obtain ⟨hwt, hwf⟩ := hw
    refine z_if_eqb hx hb (tgt := 21) dX6_isDoor_14 (by decide) (fun cc => ?_) (fun cc => ?_)
    · replace hw := hwt cc
      refine lv_iconst (v := nI 0) hx hb dX6_isDoor_21 (by decide +kernel) ?_
      refine z_st (st' := [.int (bI false)]) rfl ?_
      have er := hw
      exact W.zret (ty := .boolean) (v := bI false) hx hb hr (bI_nar _) (fun t ht hW => ⟨_, rfl, (congrArg bI er), ht⟩) (fun _ h => by cases h) dX6_isDoor_22
    · replace hw := hwf cc
      refine lv_iconst (v := nI 1) hx hb dX6_isDoor_17 (by decide +kernel) ?_
      refine lv_goto (tgt := 22) hx hb dX6_isDoor_18 (by decide) ?_
      refine z_st (st' := [.int (bI true)]) rfl ?_
      have er := hw
      exact W.zret (ty := .boolean) (v := bI true) hx hb hr (bI_nar _) (fun t ht hW => ⟨_, rfl, (congrArg bI er), ht⟩) (fun _ h => by cases h) dX6_isDoor_22
theorem m_X6_posts_f7 : Cond.fieldLink RX6 7 "NetWalkersModel" "posts" "I" ∈ wsX6_posts := by decide +kernel
theorem i_X6_posts_X6 : ∀ w ∈ wsX60, w ∈ wsX6_posts := by decide +kernel
set_option maxRecDepth 100000 in
set_option maxHeartbeats 4000000 in
theorem w_X6_posts {l : Launch} {D : va_G} {cI cZ : ClassId} (k_X6_in : K_X6_in l D cI cZ) (k_X6_begin : K_X6_begin l D cI cZ) (vv : V_X6_posts) : K_X6_posts l D cI cZ := by
  intro q_md q_mt q_mb q_ml q_mr q_lo q_dp q_sh q_fd sz n t w r L r2 L2 a0 y0 lo dp cl sh fd m hpre0
  have vw := vv n t w r L r2 L2 a0 y0 lo dp cl sh fd m hpre0
  refine Met.ofW (cc := cX6_posts) (maxL := 3) (ret := (some .int)) (by decide) rfl ?_
  intro zp ze zs zm zargs zbelow zmeth zc zs1 B hml hv
  obtain ⟨rfl, hsz, hZ, hP, hD0⟩ := hv
  have hx := B.exec
  have hb := B.bytes
  have hr := B.returns
  have hts := atoms_spec (ws := wsX6_posts) B.pre
  have hown : zs.vm.findClass RX6 = some zm.cls := findClass_of_methodNamed B.named
  have hlocks := B.notSynchronized
  subst hsz
  have hD := hD0.self (sz := zs.heap.size)
  generalize hAe : va_A [(q_md, .inr (6, [.int (nI n), .ref q_mt, .ref q_mb, .ref q_ml, .ref q_mr, .int (nI a0), .int (nI y0), .ref q_lo, .ref q_dp, .int (nI cl), .ref q_sh, .ref q_fd])), (q_mt, .inl (cI, 32, .inl (aT t))), (q_mb, .inl (cZ, 32, .inl (aB w))), (q_ml, .inl (cI, 2, .inl (aN (lnF L L2)))), (q_mr, .inl (cI, 80, .inl (aN (rwF r r2)))), (q_lo, .inl (cI, 8, .inl (lo))), (q_dp, .inl (cI, 8, .inl (dp))), (q_sh, .inl (cI, 5, .inl (aN sh))), (q_fd, .inl (cI, 5, .inl (aN fd)))] zs.heap.size = A at hD ⊢
  have hA : ∀ q : Nat, zs.heap.size ≤ q → A q := fun q h => by rw [← hAe]; exact Or.inr h
  have hS : va_S A zs.heap zs.heap [] := va_S.rf
  have hP : va_P D vwCl [(q_md, .inr (6, [.int (nI n), .ref q_mt, .ref q_mb, .ref q_ml, .ref q_mr, .int (nI a0), .int (nI y0), .ref q_lo, .ref q_dp, .int (nI cl), .ref q_sh, .ref q_fd])), (q_mt, .inl (cI, 32, .inl (aT t))), (q_mb, .inl (cZ, 32, .inl (aB w))), (q_ml, .inl (cI, 2, .inl (aN (lnF L L2)))), (q_mr, .inl (cI, 80, .inl (aN (rwF r r2)))), (q_lo, .inl (cI, 8, .inl (lo))), (q_dp, .inl (cI, 8, .inl (dp))), (q_sh, .inl (cI, 5, .inl (aN sh))), (q_fd, .inl (cI, 5, .inl (aN fd)))] zs.heap := hP
  have hl := lv_entry ([.ref q_md, .int m]) (n := 3) (Nat.le_of_ble_eq_true rfl)
  rw [lg_entry_eq]
  generalize (lg_sl ([.ref q_md, .int m]) ++ List.replicate (3 - (lg_sl ([.ref q_md, .int m])).length) Slot.unset).toArray = ls at hl ⊢
  have hl : lv_has ls 3 [(0, .ref q_md), (1, .int m)] := hl
  have hw := vw
  unfold B_X6_posts_in at hw
  refine lv_iload_n hx hb dX6_posts_0 rfl (lv_at hl 1 rfl) ?_
  refine lv_iconst (v := nI 1) hx hb dX6_posts_1 (by decide +kernel) ?_
  refine lv_bipush (v := nI 8) hx hb dX6_posts_2 (by decide +kernel) ?_
  have hPc : va_P D vwCl [] zs.heap := hP.sub [] rfl
  refine z_ro (va_runS (As := [.int m, .int (nI 1), .int (nI 8)]) (rest := []) ⟨hx, hb, hml, hown, hts⟩ (k_X6_in m (nI 1) (nI 8)) (va_cwS 3 hts gX6_posts_X6_in rfl rfl rfl (by decide +kernel) ⟨Nat.le_of_ble_eq_true rfl, Nat.le_of_ble_eq_true rfl⟩) (zPr_S hZ hPc) rfl rfl hl.1 rfl (lv_room (Nat.le_of_ble_eq_true rfl)) dX6_posts_4 ⟨Nat.zero_le _, Nat.zero_le _⟩) (fun zr1 hzr1 => ?_)
  have ez := hzr1
  rw [ez]
  clear ez hzr1
  obtain ⟨hwt, hwf⟩ := hw
  refine z_if_neb hx hb (tgt := 13) dX6_posts_7 (by decide) (fun cc => ?_) (fun cc => ?_)
  · replace hw := hwt cc
    refine lv_aload_n hx hb dX6_posts_13 rfl (lv_at hl 0 rfl) ?_
    refine va_get (D := D) (ci := 6) (v := .int (nI n)) (C := RX6) (T := TX6) (N := 12) hx hb hts i_X6_posts_X6 hown hZ.1 hP 0 rfl rfl 0 (by decide) (hts _ m_X6_posts_f7) (fun _ h9 => h9) rfl dX6_posts_14 ?_
    refine lv_istore_n (lv' := [(2, .int (nI n)), (0, .ref q_md), (1, .int m)]) hx hb dX6_posts_17 rfl hl (by decide) rfl (fun ls hl => ?_)
    refine lv_aload_n hx hb dX6_posts_18 rfl (lv_at hl 1 rfl) ?_
    refine lv_iload_n hx hb dX6_posts_19 rfl (lv_at hl 2 rfl) ?_
    obtain ⟨zk2, ezk2, hw⟩ := hw
    refine z_st (st' := [.int (nI zk2), .ref q_md]) (by rw [ezk2]) ?_
    refine va_put (D := D) (ci := 6) (v := .int (nI zk2)) (ty := .int) (C := RX6) (T := TX6) (N := 12) hx hb hts i_X6_posts_X6 tyX6 tyX6_ok nmX6 hown hZ.1 hP hD hS 0 rfl rfl 0 (by decide) (hts _ m_X6_posts_f7) (fun _ h9 => h9) rfl (by decide +kernel) rfl rfl (Nat.le_of_ble_eq_true rfl) dX6_posts_20 (fun H locs hP hD hS => ?_)
    have hP : va_P D vwCl [(q_md, .inr (6, [.int (nI zk2), .ref q_mt, .ref q_mb, .ref q_ml, .ref q_mr, .int (nI a0), .int (nI y0), .ref q_lo, .ref q_dp, .int (nI cl), .ref q_sh, .ref q_fd])), (q_mt, .inl (cI, 32, .inl (aT t))), (q_mb, .inl (cZ, 32, .inl (aB w))), (q_ml, .inl (cI, 2, .inl (aN (lnF L L2)))), (q_mr, .inl (cI, 80, .inl (aN (rwF r r2)))), (q_lo, .inl (cI, 8, .inl (lo))), (q_dp, .inl (cI, 8, .inl (dp))), (q_sh, .inl (cI, 5, .inl (aN sh))), (q_fd, .inl (cI, 5, .inl (aN fd)))] H := hP
    have hD : va_D A [(q_md, .inr (6, [.int (nI zk2), .ref q_mt, .ref q_mb, .ref q_ml, .ref q_mr, .int (nI a0), .int (nI y0), .ref q_lo, .ref q_dp, .int (nI cl), .ref q_sh, .ref q_fd])), (q_mt, .inl (cI, 32, .inl (aT t))), (q_mb, .inl (cZ, 32, .inl (aB w))), (q_ml, .inl (cI, 2, .inl (aN (lnF L L2)))), (q_mr, .inl (cI, 80, .inl (aN (rwF r r2)))), (q_lo, .inl (cI, 8, .inl (lo))), (q_dp, .inl (cI, 8, .inl (dp))), (q_sh, .inl (cI, 5, .inl (aN sh))), (q_fd, .inl (cI, 5, .inl (aN fd)))] := hD
    refine lv_aload_n hx hb dX6_posts_23 rfl (lv_at hl 1 rfl) ?_
    have hPc : va_P D vwCl [(q_md, .inr (6, [.int (nI zk2), .ref q_mt, .ref q_mb, .ref q_ml, .ref q_mr, .int (nI a0), .int (nI y0), .ref q_lo, .ref q_dp, .int (nI cl), .ref q_sh, .ref q_fd])), (q_mt, .inl (cI, 32, .inl ((aT t)))), (q_mb, .inl (cZ, 32, .inl (aB w))), (q_ml, .inl (cI, 2, .inl (aN (lnF L L2)))), (q_mr, .inl (cI, 80, .inl (aN (rwF r r2)))), (q_lo, .inl (cI, 8, .inl (lo))), (q_dp, .inl (cI, 8, .inl (dp))), (q_sh, .inl (cI, 5, .inl (aN sh))), (q_fd, .inl (cI, 5, .inl (aN fd)))] H := hP.sub [0, 1, 2, 3, 4, 5, 6, 7, 8] rfl
    have hDc : va_D A [(q_md, .inr (6, [.int (nI zk2), .ref q_mt, .ref q_mb, .ref q_ml, .ref q_mr, .int (nI a0), .int (nI y0), .ref q_lo, .ref q_dp, .int (nI cl), .ref q_sh, .ref q_fd])), (q_mt, .inl (cI, 32, .inl ((aT t)))), (q_mb, .inl (cZ, 32, .inl (aB w))), (q_ml, .inl (cI, 2, .inl (aN (lnF L L2)))), (q_mr, .inl (cI, 80, .inl (aN (rwF r r2)))), (q_lo, .inl (cI, 8, .inl (lo))), (q_dp, .inl (cI, 8, .inl (dp))), (q_sh, .inl (cI, 5, .inl (aN sh))), (q_fd, .inl (cI, 5, .inl (aN fd)))] := hD.sub [0, 1, 2, 3, 4, 5, 6, 7, 8] (by decide) rfl
    have hFc := va_free (wc := [(q_md, .inr (6, [.int (nI zk2), .ref q_mt, .ref q_mb, .ref q_ml, .ref q_mr, .int (nI a0), .int (nI y0), .ref q_lo, .ref q_dp, .int (nI cl), .ref q_sh, .ref q_fd])), (q_mt, .inl (cI, 32, .inl ((aT t)))), (q_mb, .inl (cZ, 32, .inl (aB w))), (q_ml, .inl (cI, 2, .inl (aN (lnF L L2)))), (q_mr, .inl (cI, 80, .inl (aN (rwF r r2)))), (q_lo, .inl (cI, 8, .inl (lo))), (q_dp, .inl (cI, 8, .inl (dp))), (q_sh, .inl (cI, 5, .inl (aN sh))), (q_fd, .inl (cI, 5, .inl (aN fd)))]) hD hS hA [0, 1, 2, 3, 4, 5, 6, 7, 8] rfl
    refine va_callv (va_runV (As := []) (rest := []) ⟨hx, hb, hml, hown, hts⟩ (k_X6_begin q_md q_mt q_mb q_ml q_mr q_lo q_dp q_sh q_fd H.size zk2 (aT t) w r L r2 L2 a0 y0 lo dp cl sh fd) (cwV 0 hts gX6_posts_X6_begin rfl rfl rfl (by decide +kernel) ⟨Nat.le_of_ble_eq_true rfl, Nat.le_of_ble_eq_true rfl⟩) (zPw_V hZ hPc (hDc.weaken (fun _ _ _ _ => trivial)) 0 rfl rfl) rfl rfl hl.1 rfl (lv_room (Nat.le_of_ble_eq_true rfl)) dX6_posts_24 ⟨Nat.zero_le _, Nat.zero_le _⟩) hS (fun q _ h => hFc q h) hFc (fun zu zt H1 locs1 ht hvm hq hB hz1 hk1 hS => ?_)
    obtain ⟨hP1, hD1⟩ := hB
    rw [ht] at hP1
    obtain ⟨hP, hD⟩ := va_join (wr := []) (w1 := [(q_md, .inr (6, [.int (nI zk2), .ref q_mt, .ref q_mb, .ref q_ml, .ref q_mr, .int (nI a0), .int (nI y0), .ref q_lo, .ref q_dp, .int (nI cl), .ref q_sh, .ref q_fd])), (q_mt, .inl (cI, 32, .inl (aT tF))), (q_mb, .inl (cZ, 32, .inl (aB wF))), (q_ml, .inl (cI, 2, .inl (aN (lnF L L2)))), (q_mr, .inl (cI, 80, .inl (aN (rwF r r2)))), (q_lo, .inl (cI, 8, .inl (lo))), (q_dp, .inl (cI, 8, .inl (dp))), (q_sh, .inl (cI, 5, .inl (aN sh))), (q_fd, .inl (cI, 5, .inl (aN fd)))]) hP hD [0, 1, 2, 3, 4, 5, 6, 7, 8] [] rfl rfl (by decide) (by decide) hk1 hFc hP1 hD1
    have hP : va_P D vwCl [(q_md, .inr (6, [.int (nI zk2), .ref q_mt, .ref q_mb, .ref q_ml, .ref q_mr, .int (nI a0), .int (nI y0), .ref q_lo, .ref q_dp, .int (nI cl), .ref q_sh, .ref q_fd])), (q_mt, .inl (cI, 32, .inl (aT tF))), (q_mb, .inl (cZ, 32, .inl (aB wF))), (q_ml, .inl (cI, 2, .inl (aN (lnF L L2)))), (q_mr, .inl (cI, 80, .inl (aN (rwF r r2)))), (q_lo, .inl (cI, 8, .inl (lo))), (q_dp, .inl (cI, 8, .inl (dp))), (q_sh, .inl (cI, 5, .inl (aN sh))), (q_fd, .inl (cI, 5, .inl (aN fd)))] H1 := hP
    have hD : va_D A [(q_md, .inr (6, [.int (nI zk2), .ref q_mt, .ref q_mb, .ref q_ml, .ref q_mr, .int (nI a0), .int (nI y0), .ref q_lo, .ref q_dp, .int (nI cl), .ref q_sh, .ref q_fd])), (q_mt, .inl (cI, 32, .inl (aT tF))), (q_mb, .inl (cZ, 32, .inl (aB wF))), (q_ml, .inl (cI, 2, .inl (aN (lnF L L2)))), (q_mr, .inl (cI, 80, .inl (aN (rwF r r2)))), (q_lo, .inl (cI, 8, .inl (lo))), (q_dp, .inl (cI, 8, .inl (dp))), (q_sh, .inl (cI, 5, .inl (aN sh))), (q_fd, .inl (cI, 5, .inl (aN fd)))] := hD
    clear hP1 hD1 hk1 hz1 hFc hDc hPc ht hvm
    refine lv_iload_n hx hb dX6_posts_27 rfl (lv_at hl 0 rfl) ?_
    obtain ⟨er, ec_mt, ec_mb, ec_ps⟩ := hw
    have hP9 : va_P D vwCl [(q_md, .inr (6, [.int (nI zk2), .ref q_mt, .ref q_mb, .ref q_ml, .ref q_mr, .int (nI a0), .int (nI y0), .ref q_lo, .ref q_dp, .int (nI cl), .ref q_sh, .ref q_fd])), (q_mt, .inl (cI, 32, .inl (aT tF))), (q_mb, .inl (cZ, 32, .inl (aB wF))), (q_ml, .inl (cI, 2, .inl (aN (lnF L L2)))), (q_mr, .inl (cI, 80, .inl (aN (rwF r r2)))), (q_lo, .inl (cI, 8, .inl (lo))), (q_dp, .inl (cI, 8, .inl (dp))), (q_sh, .inl (cI, 5, .inl (aN sh))), (q_fd, .inl (cI, 5, .inl (aN fd)))] H1 := hP.sub [0, 1, 2, 3, 4, 5, 6, 7, 8] rfl
    have hD9 : va_D A [(q_md, .inr (6, [.int (nI zk2), .ref q_mt, .ref q_mb, .ref q_ml, .ref q_mr, .int (nI a0), .int (nI y0), .ref q_lo, .ref q_dp, .int (nI cl), .ref q_sh, .ref q_fd])), (q_mt, .inl (cI, 32, .inl (aT tF))), (q_mb, .inl (cZ, 32, .inl (aB wF))), (q_ml, .inl (cI, 2, .inl (aN (lnF L L2)))), (q_mr, .inl (cI, 80, .inl (aN (rwF r r2)))), (q_lo, .inl (cI, 8, .inl (lo))), (q_dp, .inl (cI, 8, .inl (dp))), (q_sh, .inl (cI, 5, .inl (aN sh))), (q_fd, .inl (cI, 5, .inl (aN fd)))] := hD.sub [0, 1, 2, 3, 4, 5, 6, 7, 8] (by decide) rfl
    have hP9 : va_P D vwCl [(q_md, .inr (6, [.int (nI zk2), .ref q_mt, .ref q_mb, .ref q_ml, .ref q_mr, .int (nI a0), .int (nI y0), .ref q_lo, .ref q_dp, .int (nI cl), .ref q_sh, .ref q_fd])), (q_mt, .inl (cI, 32, .inl (aT (poT t m)))), (q_mb, .inl (cZ, 32, .inl (aB wF))), (q_ml, .inl (cI, 2, .inl (aN (lnF L L2)))), (q_mr, .inl (cI, 80, .inl (aN (rwF r r2)))), (q_lo, .inl (cI, 8, .inl (lo))), (q_dp, .inl (cI, 8, .inl (dp))), (q_sh, .inl (cI, 5, .inl (aN sh))), (q_fd, .inl (cI, 5, .inl (aN fd)))] H1 := z_arr hP9 1 rfl ec_mt
    have hD9 : va_D A [(q_md, .inr (6, [.int (nI zk2), .ref q_mt, .ref q_mb, .ref q_ml, .ref q_mr, .int (nI a0), .int (nI y0), .ref q_lo, .ref q_dp, .int (nI cl), .ref q_sh, .ref q_fd])), (q_mt, .inl (cI, 32, .inl (aT (poT t m)))), (q_mb, .inl (cZ, 32, .inl (aB wF))), (q_ml, .inl (cI, 2, .inl (aN (lnF L L2)))), (q_mr, .inl (cI, 80, .inl (aN (rwF r r2)))), (q_lo, .inl (cI, 8, .inl (lo))), (q_dp, .inl (cI, 8, .inl (dp))), (q_sh, .inl (cI, 5, .inl (aN sh))), (q_fd, .inl (cI, 5, .inl (aN fd)))] := hD9.set (p := 1) (e := .inl (cI, 32, .inl (aT (poT t m)))) rfl
    have hP9 : va_P D vwCl [(q_md, .inr (6, [.int (nI zk2), .ref q_mt, .ref q_mb, .ref q_ml, .ref q_mr, .int (nI a0), .int (nI y0), .ref q_lo, .ref q_dp, .int (nI cl), .ref q_sh, .ref q_fd])), (q_mt, .inl (cI, 32, .inl (aT (poT t m)))), (q_mb, .inl (cZ, 32, .inl (aB (poW w m)))), (q_ml, .inl (cI, 2, .inl (aN (lnF L L2)))), (q_mr, .inl (cI, 80, .inl (aN (rwF r r2)))), (q_lo, .inl (cI, 8, .inl (lo))), (q_dp, .inl (cI, 8, .inl (dp))), (q_sh, .inl (cI, 5, .inl (aN sh))), (q_fd, .inl (cI, 5, .inl (aN fd)))] H1 := z_arr hP9 2 rfl (fun zi hi => congrArg bI (ec_mb zi hi))
    have hD9 : va_D A [(q_md, .inr (6, [.int (nI zk2), .ref q_mt, .ref q_mb, .ref q_ml, .ref q_mr, .int (nI a0), .int (nI y0), .ref q_lo, .ref q_dp, .int (nI cl), .ref q_sh, .ref q_fd])), (q_mt, .inl (cI, 32, .inl (aT (poT t m)))), (q_mb, .inl (cZ, 32, .inl (aB (poW w m)))), (q_ml, .inl (cI, 2, .inl (aN (lnF L L2)))), (q_mr, .inl (cI, 80, .inl (aN (rwF r r2)))), (q_lo, .inl (cI, 8, .inl (lo))), (q_dp, .inl (cI, 8, .inl (dp))), (q_sh, .inl (cI, 5, .inl (aN sh))), (q_fd, .inl (cI, 5, .inl (aN fd)))] := hD9.set (p := 2) (e := .inl (cZ, 32, .inl (aB (poW w m)))) rfl
    have hP9 : va_P D vwCl [(q_md, .inr (6, [.int (nI (poN n m)), .ref q_mt, .ref q_mb, .ref q_ml, .ref q_mr, .int (nI a0), .int (nI y0), .ref q_lo, .ref q_dp, .int (nI cl), .ref q_sh, .ref q_fd])), (q_mt, .inl (cI, 32, .inl (aT (poT t m)))), (q_mb, .inl (cZ, 32, .inl (aB (poW w m)))), (q_ml, .inl (cI, 2, .inl (aN (lnF L L2)))), (q_mr, .inl (cI, 80, .inl (aN (rwF r r2)))), (q_lo, .inl (cI, 8, .inl (lo))), (q_dp, .inl (cI, 8, .inl (dp))), (q_sh, .inl (cI, 5, .inl (aN sh))), (q_fd, .inl (cI, 5, .inl (aN fd)))] H1 := (congrArg (fun z9 : Nat => va_P D vwCl [(q_md, .inr (6, [.int (nI z9), .ref q_mt, .ref q_mb, .ref q_ml, .ref q_mr, .int (nI a0), .int (nI y0), .ref q_lo, .ref q_dp, .int (nI cl), .ref q_sh, .ref q_fd])), (q_mt, .inl (cI, 32, .inl (aT (poT t m)))), (q_mb, .inl (cZ, 32, .inl (aB (poW w m)))), (q_ml, .inl (cI, 2, .inl (aN (lnF L L2)))), (q_mr, .inl (cI, 80, .inl (aN (rwF r r2)))), (q_lo, .inl (cI, 8, .inl (lo))), (q_dp, .inl (cI, 8, .inl (dp))), (q_sh, .inl (cI, 5, .inl (aN sh))), (q_fd, .inl (cI, 5, .inl (aN fd)))] H1) ec_ps).mp hP9
    have hD9 : va_D A [(q_md, .inr (6, [.int (nI (poN n m)), .ref q_mt, .ref q_mb, .ref q_ml, .ref q_mr, .int (nI a0), .int (nI y0), .ref q_lo, .ref q_dp, .int (nI cl), .ref q_sh, .ref q_fd])), (q_mt, .inl (cI, 32, .inl (aT (poT t m)))), (q_mb, .inl (cZ, 32, .inl (aB (poW w m)))), (q_ml, .inl (cI, 2, .inl (aN (lnF L L2)))), (q_mr, .inl (cI, 80, .inl (aN (rwF r r2)))), (q_lo, .inl (cI, 8, .inl (lo))), (q_dp, .inl (cI, 8, .inl (dp))), (q_sh, .inl (cI, 5, .inl (aN sh))), (q_fd, .inl (cI, 5, .inl (aN fd)))] := (congrArg (fun z9 : Nat => va_D A [(q_md, .inr (6, [.int (nI z9), .ref q_mt, .ref q_mb, .ref q_ml, .ref q_mr, .int (nI a0), .int (nI y0), .ref q_lo, .ref q_dp, .int (nI cl), .ref q_sh, .ref q_fd])), (q_mt, .inl (cI, 32, .inl (aT (poT t m)))), (q_mb, .inl (cZ, 32, .inl (aB (poW w m)))), (q_ml, .inl (cI, 2, .inl (aN (lnF L L2)))), (q_mr, .inl (cI, 80, .inl (aN (rwF r r2)))), (q_lo, .inl (cI, 8, .inl (lo))), (q_dp, .inl (cI, 8, .inl (dp))), (q_sh, .inl (cI, 5, .inl (aN sh))), (q_fd, .inl (cI, 5, .inl (aN fd)))]) ec_ps).mp hD9
    exact W.iret (v := nI n) hx hb hr (fun t ht hW => ⟨⟨_, (), rfl, er, by rw [ht]; exact hP9, hD9⟩, hS.F ht⟩) hS.2.2 dX6_posts_28
  · replace hw := hwf cc
    refine lv_bipush (v := (-2)) hx hb dX6_posts_10 (by decide +kernel) ?_
    obtain ⟨er, ec_mt, ec_mb, ec_ps⟩ := hw
    have hP9 : va_P D vwCl [(q_md, .inr (6, [.int (nI n), .ref q_mt, .ref q_mb, .ref q_ml, .ref q_mr, .int (nI a0), .int (nI y0), .ref q_lo, .ref q_dp, .int (nI cl), .ref q_sh, .ref q_fd])), (q_mt, .inl (cI, 32, .inl (aT t))), (q_mb, .inl (cZ, 32, .inl (aB w))), (q_ml, .inl (cI, 2, .inl (aN (lnF L L2)))), (q_mr, .inl (cI, 80, .inl (aN (rwF r r2)))), (q_lo, .inl (cI, 8, .inl (lo))), (q_dp, .inl (cI, 8, .inl (dp))), (q_sh, .inl (cI, 5, .inl (aN sh))), (q_fd, .inl (cI, 5, .inl (aN fd)))] zs.heap := hP.sub [0, 1, 2, 3, 4, 5, 6, 7, 8] rfl
    have hD9 : va_D A [(q_md, .inr (6, [.int (nI n), .ref q_mt, .ref q_mb, .ref q_ml, .ref q_mr, .int (nI a0), .int (nI y0), .ref q_lo, .ref q_dp, .int (nI cl), .ref q_sh, .ref q_fd])), (q_mt, .inl (cI, 32, .inl (aT t))), (q_mb, .inl (cZ, 32, .inl (aB w))), (q_ml, .inl (cI, 2, .inl (aN (lnF L L2)))), (q_mr, .inl (cI, 80, .inl (aN (rwF r r2)))), (q_lo, .inl (cI, 8, .inl (lo))), (q_dp, .inl (cI, 8, .inl (dp))), (q_sh, .inl (cI, 5, .inl (aN sh))), (q_fd, .inl (cI, 5, .inl (aN fd)))] := hD.sub [0, 1, 2, 3, 4, 5, 6, 7, 8] (by decide) rfl
    have hP9 : va_P D vwCl [(q_md, .inr (6, [.int (nI n), .ref q_mt, .ref q_mb, .ref q_ml, .ref q_mr, .int (nI a0), .int (nI y0), .ref q_lo, .ref q_dp, .int (nI cl), .ref q_sh, .ref q_fd])), (q_mt, .inl (cI, 32, .inl (aT (poT t m)))), (q_mb, .inl (cZ, 32, .inl (aB w))), (q_ml, .inl (cI, 2, .inl (aN (lnF L L2)))), (q_mr, .inl (cI, 80, .inl (aN (rwF r r2)))), (q_lo, .inl (cI, 8, .inl (lo))), (q_dp, .inl (cI, 8, .inl (dp))), (q_sh, .inl (cI, 5, .inl (aN sh))), (q_fd, .inl (cI, 5, .inl (aN fd)))] zs.heap := z_arr hP9 1 rfl ec_mt
    have hD9 : va_D A [(q_md, .inr (6, [.int (nI n), .ref q_mt, .ref q_mb, .ref q_ml, .ref q_mr, .int (nI a0), .int (nI y0), .ref q_lo, .ref q_dp, .int (nI cl), .ref q_sh, .ref q_fd])), (q_mt, .inl (cI, 32, .inl (aT (poT t m)))), (q_mb, .inl (cZ, 32, .inl (aB w))), (q_ml, .inl (cI, 2, .inl (aN (lnF L L2)))), (q_mr, .inl (cI, 80, .inl (aN (rwF r r2)))), (q_lo, .inl (cI, 8, .inl (lo))), (q_dp, .inl (cI, 8, .inl (dp))), (q_sh, .inl (cI, 5, .inl (aN sh))), (q_fd, .inl (cI, 5, .inl (aN fd)))] := hD9.set (p := 1) (e := .inl (cI, 32, .inl (aT (poT t m)))) rfl
    have hP9 : va_P D vwCl [(q_md, .inr (6, [.int (nI n), .ref q_mt, .ref q_mb, .ref q_ml, .ref q_mr, .int (nI a0), .int (nI y0), .ref q_lo, .ref q_dp, .int (nI cl), .ref q_sh, .ref q_fd])), (q_mt, .inl (cI, 32, .inl (aT (poT t m)))), (q_mb, .inl (cZ, 32, .inl (aB (poW w m)))), (q_ml, .inl (cI, 2, .inl (aN (lnF L L2)))), (q_mr, .inl (cI, 80, .inl (aN (rwF r r2)))), (q_lo, .inl (cI, 8, .inl (lo))), (q_dp, .inl (cI, 8, .inl (dp))), (q_sh, .inl (cI, 5, .inl (aN sh))), (q_fd, .inl (cI, 5, .inl (aN fd)))] zs.heap := z_arr hP9 2 rfl (fun zi hi => congrArg bI (ec_mb zi hi))
    have hD9 : va_D A [(q_md, .inr (6, [.int (nI n), .ref q_mt, .ref q_mb, .ref q_ml, .ref q_mr, .int (nI a0), .int (nI y0), .ref q_lo, .ref q_dp, .int (nI cl), .ref q_sh, .ref q_fd])), (q_mt, .inl (cI, 32, .inl (aT (poT t m)))), (q_mb, .inl (cZ, 32, .inl (aB (poW w m)))), (q_ml, .inl (cI, 2, .inl (aN (lnF L L2)))), (q_mr, .inl (cI, 80, .inl (aN (rwF r r2)))), (q_lo, .inl (cI, 8, .inl (lo))), (q_dp, .inl (cI, 8, .inl (dp))), (q_sh, .inl (cI, 5, .inl (aN sh))), (q_fd, .inl (cI, 5, .inl (aN fd)))] := hD9.set (p := 2) (e := .inl (cZ, 32, .inl (aB (poW w m)))) rfl
    have hP9 : va_P D vwCl [(q_md, .inr (6, [.int (nI (poN n m)), .ref q_mt, .ref q_mb, .ref q_ml, .ref q_mr, .int (nI a0), .int (nI y0), .ref q_lo, .ref q_dp, .int (nI cl), .ref q_sh, .ref q_fd])), (q_mt, .inl (cI, 32, .inl (aT (poT t m)))), (q_mb, .inl (cZ, 32, .inl (aB (poW w m)))), (q_ml, .inl (cI, 2, .inl (aN (lnF L L2)))), (q_mr, .inl (cI, 80, .inl (aN (rwF r r2)))), (q_lo, .inl (cI, 8, .inl (lo))), (q_dp, .inl (cI, 8, .inl (dp))), (q_sh, .inl (cI, 5, .inl (aN sh))), (q_fd, .inl (cI, 5, .inl (aN fd)))] zs.heap := (congrArg (fun z9 : Nat => va_P D vwCl [(q_md, .inr (6, [.int (nI z9), .ref q_mt, .ref q_mb, .ref q_ml, .ref q_mr, .int (nI a0), .int (nI y0), .ref q_lo, .ref q_dp, .int (nI cl), .ref q_sh, .ref q_fd])), (q_mt, .inl (cI, 32, .inl (aT (poT t m)))), (q_mb, .inl (cZ, 32, .inl (aB (poW w m)))), (q_ml, .inl (cI, 2, .inl (aN (lnF L L2)))), (q_mr, .inl (cI, 80, .inl (aN (rwF r r2)))), (q_lo, .inl (cI, 8, .inl (lo))), (q_dp, .inl (cI, 8, .inl (dp))), (q_sh, .inl (cI, 5, .inl (aN sh))), (q_fd, .inl (cI, 5, .inl (aN fd)))] zs.heap) ec_ps).mp hP9
    have hD9 : va_D A [(q_md, .inr (6, [.int (nI (poN n m)), .ref q_mt, .ref q_mb, .ref q_ml, .ref q_mr, .int (nI a0), .int (nI y0), .ref q_lo, .ref q_dp, .int (nI cl), .ref q_sh, .ref q_fd])), (q_mt, .inl (cI, 32, .inl (aT (poT t m)))), (q_mb, .inl (cZ, 32, .inl (aB (poW w m)))), (q_ml, .inl (cI, 2, .inl (aN (lnF L L2)))), (q_mr, .inl (cI, 80, .inl (aN (rwF r r2)))), (q_lo, .inl (cI, 8, .inl (lo))), (q_dp, .inl (cI, 8, .inl (dp))), (q_sh, .inl (cI, 5, .inl (aN sh))), (q_fd, .inl (cI, 5, .inl (aN fd)))] := (congrArg (fun z9 : Nat => va_D A [(q_md, .inr (6, [.int (nI z9), .ref q_mt, .ref q_mb, .ref q_ml, .ref q_mr, .int (nI a0), .int (nI y0), .ref q_lo, .ref q_dp, .int (nI cl), .ref q_sh, .ref q_fd])), (q_mt, .inl (cI, 32, .inl (aT (poT t m)))), (q_mb, .inl (cZ, 32, .inl (aB (poW w m)))), (q_ml, .inl (cI, 2, .inl (aN (lnF L L2)))), (q_mr, .inl (cI, 80, .inl (aN (rwF r r2)))), (q_lo, .inl (cI, 8, .inl (lo))), (q_dp, .inl (cI, 8, .inl (dp))), (q_sh, .inl (cI, 5, .inl (aN sh))), (q_fd, .inl (cI, 5, .inl (aN fd)))]) ec_ps).mp hD9
    exact W.iret (v := (-2)) hx hb hr (fun t ht hW => ⟨⟨_, (), rfl, er, by rw [ht]; exact hP9, hD9⟩, hS.F ht⟩) hS.2.2 dX6_posts_12
theorem m_X6_pairs_f13 : Cond.fieldLink RX6 13 "NetWalkersModel" "to" "[I" ∈ wsX6_pairs := by decide +kernel
theorem i_X6_pairs_X6 : ∀ w ∈ wsX60, w ∈ wsX6_pairs := by decide +kernel
set_option maxRecDepth 100000 in
set_option maxHeartbeats 4000000 in
theorem w_X6_pairs {l : Launch} {D : va_G} {cI cZ : ClassId} (vv : V_X6_pairs) : K_X6_pairs l D cI cZ := by
  intro q_md q_mt q_mb q_ml q_mr q_lo q_dp q_sh q_fd n t w r L r2 L2 a0 y0 lo dp cl sh fd hpre0
  have vw := vv n t w r L r2 L2 a0 y0 lo dp cl sh fd hpre0
  refine Met.ofW (cc := cX6_pairs) (maxL := 3) (ret := (some .int)) (by decide) rfl ?_
  intro zp ze zs zm zargs zbelow zmeth zc zs1 B hml hv
  obtain ⟨rfl, hZ, hP⟩ := hv
  have hx := B.exec
  have hb := B.bytes
  have hr := B.returns
  have hts := atoms_spec (ws := wsX6_pairs) B.pre
  have hown : zs.vm.findClass RX6 = some zm.cls := findClass_of_methodNamed B.named
  have hlocks := B.notSynchronized
  have hP : va_P D vwCl [(q_md, .inr (6, [.int (nI n), .ref q_mt, .ref q_mb, .ref q_ml, .ref q_mr, .int (nI a0), .int (nI y0), .ref q_lo, .ref q_dp, .int (nI cl), .ref q_sh, .ref q_fd])), (q_mt, .inl (cI, 32, .inl (aT t))), (q_mb, .inl (cZ, 32, .inl (aB w))), (q_ml, .inl (cI, 2, .inl (aN (lnF L L2)))), (q_mr, .inl (cI, 80, .inl (aN (rwF r r2)))), (q_lo, .inl (cI, 8, .inl (lo))), (q_dp, .inl (cI, 8, .inl (dp))), (q_sh, .inl (cI, 5, .inl (aN sh))), (q_fd, .inl (cI, 5, .inl (aN fd)))] zs.heap := hP
  have hl := lv_entry ([.ref q_md]) (n := 3) (Nat.le_of_ble_eq_true rfl)
  rw [lg_entry_eq]
  generalize (lg_sl ([.ref q_md]) ++ List.replicate (3 - (lg_sl ([.ref q_md])).length) Slot.unset).toArray = ls at hl ⊢
  have hl : lv_has ls 3 [(0, .ref q_md)] := hl
  obtain ⟨X4, hX4⟩ : ∃ X : Nat → Nat → Prop, ∀ (v1 : Nat) (v2 : Nat), X v1 v2 ↔ (∀ ls : Array Slot, lv_has ls 3 [(0, .ref q_md), (1, .int (nI v1)), (2, .int (nI v2))] → W zp l ze (headSpec wsX6_pairs ({ frames := 0, cells := 0, slots := 0, locals := 0 } : Room)).room zs zm ([.ref q_md] : List Value).toArray zbelow zmeth zc zs.heap [] 0 0 (MQ zbelow (vp_Si (fun zr : Int32 => zr = nI (prs t))) ([.ref q_md] : List Value).toArray zs 0 0 (fun _ => False)) (F0 zm 4 ls [])) := ⟨_, fun _ _ => Iff.rfl⟩
  have b4 : ∀ (v1 : Nat) (v2 : Nat), B_X6_pairs_4 n t w r L r2 L2 a0 y0 lo dp cl sh fd X4 v1 v2 → X4 v1 v2 := by
    intro v1 v2 hw
    rw [hX4]
    intro ls hl
    unfold B_X6_pairs_4 at hw
    refine lv_iload_n hx hb dX6_pairs_4 rfl (lv_at hl 2 rfl) ?_
    refine lv_bipush (v := nI 32) hx hb dX6_pairs_5 (by decide +kernel) ?_
    obtain ⟨zh1, hw⟩ := hw
    obtain ⟨hwt, hwf⟩ := hw
    refine z_icmp_ge hx hb zh1 (by decide) (tgt := 34) dX6_pairs_7 (by decide) (fun cc => ?_) (fun cc => ?_)
    · replace hw := hwt cc
      refine lv_iload_n hx hb dX6_pairs_34 rfl (lv_at hl 1 rfl) ?_
      have er := hw
      exact W.iret (v := nI v1) hx hb hr (fun t ht hW => ⟨_, rfl, (congrArg nI er), ht⟩) (fun _ h => by cases h) dX6_pairs_35
    · replace hw := hwf cc
      refine lv_iload_n hx hb dX6_pairs_10 rfl (lv_at hl 1 rfl) ?_
      refine lv_aload_n hx hb dX6_pairs_11 rfl (lv_at hl 0 rfl) ?_
      refine va_get (D := D) (ci := 6) (v := .ref q_mt) (C := RX6) (T := TX6) (N := 12) hx hb hts i_X6_pairs_X6 hown hZ.1 hP 0 rfl rfl 1 (by decide) (hts _ m_X6_pairs_f13) (fun _ h9 => h9) rfl dX6_pairs_12 ?_
      refine lv_iload_n hx hb dX6_pairs_15 rfl (lv_at hl 2 rfl) ?_
      obtain ⟨zh2, hw⟩ := hw
      refine z_iald hx hb hZ.1 hP 1 0 rfl rfl zh2 (by decide) (v := aT t v2) rfl dX6_pairs_16 ?_
      refine lv_iload_n hx hb dX6_pairs_17 rfl (lv_at hl 2 rfl) ?_
      obtain ⟨hwt, hwf⟩ := hw
      refine lv_icmp_le hx hb (tgt := 25) dX6_pairs_18 (by decide) (fun cc => ?_) (fun cc => ?_)
      · replace hw := hwt cc
        refine lv_iconst (v := nI 0) hx hb dX6_pairs_25 (by decide +kernel) ?_
        refine z_iadd hx hb (nI_add _ _) dX6_pairs_26 ?_
        obtain ⟨zx3, ezx3⟩ : ∃ zx3 : Nat, zx3 = v1 + 0 := ⟨_, rfl⟩
        replace hw := hw zx3 ezx3
        refine z_st (st' := [.int (nI zx3)]) (by rw [ezx3]) ?_
        refine lv_istore_n (lv' := [(1, .int (nI zx3)), (0, .ref q_md), (2, .int (nI v2))]) hx hb dX6_pairs_27 rfl hl (by decide) rfl (fun ls hl => ?_)
        refine lv_iinc (v := nI (v2 + 1)) (lv' := [(2, .int (nI (v2 + 1))), (1, .int (nI zx3)), (0, .ref q_md)]) hx hb dX6_pairs_28 hl (k := 2) rfl (by rw [show Int32.ofInt 1 = nI 1 from by decide +kernel]; exact nI_add _ _) (by decide) rfl (fun ls hl => ?_)
        refine lv_goto (tgt := 4) hx hb dX6_pairs_31 (by decide) ?_
        exact ((hX4 _ _).mp hw) ls (lv_sub hl [2, 1, 0] rfl)
      · replace hw := hwf cc
        refine lv_iconst (v := nI 1) hx hb dX6_pairs_21 (by decide +kernel) ?_
        refine lv_goto (tgt := 26) hx hb dX6_pairs_22 (by decide) ?_
        refine z_iadd hx hb (nI_add _ _) dX6_pairs_26 ?_
        obtain ⟨zx4, ezx4⟩ : ∃ zx4 : Nat, zx4 = v1 + 1 := ⟨_, rfl⟩
        replace hw := hw zx4 ezx4
        refine z_st (st' := [.int (nI zx4)]) (by rw [ezx4]) ?_
        refine lv_istore_n (lv' := [(1, .int (nI zx4)), (0, .ref q_md), (2, .int (nI v2))]) hx hb dX6_pairs_27 rfl hl (by decide) rfl (fun ls hl => ?_)
        refine lv_iinc (v := nI (v2 + 1)) (lv' := [(2, .int (nI (v2 + 1))), (1, .int (nI zx4)), (0, .ref q_md)]) hx hb dX6_pairs_28 hl (k := 2) rfl (by rw [show Int32.ofInt 1 = nI 1 from by decide +kernel]; exact nI_add _ _) (by decide) rfl (fun ls hl => ?_)
        refine lv_goto (tgt := 4) hx hb dX6_pairs_31 (by decide) ?_
        exact ((hX4 _ _).mp hw) ls (lv_sub hl [2, 1, 0] rfl)
  have hw := vw X4 b4
  unfold B_X6_pairs_in at hw
  refine lv_iconst (v := nI 0) hx hb dX6_pairs_0 (by decide +kernel) ?_
  refine lv_istore_n (lv' := [(1, .int (nI 0)), (0, .ref q_md)]) hx hb dX6_pairs_1 rfl hl (by decide) rfl (fun ls hl => ?_)
  refine lv_iconst (v := nI 0) hx hb dX6_pairs_2 (by decide +kernel) ?_
  refine lv_istore_n (lv' := [(2, .int (nI 0)), (1, .int (nI 0)), (0, .ref q_md)]) hx hb dX6_pairs_3 rfl hl (by decide) rfl (fun ls hl => ?_)
  exact ((hX4 _ _).mp hw) ls (lv_sub hl [2, 1, 0] rfl)
theorem m_X6_join_f13 : Cond.fieldLink RX6 13 "NetWalkersModel" "to" "[I" ∈ wsX6_join := by decide +kernel
theorem i_X6_join_X6 : ∀ w ∈ wsX60, w ∈ wsX6_join := by decide +kernel
set_option maxRecDepth 100000 in
set_option maxHeartbeats 4000000 in
theorem w_X6_join {l : Launch} {D : va_G} {cI cZ : ClassId} (k_X6_isDoor : K_X6_isDoor l D cI cZ) (k_X6_pairs : K_X6_pairs l D cI cZ) (vv : V_X6_join) : K_X6_join l D cI cZ := by
  intro q_md q_mt q_mb q_ml q_mr q_lo q_dp q_sh q_fd sz n t w r L r2 L2 a0 y0 lo dp cl sh fd a da b db hpre0
  have vw := vv n t w r L r2 L2 a0 y0 lo dp cl sh fd a da b db hpre0
  refine Met.ofW (cc := cX6_join) (maxL := 7) (ret := (some .int)) (by decide) rfl ?_
  intro zp ze zs zm zargs zbelow zmeth zc zs1 B hml hv
  obtain ⟨rfl, hsz, hZ, hP, hD0⟩ := hv
  have hx := B.exec
  have hb := B.bytes
  have hr := B.returns
  have hts := atoms_spec (ws := wsX6_join) B.pre
  have hown : zs.vm.findClass RX6 = some zm.cls := findClass_of_methodNamed B.named
  have hlocks := B.notSynchronized
  subst hsz
  have hD := hD0.self (sz := zs.heap.size)
  generalize hAe : va_A [(q_md, .inr (6, [.int (nI n), .ref q_mt, .ref q_mb, .ref q_ml, .ref q_mr, .int (nI a0), .int (nI y0), .ref q_lo, .ref q_dp, .int (nI cl), .ref q_sh, .ref q_fd])), (q_mt, .inl (cI, 32, .inl (aT t))), (q_mb, .inl (cZ, 32, .inl (aB w))), (q_ml, .inl (cI, 2, .inl (aN (lnF L L2)))), (q_mr, .inl (cI, 80, .inl (aN (rwF r r2)))), (q_lo, .inl (cI, 8, .inl (lo))), (q_dp, .inl (cI, 8, .inl (dp))), (q_sh, .inl (cI, 5, .inl (aN sh))), (q_fd, .inl (cI, 5, .inl (aN fd)))] zs.heap.size = A at hD ⊢
  have hA : ∀ q : Nat, zs.heap.size ≤ q → A q := fun q h => by rw [← hAe]; exact Or.inr h
  have hS : va_S A zs.heap zs.heap [] := va_S.rf
  have hP : va_P D vwCl [(q_md, .inr (6, [.int (nI n), .ref q_mt, .ref q_mb, .ref q_ml, .ref q_mr, .int (nI a0), .int (nI y0), .ref q_lo, .ref q_dp, .int (nI cl), .ref q_sh, .ref q_fd])), (q_mt, .inl (cI, 32, .inl (aT t))), (q_mb, .inl (cZ, 32, .inl (aB w))), (q_ml, .inl (cI, 2, .inl (aN (lnF L L2)))), (q_mr, .inl (cI, 80, .inl (aN (rwF r r2)))), (q_lo, .inl (cI, 8, .inl (lo))), (q_dp, .inl (cI, 8, .inl (dp))), (q_sh, .inl (cI, 5, .inl (aN sh))), (q_fd, .inl (cI, 5, .inl (aN fd)))] zs.heap := hP
  have hl := lv_entry ([.ref q_md, .int a, .int da, .int b, .int db]) (n := 7) (Nat.le_of_ble_eq_true rfl)
  rw [lg_entry_eq]
  generalize (lg_sl ([.ref q_md, .int a, .int da, .int b, .int db]) ++ List.replicate (7 - (lg_sl ([.ref q_md, .int a, .int da, .int b, .int db])).length) Slot.unset).toArray = ls at hl ⊢
  have hl : lv_has ls 7 [(0, .ref q_md), (1, .int a), (2, .int da), (3, .int b), (4, .int db)] := hl
  have hw := vw
  unfold B_X6_join_in at hw
  refine lv_aload_n hx hb dX6_join_0 rfl (lv_at hl 0 rfl) ?_
  refine lv_iload_n hx hb dX6_join_1 rfl (lv_at hl 1 rfl) ?_
  refine lv_iload_n hx hb dX6_join_2 rfl (lv_at hl 2 rfl) ?_
  obtain ⟨zh1, hw⟩ := hw
  obtain ⟨zh2, hw⟩ := hw
  have hPc : va_P D vwCl [(q_md, .inr (6, [.int (nI n), .ref q_mt, .ref q_mb, .ref q_ml, .ref q_mr, .int (nI a0), .int (nI y0), .ref q_lo, .ref q_dp, .int (nI cl), .ref q_sh, .ref q_fd])), (q_mt, .inl (cI, 32, .inl (aT t))), (q_mb, .inl (cZ, 32, .inl (aB w))), (q_ml, .inl (cI, 2, .inl (aN (lnF L L2)))), (q_mr, .inl (cI, 80, .inl (aN (rwF r r2)))), (q_lo, .inl (cI, 8, .inl (lo))), (q_dp, .inl (cI, 8, .inl (dp))), (q_sh, .inl (cI, 5, .inl (aN sh))), (q_fd, .inl (cI, 5, .inl (aN fd)))] zs.heap := hP.sub [0, 1, 2, 3, 4, 5, 6, 7, 8] rfl
  refine z_ro (va_runV (As := [.int a, .int da]) (rest := []) ⟨hx, hb, hml, hown, hts⟩ (k_X6_isDoor q_md q_mt q_mb q_ml q_mr q_lo q_dp q_sh q_fd n t w r L r2 L2 a0 y0 lo dp cl sh fd a da zh1 zh2) (cwV 2 hts gX6_join_X6_isDoor rfl rfl rfl (by decide +kernel) ⟨Nat.le_of_ble_eq_true rfl, Nat.le_of_ble_eq_true rfl⟩) (zPr_V hZ hPc 0 rfl rfl) rfl rfl hl.1 rfl (lv_room (Nat.le_of_ble_eq_true rfl)) dX6_join_3 ⟨Nat.zero_le _, Nat.zero_le _⟩) (fun zr3 hzr3 => ?_)
  have ez := hzr3
  rw [ez]
  clear ez hzr3
  obtain ⟨hwt, hwf⟩ := hw
  refine z_if_eqb hx hb (tgt := 19) dX6_join_6 (by decide) (fun cc => ?_) (fun cc => ?_)
  · replace hw := hwt cc
    refine lv_iconst (v := (-1)) hx hb dX6_join_19 (by decide +kernel) ?_
    obtain ⟨er, ec_mt⟩ := hw
    have hP9 : va_P D vwCl [(q_md, .inr (6, [.int (nI n), .ref q_mt, .ref q_mb, .ref q_ml, .ref q_mr, .int (nI a0), .int (nI y0), .ref q_lo, .ref q_dp, .int (nI cl), .ref q_sh, .ref q_fd])), (q_mt, .inl (cI, 32, .inl (aT t))), (q_mb, .inl (cZ, 32, .inl (aB w))), (q_ml, .inl (cI, 2, .inl (aN (lnF L L2)))), (q_mr, .inl (cI, 80, .inl (aN (rwF r r2)))), (q_lo, .inl (cI, 8, .inl (lo))), (q_dp, .inl (cI, 8, .inl (dp))), (q_sh, .inl (cI, 5, .inl (aN sh))), (q_fd, .inl (cI, 5, .inl (aN fd)))] zs.heap := hP.sub [0, 1, 2, 3, 4, 5, 6, 7, 8] rfl
    have hD9 : va_D A [(q_md, .inr (6, [.int (nI n), .ref q_mt, .ref q_mb, .ref q_ml, .ref q_mr, .int (nI a0), .int (nI y0), .ref q_lo, .ref q_dp, .int (nI cl), .ref q_sh, .ref q_fd])), (q_mt, .inl (cI, 32, .inl (aT t))), (q_mb, .inl (cZ, 32, .inl (aB w))), (q_ml, .inl (cI, 2, .inl (aN (lnF L L2)))), (q_mr, .inl (cI, 80, .inl (aN (rwF r r2)))), (q_lo, .inl (cI, 8, .inl (lo))), (q_dp, .inl (cI, 8, .inl (dp))), (q_sh, .inl (cI, 5, .inl (aN sh))), (q_fd, .inl (cI, 5, .inl (aN fd)))] := hD.sub [0, 1, 2, 3, 4, 5, 6, 7, 8] (by decide) rfl
    have hP9 : va_P D vwCl [(q_md, .inr (6, [.int (nI n), .ref q_mt, .ref q_mb, .ref q_ml, .ref q_mr, .int (nI a0), .int (nI y0), .ref q_lo, .ref q_dp, .int (nI cl), .ref q_sh, .ref q_fd])), (q_mt, .inl (cI, 32, .inl (aT (joT n t a da b db)))), (q_mb, .inl (cZ, 32, .inl (aB w))), (q_ml, .inl (cI, 2, .inl (aN (lnF L L2)))), (q_mr, .inl (cI, 80, .inl (aN (rwF r r2)))), (q_lo, .inl (cI, 8, .inl (lo))), (q_dp, .inl (cI, 8, .inl (dp))), (q_sh, .inl (cI, 5, .inl (aN sh))), (q_fd, .inl (cI, 5, .inl (aN fd)))] zs.heap := z_arr hP9 1 rfl ec_mt
    have hD9 : va_D A [(q_md, .inr (6, [.int (nI n), .ref q_mt, .ref q_mb, .ref q_ml, .ref q_mr, .int (nI a0), .int (nI y0), .ref q_lo, .ref q_dp, .int (nI cl), .ref q_sh, .ref q_fd])), (q_mt, .inl (cI, 32, .inl (aT (joT n t a da b db)))), (q_mb, .inl (cZ, 32, .inl (aB w))), (q_ml, .inl (cI, 2, .inl (aN (lnF L L2)))), (q_mr, .inl (cI, 80, .inl (aN (rwF r r2)))), (q_lo, .inl (cI, 8, .inl (lo))), (q_dp, .inl (cI, 8, .inl (dp))), (q_sh, .inl (cI, 5, .inl (aN sh))), (q_fd, .inl (cI, 5, .inl (aN fd)))] := hD9.set (p := 1) (e := .inl (cI, 32, .inl (aT (joT n t a da b db)))) rfl
    exact W.iret (v := (-1)) hx hb hr (fun t ht hW => ⟨⟨_, (), rfl, er, by rw [ht]; exact hP9, hD9⟩, hS.F ht⟩) hS.2.2 dX6_join_20
  · replace hw := hwf cc
    refine lv_aload_n hx hb dX6_join_9 rfl (lv_at hl 0 rfl) ?_
    refine lv_iload_n hx hb dX6_join_10 rfl (lv_at hl 3 rfl) ?_
    refine lv_iload hx hb dX6_join_11 (lv_at hl 4 rfl) ?_
    obtain ⟨zh4, hw⟩ := hw
    obtain ⟨zh5, hw⟩ := hw
    have hPc : va_P D vwCl [(q_md, .inr (6, [.int (nI n), .ref q_mt, .ref q_mb, .ref q_ml, .ref q_mr, .int (nI a0), .int (nI y0), .ref q_lo, .ref q_dp, .int (nI cl), .ref q_sh, .ref q_fd])), (q_mt, .inl (cI, 32, .inl (aT t))), (q_mb, .inl (cZ, 32, .inl (aB w))), (q_ml, .inl (cI, 2, .inl (aN (lnF L L2)))), (q_mr, .inl (cI, 80, .inl (aN (rwF r r2)))), (q_lo, .inl (cI, 8, .inl (lo))), (q_dp, .inl (cI, 8, .inl (dp))), (q_sh, .inl (cI, 5, .inl (aN sh))), (q_fd, .inl (cI, 5, .inl (aN fd)))] zs.heap := hP.sub [0, 1, 2, 3, 4, 5, 6, 7, 8] rfl
    refine z_ro (va_runV (As := [.int b, .int db]) (rest := []) ⟨hx, hb, hml, hown, hts⟩ (k_X6_isDoor q_md q_mt q_mb q_ml q_mr q_lo q_dp q_sh q_fd n t w r L r2 L2 a0 y0 lo dp cl sh fd b db zh4 zh5) (cwV 2 hts gX6_join_X6_isDoor rfl rfl rfl (by decide +kernel) ⟨Nat.le_of_ble_eq_true rfl, Nat.le_of_ble_eq_true rfl⟩) (zPr_V hZ hPc 0 rfl rfl) rfl rfl hl.1 rfl (lv_room (Nat.le_of_ble_eq_true rfl)) dX6_join_13 ⟨Nat.zero_le _, Nat.zero_le _⟩) (fun zr6 hzr6 => ?_)
    have ez := hzr6
    rw [ez]
    clear ez hzr6
    obtain ⟨hwt, hwf⟩ := hw
    refine z_if_neb hx hb (tgt := 21) dX6_join_16 (by decide) (fun cc => ?_) (fun cc => ?_)
    · replace hw := hwt cc
      refine lv_iconst (v := nI 4) hx hb dX6_join_21 (by decide +kernel) ?_
      refine lv_iload_n hx hb dX6_join_22 rfl (lv_at hl 1 rfl) ?_
      refine z_imul hx hb rfl dX6_join_23 ?_
      refine lv_iload_n hx hb dX6_join_24 rfl (lv_at hl 2 rfl) ?_
      refine z_iadd hx hb rfl dX6_join_25 ?_
      obtain ⟨zx7, ezx7⟩ : ∃ zx7 : Int32, zx7 = ((nI 4) * a) + da := ⟨_, rfl⟩
      replace hw := hw zx7 ezx7
      refine z_st (st' := [.int zx7]) (by rw [ezx7]) ?_
      refine lv_istore (lv' := [(5, .int zx7), (0, .ref q_md), (1, .int a), (2, .int da), (3, .int b), (4, .int db)]) hx hb dX6_join_26 hl (by decide) rfl (fun ls hl => ?_)
      refine lv_iconst (v := nI 4) hx hb dX6_join_28 (by decide +kernel) ?_
      refine lv_iload_n hx hb dX6_join_29 rfl (lv_at hl 4 rfl) ?_
      refine z_imul hx hb rfl dX6_join_30 ?_
      refine lv_iload hx hb dX6_join_31 (lv_at hl 5 rfl) ?_
      refine z_iadd hx hb rfl dX6_join_33 ?_
      obtain ⟨zx8, ezx8⟩ : ∃ zx8 : Int32, zx8 = ((nI 4) * b) + db := ⟨_, rfl⟩
      replace hw := hw zx8 ezx8
      refine z_st (st' := [.int zx8]) (by rw [ezx8]) ?_
      refine lv_istore (lv' := [(6, .int zx8), (5, .int zx7), (0, .ref q_md), (1, .int a), (2, .int da), (3, .int b), (4, .int db)]) hx hb dX6_join_34 hl (by decide) rfl (fun ls hl => ?_)
      refine lv_iload hx hb dX6_join_36 (lv_at hl 1 rfl) ?_
      refine lv_iload hx hb dX6_join_38 (lv_at hl 0 rfl) ?_
      obtain ⟨hwt, hwf⟩ := hw
      refine lv_icmp_eq hx hb (tgt := 63) dX6_join_40 (by decide) (fun cc => ?_) (fun cc => ?_)
      · replace hw := hwt cc
        refine lv_bipush (v := (-5)) hx hb dX6_join_63 (by decide +kernel) ?_
        obtain ⟨er, ec_mt⟩ := hw
        have hP9 : va_P D vwCl [(q_md, .inr (6, [.int (nI n), .ref q_mt, .ref q_mb, .ref q_ml, .ref q_mr, .int (nI a0), .int (nI y0), .ref q_lo, .ref q_dp, .int (nI cl), .ref q_sh, .ref q_fd])), (q_mt, .inl (cI, 32, .inl (aT t))), (q_mb, .inl (cZ, 32, .inl (aB w))), (q_ml, .inl (cI, 2, .inl (aN (lnF L L2)))), (q_mr, .inl (cI, 80, .inl (aN (rwF r r2)))), (q_lo, .inl (cI, 8, .inl (lo))), (q_dp, .inl (cI, 8, .inl (dp))), (q_sh, .inl (cI, 5, .inl (aN sh))), (q_fd, .inl (cI, 5, .inl (aN fd)))] zs.heap := hP.sub [0, 1, 2, 3, 4, 5, 6, 7, 8] rfl
        have hD9 : va_D A [(q_md, .inr (6, [.int (nI n), .ref q_mt, .ref q_mb, .ref q_ml, .ref q_mr, .int (nI a0), .int (nI y0), .ref q_lo, .ref q_dp, .int (nI cl), .ref q_sh, .ref q_fd])), (q_mt, .inl (cI, 32, .inl (aT t))), (q_mb, .inl (cZ, 32, .inl (aB w))), (q_ml, .inl (cI, 2, .inl (aN (lnF L L2)))), (q_mr, .inl (cI, 80, .inl (aN (rwF r r2)))), (q_lo, .inl (cI, 8, .inl (lo))), (q_dp, .inl (cI, 8, .inl (dp))), (q_sh, .inl (cI, 5, .inl (aN sh))), (q_fd, .inl (cI, 5, .inl (aN fd)))] := hD.sub [0, 1, 2, 3, 4, 5, 6, 7, 8] (by decide) rfl
        have hP9 : va_P D vwCl [(q_md, .inr (6, [.int (nI n), .ref q_mt, .ref q_mb, .ref q_ml, .ref q_mr, .int (nI a0), .int (nI y0), .ref q_lo, .ref q_dp, .int (nI cl), .ref q_sh, .ref q_fd])), (q_mt, .inl (cI, 32, .inl (aT (joT n t a da b db)))), (q_mb, .inl (cZ, 32, .inl (aB w))), (q_ml, .inl (cI, 2, .inl (aN (lnF L L2)))), (q_mr, .inl (cI, 80, .inl (aN (rwF r r2)))), (q_lo, .inl (cI, 8, .inl (lo))), (q_dp, .inl (cI, 8, .inl (dp))), (q_sh, .inl (cI, 5, .inl (aN sh))), (q_fd, .inl (cI, 5, .inl (aN fd)))] zs.heap := z_arr hP9 1 rfl ec_mt
        have hD9 : va_D A [(q_md, .inr (6, [.int (nI n), .ref q_mt, .ref q_mb, .ref q_ml, .ref q_mr, .int (nI a0), .int (nI y0), .ref q_lo, .ref q_dp, .int (nI cl), .ref q_sh, .ref q_fd])), (q_mt, .inl (cI, 32, .inl (aT (joT n t a da b db)))), (q_mb, .inl (cZ, 32, .inl (aB w))), (q_ml, .inl (cI, 2, .inl (aN (lnF L L2)))), (q_mr, .inl (cI, 80, .inl (aN (rwF r r2)))), (q_lo, .inl (cI, 8, .inl (lo))), (q_dp, .inl (cI, 8, .inl (dp))), (q_sh, .inl (cI, 5, .inl (aN sh))), (q_fd, .inl (cI, 5, .inl (aN fd)))] := hD9.set (p := 1) (e := .inl (cI, 32, .inl (aT (joT n t a da b db)))) rfl
        exact W.iret (v := (-5)) hx hb hr (fun t ht hW => ⟨⟨_, (), rfl, er, by rw [ht]; exact hP9, hD9⟩, hS.F ht⟩) hS.2.2 dX6_join_65
      · replace hw := hwf cc
        refine lv_aload_n hx hb dX6_join_43 rfl (lv_at hl 2 rfl) ?_
        refine va_get (D := D) (ci := 6) (v := .ref q_mt) (C := RX6) (T := TX6) (N := 12) hx hb hts i_X6_join_X6 hown hZ.1 hP 0 rfl rfl 1 (by decide) (hts _ m_X6_join_f13) (fun _ h9 => h9) rfl dX6_join_44 ?_
        refine lv_iload hx hb dX6_join_47 (lv_at hl 1 rfl) ?_
        obtain ⟨zk9, ezk9, hw⟩ := hw
        refine z_st (st' := [.int (nI zk9), .ref q_mt]) (by rw [ezk9]) ?_
        obtain ⟨zh10, hw⟩ := hw
        refine z_iald hx hb hZ.1 hP 1 0 rfl rfl zh10 (by decide) (v := aT t zk9) rfl dX6_join_49 ?_
        obtain ⟨hwt, hwf⟩ := hw
        refine lv_if_ge hx hb (tgt := 63) dX6_join_50 (by decide) (fun cc => ?_) (fun cc => ?_)
        · replace hw := hwt cc
          refine lv_bipush (v := (-5)) hx hb dX6_join_63 (by decide +kernel) ?_
          obtain ⟨er, ec_mt⟩ := hw
          have hP9 : va_P D vwCl [(q_md, .inr (6, [.int (nI n), .ref q_mt, .ref q_mb, .ref q_ml, .ref q_mr, .int (nI a0), .int (nI y0), .ref q_lo, .ref q_dp, .int (nI cl), .ref q_sh, .ref q_fd])), (q_mt, .inl (cI, 32, .inl (aT t))), (q_mb, .inl (cZ, 32, .inl (aB w))), (q_ml, .inl (cI, 2, .inl (aN (lnF L L2)))), (q_mr, .inl (cI, 80, .inl (aN (rwF r r2)))), (q_lo, .inl (cI, 8, .inl (lo))), (q_dp, .inl (cI, 8, .inl (dp))), (q_sh, .inl (cI, 5, .inl (aN sh))), (q_fd, .inl (cI, 5, .inl (aN fd)))] zs.heap := hP.sub [0, 1, 2, 3, 4, 5, 6, 7, 8] rfl
          have hD9 : va_D A [(q_md, .inr (6, [.int (nI n), .ref q_mt, .ref q_mb, .ref q_ml, .ref q_mr, .int (nI a0), .int (nI y0), .ref q_lo, .ref q_dp, .int (nI cl), .ref q_sh, .ref q_fd])), (q_mt, .inl (cI, 32, .inl (aT t))), (q_mb, .inl (cZ, 32, .inl (aB w))), (q_ml, .inl (cI, 2, .inl (aN (lnF L L2)))), (q_mr, .inl (cI, 80, .inl (aN (rwF r r2)))), (q_lo, .inl (cI, 8, .inl (lo))), (q_dp, .inl (cI, 8, .inl (dp))), (q_sh, .inl (cI, 5, .inl (aN sh))), (q_fd, .inl (cI, 5, .inl (aN fd)))] := hD.sub [0, 1, 2, 3, 4, 5, 6, 7, 8] (by decide) rfl
          have hP9 : va_P D vwCl [(q_md, .inr (6, [.int (nI n), .ref q_mt, .ref q_mb, .ref q_ml, .ref q_mr, .int (nI a0), .int (nI y0), .ref q_lo, .ref q_dp, .int (nI cl), .ref q_sh, .ref q_fd])), (q_mt, .inl (cI, 32, .inl (aT (joT n t a da b db)))), (q_mb, .inl (cZ, 32, .inl (aB w))), (q_ml, .inl (cI, 2, .inl (aN (lnF L L2)))), (q_mr, .inl (cI, 80, .inl (aN (rwF r r2)))), (q_lo, .inl (cI, 8, .inl (lo))), (q_dp, .inl (cI, 8, .inl (dp))), (q_sh, .inl (cI, 5, .inl (aN sh))), (q_fd, .inl (cI, 5, .inl (aN fd)))] zs.heap := z_arr hP9 1 rfl ec_mt
          have hD9 : va_D A [(q_md, .inr (6, [.int (nI n), .ref q_mt, .ref q_mb, .ref q_ml, .ref q_mr, .int (nI a0), .int (nI y0), .ref q_lo, .ref q_dp, .int (nI cl), .ref q_sh, .ref q_fd])), (q_mt, .inl (cI, 32, .inl (aT (joT n t a da b db)))), (q_mb, .inl (cZ, 32, .inl (aB w))), (q_ml, .inl (cI, 2, .inl (aN (lnF L L2)))), (q_mr, .inl (cI, 80, .inl (aN (rwF r r2)))), (q_lo, .inl (cI, 8, .inl (lo))), (q_dp, .inl (cI, 8, .inl (dp))), (q_sh, .inl (cI, 5, .inl (aN sh))), (q_fd, .inl (cI, 5, .inl (aN fd)))] := hD9.set (p := 1) (e := .inl (cI, 32, .inl (aT (joT n t a da b db)))) rfl
          exact W.iret (v := (-5)) hx hb hr (fun t ht hW => ⟨⟨_, (), rfl, er, by rw [ht]; exact hP9, hD9⟩, hS.F ht⟩) hS.2.2 dX6_join_65
        · replace hw := hwf cc
          refine lv_aload_n hx hb dX6_join_53 rfl (lv_at hl 2 rfl) ?_
          refine va_get (D := D) (ci := 6) (v := .ref q_mt) (C := RX6) (T := TX6) (N := 12) hx hb hts i_X6_join_X6 hown hZ.1 hP 0 rfl rfl 1 (by decide) (hts _ m_X6_join_f13) (fun _ h9 => h9) rfl dX6_join_54 ?_
          refine lv_iload hx hb dX6_join_57 (lv_at hl 0 rfl) ?_
          obtain ⟨zk11, ezk11, hw⟩ := hw
          refine z_st (st' := [.int (nI zk11), .ref q_mt]) (by rw [ezk11]) ?_
          obtain ⟨zh12, hw⟩ := hw
          refine z_iald hx hb hZ.1 hP 1 0 rfl rfl zh12 (by decide) (v := aT t zk11) rfl dX6_join_59 ?_
          obtain ⟨hwt, hwf⟩ := hw
          refine lv_if_lt hx hb (tgt := 66) dX6_join_60 (by decide) (fun cc => ?_) (fun cc => ?_)
          · replace hw := hwt cc
            refine lv_aload_n hx hb dX6_join_66 rfl (lv_at hl 2 rfl) ?_
            refine va_get (D := D) (ci := 6) (v := .ref q_mt) (C := RX6) (T := TX6) (N := 12) hx hb hts i_X6_join_X6 hown hZ.1 hP 0 rfl rfl 1 (by decide) (hts _ m_X6_join_f13) (fun _ h9 => h9) rfl dX6_join_67 ?_
            refine lv_iload hx hb dX6_join_70 (lv_at hl 1 rfl) ?_
            refine lv_iload hx hb dX6_join_72 (lv_at hl 0 rfl) ?_
            obtain ⟨zk13, ezk13, hw⟩ := hw
            refine z_st (st' := [.int zx8, .int (nI zk13), .ref q_mt]) (by rw [ezk13]) ?_
            obtain ⟨zh14, hw⟩ := hw
            refine z_iast hx hb hZ.1 hP hD hS 1 0 rfl rfl zh14 (by decide) (g := upd (aT t) zk13 zx8) rfl dX6_join_74 (fun H locs hP hD hS => ?_)
            have hP : va_P D vwCl [(q_md, .inr (6, [.int (nI n), .ref q_mt, .ref q_mb, .ref q_ml, .ref q_mr, .int (nI a0), .int (nI y0), .ref q_lo, .ref q_dp, .int (nI cl), .ref q_sh, .ref q_fd])), (q_mt, .inl (cI, 32, .inl (upd (aT t) zk13 zx8))), (q_mb, .inl (cZ, 32, .inl (aB w))), (q_ml, .inl (cI, 2, .inl (aN (lnF L L2)))), (q_mr, .inl (cI, 80, .inl (aN (rwF r r2)))), (q_lo, .inl (cI, 8, .inl (lo))), (q_dp, .inl (cI, 8, .inl (dp))), (q_sh, .inl (cI, 5, .inl (aN sh))), (q_fd, .inl (cI, 5, .inl (aN fd)))] H := hP
            have hD : va_D A [(q_md, .inr (6, [.int (nI n), .ref q_mt, .ref q_mb, .ref q_ml, .ref q_mr, .int (nI a0), .int (nI y0), .ref q_lo, .ref q_dp, .int (nI cl), .ref q_sh, .ref q_fd])), (q_mt, .inl (cI, 32, .inl (upd (aT t) zk13 zx8))), (q_mb, .inl (cZ, 32, .inl (aB w))), (q_ml, .inl (cI, 2, .inl (aN (lnF L L2)))), (q_mr, .inl (cI, 80, .inl (aN (rwF r r2)))), (q_lo, .inl (cI, 8, .inl (lo))), (q_dp, .inl (cI, 8, .inl (dp))), (q_sh, .inl (cI, 5, .inl (aN sh))), (q_fd, .inl (cI, 5, .inl (aN fd)))] := hD
            refine lv_aload_n hx hb dX6_join_75 rfl (lv_at hl 2 rfl) ?_
            refine va_get (D := D) (ci := 6) (v := .ref q_mt) (C := RX6) (T := TX6) (N := 12) hx hb hts i_X6_join_X6 hown hZ.1 hP 0 rfl rfl 1 (by decide) (hts _ m_X6_join_f13) (fun _ h9 => h9) rfl dX6_join_76 ?_
            refine lv_iload hx hb dX6_join_79 (lv_at hl 0 rfl) ?_
            refine lv_iload hx hb dX6_join_81 (lv_at hl 1 rfl) ?_
            obtain ⟨zk15, ezk15, hw⟩ := hw
            refine z_st (st' := [.int zx7, .int (nI zk15), .ref q_mt]) (by rw [ezk15]) ?_
            obtain ⟨zh16, hw⟩ := hw
            refine z_iast hx hb hZ.1 hP hD hS 1 0 rfl rfl zh16 (by decide) (g := upd (upd (aT t) zk13 zx8) zk15 zx7) rfl dX6_join_83 (fun H locs hP hD hS => ?_)
            have hP : va_P D vwCl [(q_md, .inr (6, [.int (nI n), .ref q_mt, .ref q_mb, .ref q_ml, .ref q_mr, .int (nI a0), .int (nI y0), .ref q_lo, .ref q_dp, .int (nI cl), .ref q_sh, .ref q_fd])), (q_mt, .inl (cI, 32, .inl (upd (upd (aT t) zk13 zx8) zk15 zx7))), (q_mb, .inl (cZ, 32, .inl (aB w))), (q_ml, .inl (cI, 2, .inl (aN (lnF L L2)))), (q_mr, .inl (cI, 80, .inl (aN (rwF r r2)))), (q_lo, .inl (cI, 8, .inl (lo))), (q_dp, .inl (cI, 8, .inl (dp))), (q_sh, .inl (cI, 5, .inl (aN sh))), (q_fd, .inl (cI, 5, .inl (aN fd)))] H := hP
            have hD : va_D A [(q_md, .inr (6, [.int (nI n), .ref q_mt, .ref q_mb, .ref q_ml, .ref q_mr, .int (nI a0), .int (nI y0), .ref q_lo, .ref q_dp, .int (nI cl), .ref q_sh, .ref q_fd])), (q_mt, .inl (cI, 32, .inl (upd (upd (aT t) zk13 zx8) zk15 zx7))), (q_mb, .inl (cZ, 32, .inl (aB w))), (q_ml, .inl (cI, 2, .inl (aN (lnF L L2)))), (q_mr, .inl (cI, 80, .inl (aN (rwF r r2)))), (q_lo, .inl (cI, 8, .inl (lo))), (q_dp, .inl (cI, 8, .inl (dp))), (q_sh, .inl (cI, 5, .inl (aN sh))), (q_fd, .inl (cI, 5, .inl (aN fd)))] := hD
            refine lv_aload_n hx hb dX6_join_84 rfl (lv_at hl 2 rfl) ?_
            obtain ⟨zt17, ezt17, hw⟩ := hw
            have hP : va_P D vwCl [(q_md, .inr (6, [.int (nI n), .ref q_mt, .ref q_mb, .ref q_ml, .ref q_mr, .int (nI a0), .int (nI y0), .ref q_lo, .ref q_dp, .int (nI cl), .ref q_sh, .ref q_fd])), (q_mt, .inl (cI, 32, .inl (aT zt17))), (q_mb, .inl (cZ, 32, .inl (aB w))), (q_ml, .inl (cI, 2, .inl (aN (lnF L L2)))), (q_mr, .inl (cI, 80, .inl (aN (rwF r r2)))), (q_lo, .inl (cI, 8, .inl (lo))), (q_dp, .inl (cI, 8, .inl (dp))), (q_sh, .inl (cI, 5, .inl (aN sh))), (q_fd, .inl (cI, 5, .inl (aN fd)))] H := z_arr hP 1 rfl ezt17
            have hD : va_D A [(q_md, .inr (6, [.int (nI n), .ref q_mt, .ref q_mb, .ref q_ml, .ref q_mr, .int (nI a0), .int (nI y0), .ref q_lo, .ref q_dp, .int (nI cl), .ref q_sh, .ref q_fd])), (q_mt, .inl (cI, 32, .inl (aT zt17))), (q_mb, .inl (cZ, 32, .inl (aB w))), (q_ml, .inl (cI, 2, .inl (aN (lnF L L2)))), (q_mr, .inl (cI, 80, .inl (aN (rwF r r2)))), (q_lo, .inl (cI, 8, .inl (lo))), (q_dp, .inl (cI, 8, .inl (dp))), (q_sh, .inl (cI, 5, .inl (aN sh))), (q_fd, .inl (cI, 5, .inl (aN fd)))] := hD.set (p := 1) (e := .inl (cI, 32, .inl (aT zt17))) rfl
            obtain ⟨zh18, hw⟩ := hw
            have hPc : va_P D vwCl [(q_md, .inr (6, [.int (nI n), .ref q_mt, .ref q_mb, .ref q_ml, .ref q_mr, .int (nI a0), .int (nI y0), .ref q_lo, .ref q_dp, .int (nI cl), .ref q_sh, .ref q_fd])), (q_mt, .inl (cI, 32, .inl (aT zt17))), (q_mb, .inl (cZ, 32, .inl (aB w))), (q_ml, .inl (cI, 2, .inl (aN (lnF L L2)))), (q_mr, .inl (cI, 80, .inl (aN (rwF r r2)))), (q_lo, .inl (cI, 8, .inl (lo))), (q_dp, .inl (cI, 8, .inl (dp))), (q_sh, .inl (cI, 5, .inl (aN sh))), (q_fd, .inl (cI, 5, .inl (aN fd)))] H := hP.sub [0, 1, 2, 3, 4, 5, 6, 7, 8] rfl
            refine z_ro (va_runV (As := []) (rest := []) ⟨hx, hb, hml, hown, hts⟩ (k_X6_pairs q_md q_mt q_mb q_ml q_mr q_lo q_dp q_sh q_fd n zt17 w r L r2 L2 a0 y0 lo dp cl sh fd zh18) (cwV 0 hts gX6_join_X6_pairs rfl rfl rfl (by decide +kernel) ⟨Nat.le_of_ble_eq_true rfl, Nat.le_of_ble_eq_true rfl⟩) (zPr_V hZ hPc 0 rfl rfl) rfl rfl hl.1 rfl (lv_room (Nat.le_of_ble_eq_true rfl)) dX6_join_85 ⟨Nat.zero_le _, Nat.zero_le _⟩) (fun zr19 hzr19 => ?_)
            have ez := hzr19
            rw [ez]
            clear ez hzr19
            obtain ⟨er, ec_mt⟩ := hw
            have hP9 : va_P D vwCl [(q_md, .inr (6, [.int (nI n), .ref q_mt, .ref q_mb, .ref q_ml, .ref q_mr, .int (nI a0), .int (nI y0), .ref q_lo, .ref q_dp, .int (nI cl), .ref q_sh, .ref q_fd])), (q_mt, .inl (cI, 32, .inl (aT zt17))), (q_mb, .inl (cZ, 32, .inl (aB w))), (q_ml, .inl (cI, 2, .inl (aN (lnF L L2)))), (q_mr, .inl (cI, 80, .inl (aN (rwF r r2)))), (q_lo, .inl (cI, 8, .inl (lo))), (q_dp, .inl (cI, 8, .inl (dp))), (q_sh, .inl (cI, 5, .inl (aN sh))), (q_fd, .inl (cI, 5, .inl (aN fd)))] H := hP.sub [0, 1, 2, 3, 4, 5, 6, 7, 8] rfl
            have hD9 : va_D A [(q_md, .inr (6, [.int (nI n), .ref q_mt, .ref q_mb, .ref q_ml, .ref q_mr, .int (nI a0), .int (nI y0), .ref q_lo, .ref q_dp, .int (nI cl), .ref q_sh, .ref q_fd])), (q_mt, .inl (cI, 32, .inl (aT zt17))), (q_mb, .inl (cZ, 32, .inl (aB w))), (q_ml, .inl (cI, 2, .inl (aN (lnF L L2)))), (q_mr, .inl (cI, 80, .inl (aN (rwF r r2)))), (q_lo, .inl (cI, 8, .inl (lo))), (q_dp, .inl (cI, 8, .inl (dp))), (q_sh, .inl (cI, 5, .inl (aN sh))), (q_fd, .inl (cI, 5, .inl (aN fd)))] := hD.sub [0, 1, 2, 3, 4, 5, 6, 7, 8] (by decide) rfl
            have hP9 : va_P D vwCl [(q_md, .inr (6, [.int (nI n), .ref q_mt, .ref q_mb, .ref q_ml, .ref q_mr, .int (nI a0), .int (nI y0), .ref q_lo, .ref q_dp, .int (nI cl), .ref q_sh, .ref q_fd])), (q_mt, .inl (cI, 32, .inl (aT (joT n t a da b db)))), (q_mb, .inl (cZ, 32, .inl (aB w))), (q_ml, .inl (cI, 2, .inl (aN (lnF L L2)))), (q_mr, .inl (cI, 80, .inl (aN (rwF r r2)))), (q_lo, .inl (cI, 8, .inl (lo))), (q_dp, .inl (cI, 8, .inl (dp))), (q_sh, .inl (cI, 5, .inl (aN sh))), (q_fd, .inl (cI, 5, .inl (aN fd)))] H := z_arr hP9 1 rfl ec_mt
            have hD9 : va_D A [(q_md, .inr (6, [.int (nI n), .ref q_mt, .ref q_mb, .ref q_ml, .ref q_mr, .int (nI a0), .int (nI y0), .ref q_lo, .ref q_dp, .int (nI cl), .ref q_sh, .ref q_fd])), (q_mt, .inl (cI, 32, .inl (aT (joT n t a da b db)))), (q_mb, .inl (cZ, 32, .inl (aB w))), (q_ml, .inl (cI, 2, .inl (aN (lnF L L2)))), (q_mr, .inl (cI, 80, .inl (aN (rwF r r2)))), (q_lo, .inl (cI, 8, .inl (lo))), (q_dp, .inl (cI, 8, .inl (dp))), (q_sh, .inl (cI, 5, .inl (aN sh))), (q_fd, .inl (cI, 5, .inl (aN fd)))] := hD9.set (p := 1) (e := .inl (cI, 32, .inl (aT (joT n t a da b db)))) rfl
            exact W.iret (v := nI (prs zt17)) hx hb hr (fun t ht hW => ⟨⟨_, (), rfl, er, by rw [ht]; exact hP9, hD9⟩, hS.F ht⟩) hS.2.2 dX6_join_88
          · replace hw := hwf cc
            refine lv_bipush (v := (-5)) hx hb dX6_join_63 (by decide +kernel) ?_
            obtain ⟨er, ec_mt⟩ := hw
            have hP9 : va_P D vwCl [(q_md, .inr (6, [.int (nI n), .ref q_mt, .ref q_mb, .ref q_ml, .ref q_mr, .int (nI a0), .int (nI y0), .ref q_lo, .ref q_dp, .int (nI cl), .ref q_sh, .ref q_fd])), (q_mt, .inl (cI, 32, .inl (aT t))), (q_mb, .inl (cZ, 32, .inl (aB w))), (q_ml, .inl (cI, 2, .inl (aN (lnF L L2)))), (q_mr, .inl (cI, 80, .inl (aN (rwF r r2)))), (q_lo, .inl (cI, 8, .inl (lo))), (q_dp, .inl (cI, 8, .inl (dp))), (q_sh, .inl (cI, 5, .inl (aN sh))), (q_fd, .inl (cI, 5, .inl (aN fd)))] zs.heap := hP.sub [0, 1, 2, 3, 4, 5, 6, 7, 8] rfl
            have hD9 : va_D A [(q_md, .inr (6, [.int (nI n), .ref q_mt, .ref q_mb, .ref q_ml, .ref q_mr, .int (nI a0), .int (nI y0), .ref q_lo, .ref q_dp, .int (nI cl), .ref q_sh, .ref q_fd])), (q_mt, .inl (cI, 32, .inl (aT t))), (q_mb, .inl (cZ, 32, .inl (aB w))), (q_ml, .inl (cI, 2, .inl (aN (lnF L L2)))), (q_mr, .inl (cI, 80, .inl (aN (rwF r r2)))), (q_lo, .inl (cI, 8, .inl (lo))), (q_dp, .inl (cI, 8, .inl (dp))), (q_sh, .inl (cI, 5, .inl (aN sh))), (q_fd, .inl (cI, 5, .inl (aN fd)))] := hD.sub [0, 1, 2, 3, 4, 5, 6, 7, 8] (by decide) rfl
            have hP9 : va_P D vwCl [(q_md, .inr (6, [.int (nI n), .ref q_mt, .ref q_mb, .ref q_ml, .ref q_mr, .int (nI a0), .int (nI y0), .ref q_lo, .ref q_dp, .int (nI cl), .ref q_sh, .ref q_fd])), (q_mt, .inl (cI, 32, .inl (aT (joT n t a da b db)))), (q_mb, .inl (cZ, 32, .inl (aB w))), (q_ml, .inl (cI, 2, .inl (aN (lnF L L2)))), (q_mr, .inl (cI, 80, .inl (aN (rwF r r2)))), (q_lo, .inl (cI, 8, .inl (lo))), (q_dp, .inl (cI, 8, .inl (dp))), (q_sh, .inl (cI, 5, .inl (aN sh))), (q_fd, .inl (cI, 5, .inl (aN fd)))] zs.heap := z_arr hP9 1 rfl ec_mt
            have hD9 : va_D A [(q_md, .inr (6, [.int (nI n), .ref q_mt, .ref q_mb, .ref q_ml, .ref q_mr, .int (nI a0), .int (nI y0), .ref q_lo, .ref q_dp, .int (nI cl), .ref q_sh, .ref q_fd])), (q_mt, .inl (cI, 32, .inl (aT (joT n t a da b db)))), (q_mb, .inl (cZ, 32, .inl (aB w))), (q_ml, .inl (cI, 2, .inl (aN (lnF L L2)))), (q_mr, .inl (cI, 80, .inl (aN (rwF r r2)))), (q_lo, .inl (cI, 8, .inl (lo))), (q_dp, .inl (cI, 8, .inl (dp))), (q_sh, .inl (cI, 5, .inl (aN sh))), (q_fd, .inl (cI, 5, .inl (aN fd)))] := hD9.set (p := 1) (e := .inl (cI, 32, .inl (aT (joT n t a da b db)))) rfl
            exact W.iret (v := (-5)) hx hb hr (fun t ht hW => ⟨⟨_, (), rfl, er, by rw [ht]; exact hP9, hD9⟩, hS.F ht⟩) hS.2.2 dX6_join_65
    · replace hw := hwf cc
      refine lv_iconst (v := (-1)) hx hb dX6_join_19 (by decide +kernel) ?_
      obtain ⟨er, ec_mt⟩ := hw
      have hP9 : va_P D vwCl [(q_md, .inr (6, [.int (nI n), .ref q_mt, .ref q_mb, .ref q_ml, .ref q_mr, .int (nI a0), .int (nI y0), .ref q_lo, .ref q_dp, .int (nI cl), .ref q_sh, .ref q_fd])), (q_mt, .inl (cI, 32, .inl (aT t))), (q_mb, .inl (cZ, 32, .inl (aB w))), (q_ml, .inl (cI, 2, .inl (aN (lnF L L2)))), (q_mr, .inl (cI, 80, .inl (aN (rwF r r2)))), (q_lo, .inl (cI, 8, .inl (lo))), (q_dp, .inl (cI, 8, .inl (dp))), (q_sh, .inl (cI, 5, .inl (aN sh))), (q_fd, .inl (cI, 5, .inl (aN fd)))] zs.heap := hP.sub [0, 1, 2, 3, 4, 5, 6, 7, 8] rfl
      have hD9 : va_D A [(q_md, .inr (6, [.int (nI n), .ref q_mt, .ref q_mb, .ref q_ml, .ref q_mr, .int (nI a0), .int (nI y0), .ref q_lo, .ref q_dp, .int (nI cl), .ref q_sh, .ref q_fd])), (q_mt, .inl (cI, 32, .inl (aT t))), (q_mb, .inl (cZ, 32, .inl (aB w))), (q_ml, .inl (cI, 2, .inl (aN (lnF L L2)))), (q_mr, .inl (cI, 80, .inl (aN (rwF r r2)))), (q_lo, .inl (cI, 8, .inl (lo))), (q_dp, .inl (cI, 8, .inl (dp))), (q_sh, .inl (cI, 5, .inl (aN sh))), (q_fd, .inl (cI, 5, .inl (aN fd)))] := hD.sub [0, 1, 2, 3, 4, 5, 6, 7, 8] (by decide) rfl
      have hP9 : va_P D vwCl [(q_md, .inr (6, [.int (nI n), .ref q_mt, .ref q_mb, .ref q_ml, .ref q_mr, .int (nI a0), .int (nI y0), .ref q_lo, .ref q_dp, .int (nI cl), .ref q_sh, .ref q_fd])), (q_mt, .inl (cI, 32, .inl (aT (joT n t a da b db)))), (q_mb, .inl (cZ, 32, .inl (aB w))), (q_ml, .inl (cI, 2, .inl (aN (lnF L L2)))), (q_mr, .inl (cI, 80, .inl (aN (rwF r r2)))), (q_lo, .inl (cI, 8, .inl (lo))), (q_dp, .inl (cI, 8, .inl (dp))), (q_sh, .inl (cI, 5, .inl (aN sh))), (q_fd, .inl (cI, 5, .inl (aN fd)))] zs.heap := z_arr hP9 1 rfl ec_mt
      have hD9 : va_D A [(q_md, .inr (6, [.int (nI n), .ref q_mt, .ref q_mb, .ref q_ml, .ref q_mr, .int (nI a0), .int (nI y0), .ref q_lo, .ref q_dp, .int (nI cl), .ref q_sh, .ref q_fd])), (q_mt, .inl (cI, 32, .inl (aT (joT n t a da b db)))), (q_mb, .inl (cZ, 32, .inl (aB w))), (q_ml, .inl (cI, 2, .inl (aN (lnF L L2)))), (q_mr, .inl (cI, 80, .inl (aN (rwF r r2)))), (q_lo, .inl (cI, 8, .inl (lo))), (q_dp, .inl (cI, 8, .inl (dp))), (q_sh, .inl (cI, 5, .inl (aN sh))), (q_fd, .inl (cI, 5, .inl (aN fd)))] := hD9.set (p := 1) (e := .inl (cI, 32, .inl (aT (joT n t a da b db)))) rfl
      exact W.iret (v := (-1)) hx hb hr (fun t ht hW => ⟨⟨_, (), rfl, er, by rw [ht]; exact hP9, hD9⟩, hS.F ht⟩) hS.2.2 dX6_join_20
set_option maxRecDepth 100000 in
set_option maxHeartbeats 4000000 in
theorem w_X6_named {l : Launch} {D : va_G} {cI cZ : ClassId} (vv : V_X6_named) : K_X6_named l D cI cZ := by
  intro d hpre0
  have vw := vv d hpre0
  refine Met.ofW (cc := cX6_named) (maxL := 1) (ret := (some .int)) (by decide) rfl ?_
  intro zp ze zs zm zargs zbelow zmeth zc zs1 B hml hv
  obtain ⟨rfl, hZ, hP⟩ := hv
  have hx := B.exec
  have hb := B.bytes
  have hr := B.returns
  have hts := atoms_spec (ws := wsX6_named) B.pre
  have hown : zs.vm.findClass RX6 = some zm.cls := findClass_of_methodNamed B.named
  have hlocks := B.notSynchronized
  have hP : va_P D vwCl [] zs.heap := hP
  have hl := lv_entry ([.int (nI d)]) (n := 1) (Nat.le_of_ble_eq_true rfl)
  rw [lg_entry_eq]
  generalize (lg_sl ([.int (nI d)]) ++ List.replicate (1 - (lg_sl ([.int (nI d)])).length) Slot.unset).toArray = ls at hl ⊢
  have hl : lv_has ls 1 [(0, .int (nI d))] := hl
  have hw := vw
  unfold B_X6_named_in at hw
  refine lv_bipush (v := nI 10) hx hb dX6_named_0 (by decide +kernel) ?_
  refine lv_iload_n hx hb dX6_named_2 rfl (lv_at hl 0 rfl) ?_
  refine lv_iconst (v := nI 4) hx hb dX6_named_3 (by decide +kernel) ?_
  obtain ⟨zh1, hw⟩ := hw
  refine z_idiv hx hb (n_nz (by decide) (by decide)) (n_div zh1 (by decide) (by decide)) dX6_named_4 ?_
  refine z_imul hx hb (pk_mul _ _) dX6_named_5 ?_
  refine lv_iload_n hx hb dX6_named_6 rfl (lv_at hl 0 rfl) ?_
  refine lv_iconst (v := nI 4) hx hb dX6_named_7 (by decide +kernel) ?_
  obtain ⟨zh2, hw⟩ := hw
  refine z_irem hx hb (n_nz (by decide) (by decide)) (n_rem zh2 (by decide) (by decide)) dX6_named_8 ?_
  refine z_iadd hx hb (nI_add _ _) dX6_named_9 ?_
  have er := hw
  exact W.iret (v := nI ((10 * (d / 4)) + (d % 4))) hx hb hr (fun t ht hW => ⟨_, rfl, (congrArg nI er), ht⟩) (fun _ h => by cases h) dX6_named_10
theorem m_X6_part_f13 : Cond.fieldLink RX6 13 "NetWalkersModel" "to" "[I" ∈ wsX6_part := by decide +kernel
theorem i_X6_part_X6 : ∀ w ∈ wsX60, w ∈ wsX6_part := by decide +kernel
set_option maxRecDepth 100000 in
set_option maxHeartbeats 4000000 in
theorem w_X6_part {l : Launch} {D : va_G} {cI cZ : ClassId} (k_X6_isDoor : K_X6_isDoor l D cI cZ) (k_X6_named : K_X6_named l D cI cZ) (vv : V_X6_part) : K_X6_part l D cI cZ := by
  intro q_md q_mt q_mb q_ml q_mr q_lo q_dp q_sh q_fd sz n t w r L r2 L2 a0 y0 lo dp cl sh fd p d hpre0
  have vw := vv n t w r L r2 L2 a0 y0 lo dp cl sh fd p d hpre0
  refine Met.ofW (cc := cX6_part) (maxL := 4) (ret := (some .int)) (by decide) rfl ?_
  intro zp ze zs zm zargs zbelow zmeth zc zs1 B hml hv
  obtain ⟨rfl, hsz, hZ, hP, hD0⟩ := hv
  have hx := B.exec
  have hb := B.bytes
  have hr := B.returns
  have hts := atoms_spec (ws := wsX6_part) B.pre
  have hown : zs.vm.findClass RX6 = some zm.cls := findClass_of_methodNamed B.named
  have hlocks := B.notSynchronized
  subst hsz
  have hD := hD0.self (sz := zs.heap.size)
  generalize hAe : va_A [(q_md, .inr (6, [.int (nI n), .ref q_mt, .ref q_mb, .ref q_ml, .ref q_mr, .int (nI a0), .int (nI y0), .ref q_lo, .ref q_dp, .int (nI cl), .ref q_sh, .ref q_fd])), (q_mt, .inl (cI, 32, .inl (aT t))), (q_mb, .inl (cZ, 32, .inl (aB w))), (q_ml, .inl (cI, 2, .inl (aN (lnF L L2)))), (q_mr, .inl (cI, 80, .inl (aN (rwF r r2)))), (q_lo, .inl (cI, 8, .inl (lo))), (q_dp, .inl (cI, 8, .inl (dp))), (q_sh, .inl (cI, 5, .inl (aN sh))), (q_fd, .inl (cI, 5, .inl (aN fd)))] zs.heap.size = A at hD ⊢
  have hA : ∀ q : Nat, zs.heap.size ≤ q → A q := fun q h => by rw [← hAe]; exact Or.inr h
  have hS : va_S A zs.heap zs.heap [] := va_S.rf
  have hP : va_P D vwCl [(q_md, .inr (6, [.int (nI n), .ref q_mt, .ref q_mb, .ref q_ml, .ref q_mr, .int (nI a0), .int (nI y0), .ref q_lo, .ref q_dp, .int (nI cl), .ref q_sh, .ref q_fd])), (q_mt, .inl (cI, 32, .inl (aT t))), (q_mb, .inl (cZ, 32, .inl (aB w))), (q_ml, .inl (cI, 2, .inl (aN (lnF L L2)))), (q_mr, .inl (cI, 80, .inl (aN (rwF r r2)))), (q_lo, .inl (cI, 8, .inl (lo))), (q_dp, .inl (cI, 8, .inl (dp))), (q_sh, .inl (cI, 5, .inl (aN sh))), (q_fd, .inl (cI, 5, .inl (aN fd)))] zs.heap := hP
  have hl := lv_entry ([.ref q_md, .int p, .int d]) (n := 4) (Nat.le_of_ble_eq_true rfl)
  rw [lg_entry_eq]
  generalize (lg_sl ([.ref q_md, .int p, .int d]) ++ List.replicate (4 - (lg_sl ([.ref q_md, .int p, .int d])).length) Slot.unset).toArray = ls at hl ⊢
  have hl : lv_has ls 4 [(0, .ref q_md), (1, .int p), (2, .int d)] := hl
  have hw := vw
  unfold B_X6_part_in at hw
  refine lv_aload_n hx hb dX6_part_0 rfl (lv_at hl 0 rfl) ?_
  refine lv_iload_n hx hb dX6_part_1 rfl (lv_at hl 1 rfl) ?_
  refine lv_iload_n hx hb dX6_part_2 rfl (lv_at hl 2 rfl) ?_
  obtain ⟨zh1, hw⟩ := hw
  obtain ⟨zh2, hw⟩ := hw
  have hPc : va_P D vwCl [(q_md, .inr (6, [.int (nI n), .ref q_mt, .ref q_mb, .ref q_ml, .ref q_mr, .int (nI a0), .int (nI y0), .ref q_lo, .ref q_dp, .int (nI cl), .ref q_sh, .ref q_fd])), (q_mt, .inl (cI, 32, .inl (aT t))), (q_mb, .inl (cZ, 32, .inl (aB w))), (q_ml, .inl (cI, 2, .inl (aN (lnF L L2)))), (q_mr, .inl (cI, 80, .inl (aN (rwF r r2)))), (q_lo, .inl (cI, 8, .inl (lo))), (q_dp, .inl (cI, 8, .inl (dp))), (q_sh, .inl (cI, 5, .inl (aN sh))), (q_fd, .inl (cI, 5, .inl (aN fd)))] zs.heap := hP.sub [0, 1, 2, 3, 4, 5, 6, 7, 8] rfl
  refine z_ro (va_runV (As := [.int p, .int d]) (rest := []) ⟨hx, hb, hml, hown, hts⟩ (k_X6_isDoor q_md q_mt q_mb q_ml q_mr q_lo q_dp q_sh q_fd n t w r L r2 L2 a0 y0 lo dp cl sh fd p d zh1 zh2) (cwV 2 hts gX6_part_X6_isDoor rfl rfl rfl (by decide +kernel) ⟨Nat.le_of_ble_eq_true rfl, Nat.le_of_ble_eq_true rfl⟩) (zPr_V hZ hPc 0 rfl rfl) rfl rfl hl.1 rfl (lv_room (Nat.le_of_ble_eq_true rfl)) dX6_part_3 ⟨Nat.zero_le _, Nat.zero_le _⟩) (fun zr3 hzr3 => ?_)
  have ez := hzr3
  rw [ez]
  clear ez hzr3
  obtain ⟨hwt, hwf⟩ := hw
  refine z_if_neb hx hb (tgt := 11) dX6_part_6 (by decide) (fun cc => ?_) (fun cc => ?_)
  · replace hw := hwt cc
    refine lv_aload_n hx hb dX6_part_11 rfl (lv_at hl 0 rfl) ?_
    refine va_get (D := D) (ci := 6) (v := .ref q_mt) (C := RX6) (T := TX6) (N := 12) hx hb hts i_X6_part_X6 hown hZ.1 hP 0 rfl rfl 1 (by decide) (hts _ m_X6_part_f13) (fun _ h9 => h9) rfl dX6_part_12 ?_
    refine lv_iconst (v := nI 4) hx hb dX6_part_15 (by decide +kernel) ?_
    refine lv_iload_n hx hb dX6_part_16 rfl (lv_at hl 1 rfl) ?_
    refine z_imul hx hb rfl dX6_part_17 ?_
    refine lv_iload_n hx hb dX6_part_18 rfl (lv_at hl 2 rfl) ?_
    refine z_iadd hx hb rfl dX6_part_19 ?_
    obtain ⟨zk4, ezk4, hw⟩ := hw
    refine z_st (st' := [.int (nI zk4), .ref q_mt]) (by rw [ezk4]) ?_
    obtain ⟨zh5, hw⟩ := hw
    refine z_iald hx hb hZ.1 hP 1 0 rfl rfl zh5 (by decide) (v := aT t zk4) rfl dX6_part_20 ?_
    obtain ⟨zx6, ezx6⟩ : ∃ zx6 : Int32, zx6 = aT t zk4 := ⟨_, rfl⟩
    replace hw := hw zx6 ezx6
    refine z_st (st' := [.int zx6]) (by rw [ezx6]) ?_
    refine lv_istore_n (lv' := [(3, .int zx6), (0, .ref q_md), (1, .int p), (2, .int d)]) hx hb dX6_part_21 rfl hl (by decide) rfl (fun ls hl => ?_)
    refine lv_iload_n hx hb dX6_part_22 rfl (lv_at hl 0 rfl) ?_
    obtain ⟨hwt, hwf⟩ := hw
    refine lv_if_ge hx hb (tgt := 29) dX6_part_23 (by decide) (fun cc => ?_) (fun cc => ?_)
    · replace hw := hwt cc
      refine lv_aload_n hx hb dX6_part_29 rfl (lv_at hl 1 rfl) ?_
      refine va_get (D := D) (ci := 6) (v := .ref q_mt) (C := RX6) (T := TX6) (N := 12) hx hb hts i_X6_part_X6 hown hZ.1 hP 0 rfl rfl 1 (by decide) (hts _ m_X6_part_f13) (fun _ h9 => h9) rfl dX6_part_30 ?_
      refine lv_iconst (v := nI 4) hx hb dX6_part_33 (by decide +kernel) ?_
      refine lv_iload_n hx hb dX6_part_34 rfl (lv_at hl 2 rfl) ?_
      refine z_imul hx hb rfl dX6_part_35 ?_
      refine lv_iload_n hx hb dX6_part_36 rfl (lv_at hl 3 rfl) ?_
      refine z_iadd hx hb rfl dX6_part_37 ?_
      refine lv_bipush (v := (-6)) hx hb dX6_part_38 (by decide +kernel) ?_
      obtain ⟨zk7, ezk7, hw⟩ := hw
      refine z_st (st' := [.int (-6), .int (nI zk7), .ref q_mt]) (by rw [ezk7]) ?_
      obtain ⟨zh8, hw⟩ := hw
      refine z_iast hx hb hZ.1 hP hD hS 1 0 rfl rfl zh8 (by decide) (g := upd (aT t) zk7 (-6)) rfl dX6_part_40 (fun H locs hP hD hS => ?_)
      have hP : va_P D vwCl [(q_md, .inr (6, [.int (nI n), .ref q_mt, .ref q_mb, .ref q_ml, .ref q_mr, .int (nI a0), .int (nI y0), .ref q_lo, .ref q_dp, .int (nI cl), .ref q_sh, .ref q_fd])), (q_mt, .inl (cI, 32, .inl (upd (aT t) zk7 (-6)))), (q_mb, .inl (cZ, 32, .inl (aB w))), (q_ml, .inl (cI, 2, .inl (aN (lnF L L2)))), (q_mr, .inl (cI, 80, .inl (aN (rwF r r2)))), (q_lo, .inl (cI, 8, .inl (lo))), (q_dp, .inl (cI, 8, .inl (dp))), (q_sh, .inl (cI, 5, .inl (aN sh))), (q_fd, .inl (cI, 5, .inl (aN fd)))] H := hP
      have hD : va_D A [(q_md, .inr (6, [.int (nI n), .ref q_mt, .ref q_mb, .ref q_ml, .ref q_mr, .int (nI a0), .int (nI y0), .ref q_lo, .ref q_dp, .int (nI cl), .ref q_sh, .ref q_fd])), (q_mt, .inl (cI, 32, .inl (upd (aT t) zk7 (-6)))), (q_mb, .inl (cZ, 32, .inl (aB w))), (q_ml, .inl (cI, 2, .inl (aN (lnF L L2)))), (q_mr, .inl (cI, 80, .inl (aN (rwF r r2)))), (q_lo, .inl (cI, 8, .inl (lo))), (q_dp, .inl (cI, 8, .inl (dp))), (q_sh, .inl (cI, 5, .inl (aN sh))), (q_fd, .inl (cI, 5, .inl (aN fd)))] := hD
      refine lv_aload_n hx hb dX6_part_41 rfl (lv_at hl 1 rfl) ?_
      refine va_get (D := D) (ci := 6) (v := .ref q_mt) (C := RX6) (T := TX6) (N := 12) hx hb hts i_X6_part_X6 hown hZ.1 hP 0 rfl rfl 1 (by decide) (hts _ m_X6_part_f13) (fun _ h9 => h9) rfl dX6_part_42 ?_
      refine lv_iload_n hx hb dX6_part_45 rfl (lv_at hl 0 rfl) ?_
      refine lv_bipush (v := (-6)) hx hb dX6_part_46 (by decide +kernel) ?_
      obtain ⟨zk9, ezk9, hw⟩ := hw
      refine z_st (st' := [.int (-6), .int (nI zk9), .ref q_mt]) (by rw [ezk9]) ?_
      obtain ⟨zh10, hw⟩ := hw
      refine z_iast hx hb hZ.1 hP hD hS 1 0 rfl rfl zh10 (by decide) (g := upd (upd (aT t) zk7 (-6)) zk9 (-6)) rfl dX6_part_48 (fun H locs hP hD hS => ?_)
      have hP : va_P D vwCl [(q_md, .inr (6, [.int (nI n), .ref q_mt, .ref q_mb, .ref q_ml, .ref q_mr, .int (nI a0), .int (nI y0), .ref q_lo, .ref q_dp, .int (nI cl), .ref q_sh, .ref q_fd])), (q_mt, .inl (cI, 32, .inl (upd (upd (aT t) zk7 (-6)) zk9 (-6)))), (q_mb, .inl (cZ, 32, .inl (aB w))), (q_ml, .inl (cI, 2, .inl (aN (lnF L L2)))), (q_mr, .inl (cI, 80, .inl (aN (rwF r r2)))), (q_lo, .inl (cI, 8, .inl (lo))), (q_dp, .inl (cI, 8, .inl (dp))), (q_sh, .inl (cI, 5, .inl (aN sh))), (q_fd, .inl (cI, 5, .inl (aN fd)))] H := hP
      have hD : va_D A [(q_md, .inr (6, [.int (nI n), .ref q_mt, .ref q_mb, .ref q_ml, .ref q_mr, .int (nI a0), .int (nI y0), .ref q_lo, .ref q_dp, .int (nI cl), .ref q_sh, .ref q_fd])), (q_mt, .inl (cI, 32, .inl (upd (upd (aT t) zk7 (-6)) zk9 (-6)))), (q_mb, .inl (cZ, 32, .inl (aB w))), (q_ml, .inl (cI, 2, .inl (aN (lnF L L2)))), (q_mr, .inl (cI, 80, .inl (aN (rwF r r2)))), (q_lo, .inl (cI, 8, .inl (lo))), (q_dp, .inl (cI, 8, .inl (dp))), (q_sh, .inl (cI, 5, .inl (aN sh))), (q_fd, .inl (cI, 5, .inl (aN fd)))] := hD
      refine lv_iload_n hx hb dX6_part_49 rfl (lv_at hl 0 rfl) ?_
      obtain ⟨zk11, ezk11, hw⟩ := hw
      refine z_st (st' := [.int (nI zk11)]) (by rw [ezk11]) ?_
      obtain ⟨zh12, hw⟩ := hw
      have hPc : va_P D vwCl [] H := hP.sub [] rfl
      refine z_ro (va_runS (As := [.int (nI zk11)]) (rest := []) ⟨hx, hb, hml, hown, hts⟩ (k_X6_named zk11 zh12) (va_cwS 1 hts gX6_part_X6_named rfl rfl rfl (by decide +kernel) ⟨Nat.le_of_ble_eq_true rfl, Nat.le_of_ble_eq_true rfl⟩) (zPr_S hZ hPc) rfl rfl hl.1 rfl (lv_room (Nat.le_of_ble_eq_true rfl)) dX6_part_50 ⟨Nat.zero_le _, Nat.zero_le _⟩) (fun zr13 hzr13 => ?_)
      have ez := hzr13
      rw [ez]
      clear ez hzr13
      obtain ⟨er, ec_mt⟩ := hw
      have hP9 : va_P D vwCl [(q_md, .inr (6, [.int (nI n), .ref q_mt, .ref q_mb, .ref q_ml, .ref q_mr, .int (nI a0), .int (nI y0), .ref q_lo, .ref q_dp, .int (nI cl), .ref q_sh, .ref q_fd])), (q_mt, .inl (cI, 32, .inl (upd (upd (aT t) zk7 (-6)) zk9 (-6)))), (q_mb, .inl (cZ, 32, .inl (aB w))), (q_ml, .inl (cI, 2, .inl (aN (lnF L L2)))), (q_mr, .inl (cI, 80, .inl (aN (rwF r r2)))), (q_lo, .inl (cI, 8, .inl (lo))), (q_dp, .inl (cI, 8, .inl (dp))), (q_sh, .inl (cI, 5, .inl (aN sh))), (q_fd, .inl (cI, 5, .inl (aN fd)))] H := hP.sub [0, 1, 2, 3, 4, 5, 6, 7, 8] rfl
      have hD9 : va_D A [(q_md, .inr (6, [.int (nI n), .ref q_mt, .ref q_mb, .ref q_ml, .ref q_mr, .int (nI a0), .int (nI y0), .ref q_lo, .ref q_dp, .int (nI cl), .ref q_sh, .ref q_fd])), (q_mt, .inl (cI, 32, .inl (upd (upd (aT t) zk7 (-6)) zk9 (-6)))), (q_mb, .inl (cZ, 32, .inl (aB w))), (q_ml, .inl (cI, 2, .inl (aN (lnF L L2)))), (q_mr, .inl (cI, 80, .inl (aN (rwF r r2)))), (q_lo, .inl (cI, 8, .inl (lo))), (q_dp, .inl (cI, 8, .inl (dp))), (q_sh, .inl (cI, 5, .inl (aN sh))), (q_fd, .inl (cI, 5, .inl (aN fd)))] := hD.sub [0, 1, 2, 3, 4, 5, 6, 7, 8] (by decide) rfl
      have hP9 : va_P D vwCl [(q_md, .inr (6, [.int (nI n), .ref q_mt, .ref q_mb, .ref q_ml, .ref q_mr, .int (nI a0), .int (nI y0), .ref q_lo, .ref q_dp, .int (nI cl), .ref q_sh, .ref q_fd])), (q_mt, .inl (cI, 32, .inl (aT (paT n t p d)))), (q_mb, .inl (cZ, 32, .inl (aB w))), (q_ml, .inl (cI, 2, .inl (aN (lnF L L2)))), (q_mr, .inl (cI, 80, .inl (aN (rwF r r2)))), (q_lo, .inl (cI, 8, .inl (lo))), (q_dp, .inl (cI, 8, .inl (dp))), (q_sh, .inl (cI, 5, .inl (aN sh))), (q_fd, .inl (cI, 5, .inl (aN fd)))] H := z_arr hP9 1 rfl ec_mt
      have hD9 : va_D A [(q_md, .inr (6, [.int (nI n), .ref q_mt, .ref q_mb, .ref q_ml, .ref q_mr, .int (nI a0), .int (nI y0), .ref q_lo, .ref q_dp, .int (nI cl), .ref q_sh, .ref q_fd])), (q_mt, .inl (cI, 32, .inl (aT (paT n t p d)))), (q_mb, .inl (cZ, 32, .inl (aB w))), (q_ml, .inl (cI, 2, .inl (aN (lnF L L2)))), (q_mr, .inl (cI, 80, .inl (aN (rwF r r2)))), (q_lo, .inl (cI, 8, .inl (lo))), (q_dp, .inl (cI, 8, .inl (dp))), (q_sh, .inl (cI, 5, .inl (aN sh))), (q_fd, .inl (cI, 5, .inl (aN fd)))] := hD9.set (p := 1) (e := .inl (cI, 32, .inl (aT (paT n t p d)))) rfl
      exact W.iret (v := nI (10 * (zk11 / 4) + zk11 % 4)) hx hb hr (fun t ht hW => ⟨⟨_, (), rfl, er, by rw [ht]; exact hP9, hD9⟩, hS.F ht⟩) hS.2.2 dX6_part_53
    · replace hw := hwf cc
      refine lv_bipush (v := (-6)) hx hb dX6_part_26 (by decide +kernel) ?_
      obtain ⟨er, ec_mt⟩ := hw
      have hP9 : va_P D vwCl [(q_md, .inr (6, [.int (nI n), .ref q_mt, .ref q_mb, .ref q_ml, .ref q_mr, .int (nI a0), .int (nI y0), .ref q_lo, .ref q_dp, .int (nI cl), .ref q_sh, .ref q_fd])), (q_mt, .inl (cI, 32, .inl (aT t))), (q_mb, .inl (cZ, 32, .inl (aB w))), (q_ml, .inl (cI, 2, .inl (aN (lnF L L2)))), (q_mr, .inl (cI, 80, .inl (aN (rwF r r2)))), (q_lo, .inl (cI, 8, .inl (lo))), (q_dp, .inl (cI, 8, .inl (dp))), (q_sh, .inl (cI, 5, .inl (aN sh))), (q_fd, .inl (cI, 5, .inl (aN fd)))] zs.heap := hP.sub [0, 1, 2, 3, 4, 5, 6, 7, 8] rfl
      have hD9 : va_D A [(q_md, .inr (6, [.int (nI n), .ref q_mt, .ref q_mb, .ref q_ml, .ref q_mr, .int (nI a0), .int (nI y0), .ref q_lo, .ref q_dp, .int (nI cl), .ref q_sh, .ref q_fd])), (q_mt, .inl (cI, 32, .inl (aT t))), (q_mb, .inl (cZ, 32, .inl (aB w))), (q_ml, .inl (cI, 2, .inl (aN (lnF L L2)))), (q_mr, .inl (cI, 80, .inl (aN (rwF r r2)))), (q_lo, .inl (cI, 8, .inl (lo))), (q_dp, .inl (cI, 8, .inl (dp))), (q_sh, .inl (cI, 5, .inl (aN sh))), (q_fd, .inl (cI, 5, .inl (aN fd)))] := hD.sub [0, 1, 2, 3, 4, 5, 6, 7, 8] (by decide) rfl
      have hP9 : va_P D vwCl [(q_md, .inr (6, [.int (nI n), .ref q_mt, .ref q_mb, .ref q_ml, .ref q_mr, .int (nI a0), .int (nI y0), .ref q_lo, .ref q_dp, .int (nI cl), .ref q_sh, .ref q_fd])), (q_mt, .inl (cI, 32, .inl (aT (paT n t p d)))), (q_mb, .inl (cZ, 32, .inl (aB w))), (q_ml, .inl (cI, 2, .inl (aN (lnF L L2)))), (q_mr, .inl (cI, 80, .inl (aN (rwF r r2)))), (q_lo, .inl (cI, 8, .inl (lo))), (q_dp, .inl (cI, 8, .inl (dp))), (q_sh, .inl (cI, 5, .inl (aN sh))), (q_fd, .inl (cI, 5, .inl (aN fd)))] zs.heap := z_arr hP9 1 rfl ec_mt
      have hD9 : va_D A [(q_md, .inr (6, [.int (nI n), .ref q_mt, .ref q_mb, .ref q_ml, .ref q_mr, .int (nI a0), .int (nI y0), .ref q_lo, .ref q_dp, .int (nI cl), .ref q_sh, .ref q_fd])), (q_mt, .inl (cI, 32, .inl (aT (paT n t p d)))), (q_mb, .inl (cZ, 32, .inl (aB w))), (q_ml, .inl (cI, 2, .inl (aN (lnF L L2)))), (q_mr, .inl (cI, 80, .inl (aN (rwF r r2)))), (q_lo, .inl (cI, 8, .inl (lo))), (q_dp, .inl (cI, 8, .inl (dp))), (q_sh, .inl (cI, 5, .inl (aN sh))), (q_fd, .inl (cI, 5, .inl (aN fd)))] := hD9.set (p := 1) (e := .inl (cI, 32, .inl (aT (paT n t p d)))) rfl
      exact W.iret (v := (-6)) hx hb hr (fun t ht hW => ⟨⟨_, (), rfl, er, by rw [ht]; exact hP9, hD9⟩, hS.F ht⟩) hS.2.2 dX6_part_28
  · replace hw := hwf cc
    refine lv_iconst (v := (-1)) hx hb dX6_part_9 (by decide +kernel) ?_
    obtain ⟨er, ec_mt⟩ := hw
    have hP9 : va_P D vwCl [(q_md, .inr (6, [.int (nI n), .ref q_mt, .ref q_mb, .ref q_ml, .ref q_mr, .int (nI a0), .int (nI y0), .ref q_lo, .ref q_dp, .int (nI cl), .ref q_sh, .ref q_fd])), (q_mt, .inl (cI, 32, .inl (aT t))), (q_mb, .inl (cZ, 32, .inl (aB w))), (q_ml, .inl (cI, 2, .inl (aN (lnF L L2)))), (q_mr, .inl (cI, 80, .inl (aN (rwF r r2)))), (q_lo, .inl (cI, 8, .inl (lo))), (q_dp, .inl (cI, 8, .inl (dp))), (q_sh, .inl (cI, 5, .inl (aN sh))), (q_fd, .inl (cI, 5, .inl (aN fd)))] zs.heap := hP.sub [0, 1, 2, 3, 4, 5, 6, 7, 8] rfl
    have hD9 : va_D A [(q_md, .inr (6, [.int (nI n), .ref q_mt, .ref q_mb, .ref q_ml, .ref q_mr, .int (nI a0), .int (nI y0), .ref q_lo, .ref q_dp, .int (nI cl), .ref q_sh, .ref q_fd])), (q_mt, .inl (cI, 32, .inl (aT t))), (q_mb, .inl (cZ, 32, .inl (aB w))), (q_ml, .inl (cI, 2, .inl (aN (lnF L L2)))), (q_mr, .inl (cI, 80, .inl (aN (rwF r r2)))), (q_lo, .inl (cI, 8, .inl (lo))), (q_dp, .inl (cI, 8, .inl (dp))), (q_sh, .inl (cI, 5, .inl (aN sh))), (q_fd, .inl (cI, 5, .inl (aN fd)))] := hD.sub [0, 1, 2, 3, 4, 5, 6, 7, 8] (by decide) rfl
    have hP9 : va_P D vwCl [(q_md, .inr (6, [.int (nI n), .ref q_mt, .ref q_mb, .ref q_ml, .ref q_mr, .int (nI a0), .int (nI y0), .ref q_lo, .ref q_dp, .int (nI cl), .ref q_sh, .ref q_fd])), (q_mt, .inl (cI, 32, .inl (aT (paT n t p d)))), (q_mb, .inl (cZ, 32, .inl (aB w))), (q_ml, .inl (cI, 2, .inl (aN (lnF L L2)))), (q_mr, .inl (cI, 80, .inl (aN (rwF r r2)))), (q_lo, .inl (cI, 8, .inl (lo))), (q_dp, .inl (cI, 8, .inl (dp))), (q_sh, .inl (cI, 5, .inl (aN sh))), (q_fd, .inl (cI, 5, .inl (aN fd)))] zs.heap := z_arr hP9 1 rfl ec_mt
    have hD9 : va_D A [(q_md, .inr (6, [.int (nI n), .ref q_mt, .ref q_mb, .ref q_ml, .ref q_mr, .int (nI a0), .int (nI y0), .ref q_lo, .ref q_dp, .int (nI cl), .ref q_sh, .ref q_fd])), (q_mt, .inl (cI, 32, .inl (aT (paT n t p d)))), (q_mb, .inl (cZ, 32, .inl (aB w))), (q_ml, .inl (cI, 2, .inl (aN (lnF L L2)))), (q_mr, .inl (cI, 80, .inl (aN (rwF r r2)))), (q_lo, .inl (cI, 8, .inl (lo))), (q_dp, .inl (cI, 8, .inl (dp))), (q_sh, .inl (cI, 5, .inl (aN sh))), (q_fd, .inl (cI, 5, .inl (aN fd)))] := hD9.set (p := 1) (e := .inl (cI, 32, .inl (aT (paT n t p d)))) rfl
    exact W.iret (v := (-1)) hx hb hr (fun t ht hW => ⟨⟨_, (), rfl, er, by rw [ht]; exact hP9, hD9⟩, hS.F ht⟩) hS.2.2 dX6_part_10
theorem m_X6_bad_f17 : Cond.fieldLink RX6 17 "NetWalkersModel" "isBad" "[Z" ∈ wsX6_bad := by decide +kernel
theorem i_X6_bad_X6 : ∀ w ∈ wsX60, w ∈ wsX6_bad := by decide +kernel
set_option maxRecDepth 100000 in
set_option maxHeartbeats 4000000 in
theorem w_X6_bad {l : Launch} {D : va_G} {cI cZ : ClassId} (k_X6_isDoor : K_X6_isDoor l D cI cZ) (vv : V_X6_bad) : K_X6_bad l D cI cZ := by
  intro q_md q_mt q_mb q_ml q_mr q_lo q_dp q_sh q_fd sz n t w r L r2 L2 a0 y0 lo dp cl sh fd p d x hpre0
  have vw := vv n t w r L r2 L2 a0 y0 lo dp cl sh fd p d x hpre0
  refine Met.ofW (cc := cX6_bad) (maxL := 5) (ret := (some .int)) (by decide) rfl ?_
  intro zp ze zs zm zargs zbelow zmeth zc zs1 B hml hv
  obtain ⟨rfl, hsz, hZ, hP, hD0⟩ := hv
  have hx := B.exec
  have hb := B.bytes
  have hr := B.returns
  have hts := atoms_spec (ws := wsX6_bad) B.pre
  have hown : zs.vm.findClass RX6 = some zm.cls := findClass_of_methodNamed B.named
  have hlocks := B.notSynchronized
  subst hsz
  have hD := hD0.self (sz := zs.heap.size)
  generalize hAe : va_A [(q_md, .inr (6, [.int (nI n), .ref q_mt, .ref q_mb, .ref q_ml, .ref q_mr, .int (nI a0), .int (nI y0), .ref q_lo, .ref q_dp, .int (nI cl), .ref q_sh, .ref q_fd])), (q_mt, .inl (cI, 32, .inl (aT t))), (q_mb, .inl (cZ, 32, .inl (aB w))), (q_ml, .inl (cI, 2, .inl (aN (lnF L L2)))), (q_mr, .inl (cI, 80, .inl (aN (rwF r r2)))), (q_lo, .inl (cI, 8, .inl (lo))), (q_dp, .inl (cI, 8, .inl (dp))), (q_sh, .inl (cI, 5, .inl (aN sh))), (q_fd, .inl (cI, 5, .inl (aN fd)))] zs.heap.size = A at hD ⊢
  have hA : ∀ q : Nat, zs.heap.size ≤ q → A q := fun q h => by rw [← hAe]; exact Or.inr h
  have hS : va_S A zs.heap zs.heap [] := va_S.rf
  have hP : va_P D vwCl [(q_md, .inr (6, [.int (nI n), .ref q_mt, .ref q_mb, .ref q_ml, .ref q_mr, .int (nI a0), .int (nI y0), .ref q_lo, .ref q_dp, .int (nI cl), .ref q_sh, .ref q_fd])), (q_mt, .inl (cI, 32, .inl (aT t))), (q_mb, .inl (cZ, 32, .inl (aB w))), (q_ml, .inl (cI, 2, .inl (aN (lnF L L2)))), (q_mr, .inl (cI, 80, .inl (aN (rwF r r2)))), (q_lo, .inl (cI, 8, .inl (lo))), (q_dp, .inl (cI, 8, .inl (dp))), (q_sh, .inl (cI, 5, .inl (aN sh))), (q_fd, .inl (cI, 5, .inl (aN fd)))] zs.heap := hP
  have hl := lv_entry ([.ref q_md, .int p, .int d, .int (bI x)]) (n := 5) (Nat.le_of_ble_eq_true rfl)
  rw [lg_entry_eq]
  generalize (lg_sl ([.ref q_md, .int p, .int d, .int (bI x)]) ++ List.replicate (5 - (lg_sl ([.ref q_md, .int p, .int d, .int (bI x)])).length) Slot.unset).toArray = ls at hl ⊢
  have hl : lv_has ls 5 [(0, .ref q_md), (1, .int p), (2, .int d), (3, .int (bI x))] := hl
  have hw := vw
  unfold B_X6_bad_in at hw
  refine lv_aload_n hx hb dX6_bad_0 rfl (lv_at hl 0 rfl) ?_
  refine lv_iload_n hx hb dX6_bad_1 rfl (lv_at hl 1 rfl) ?_
  refine lv_iload_n hx hb dX6_bad_2 rfl (lv_at hl 2 rfl) ?_
  obtain ⟨zh1, hw⟩ := hw
  obtain ⟨zh2, hw⟩ := hw
  have hPc : va_P D vwCl [(q_md, .inr (6, [.int (nI n), .ref q_mt, .ref q_mb, .ref q_ml, .ref q_mr, .int (nI a0), .int (nI y0), .ref q_lo, .ref q_dp, .int (nI cl), .ref q_sh, .ref q_fd])), (q_mt, .inl (cI, 32, .inl (aT t))), (q_mb, .inl (cZ, 32, .inl (aB w))), (q_ml, .inl (cI, 2, .inl (aN (lnF L L2)))), (q_mr, .inl (cI, 80, .inl (aN (rwF r r2)))), (q_lo, .inl (cI, 8, .inl (lo))), (q_dp, .inl (cI, 8, .inl (dp))), (q_sh, .inl (cI, 5, .inl (aN sh))), (q_fd, .inl (cI, 5, .inl (aN fd)))] zs.heap := hP.sub [0, 1, 2, 3, 4, 5, 6, 7, 8] rfl
  refine z_ro (va_runV (As := [.int p, .int d]) (rest := []) ⟨hx, hb, hml, hown, hts⟩ (k_X6_isDoor q_md q_mt q_mb q_ml q_mr q_lo q_dp q_sh q_fd n t w r L r2 L2 a0 y0 lo dp cl sh fd p d zh1 zh2) (cwV 2 hts gX6_bad_X6_isDoor rfl rfl rfl (by decide +kernel) ⟨Nat.le_of_ble_eq_true rfl, Nat.le_of_ble_eq_true rfl⟩) (zPr_V hZ hPc 0 rfl rfl) rfl rfl hl.1 rfl (lv_room (Nat.le_of_ble_eq_true rfl)) dX6_bad_3 ⟨Nat.zero_le _, Nat.zero_le _⟩) (fun zr3 hzr3 => ?_)
  have ez := hzr3
  rw [ez]
  clear ez hzr3
  obtain ⟨hwt, hwf⟩ := hw
  refine z_if_neb hx hb (tgt := 11) dX6_bad_6 (by decide) (fun cc => ?_) (fun cc => ?_)
  · replace hw := hwt cc
    refine lv_aload_n hx hb dX6_bad_11 rfl (lv_at hl 0 rfl) ?_
    refine va_get (D := D) (ci := 6) (v := .ref q_mb) (C := RX6) (T := TX6) (N := 12) hx hb hts i_X6_bad_X6 hown hZ.1 hP 0 rfl rfl 2 (by decide) (hts _ m_X6_bad_f17) (fun _ h9 => h9) rfl dX6_bad_12 ?_
    refine lv_iconst (v := nI 4) hx hb dX6_bad_15 (by decide +kernel) ?_
    refine lv_iload_n hx hb dX6_bad_16 rfl (lv_at hl 1 rfl) ?_
    refine z_imul hx hb rfl dX6_bad_17 ?_
    refine lv_iload_n hx hb dX6_bad_18 rfl (lv_at hl 2 rfl) ?_
    refine z_iadd hx hb rfl dX6_bad_19 ?_
    obtain ⟨zk4, ezk4, hw⟩ := hw
    refine z_st (st' := [.int (nI zk4), .ref q_mb]) (by rw [ezk4]) ?_
    obtain ⟨zh5, hw⟩ := hw
    refine z_zald hx hb hZ.1 hP 2 1 rfl rfl zh5 (by decide) (v := bI (w zk4)) rfl dX6_bad_20 ?_
    obtain ⟨hwt, hwf⟩ := hw
    refine z_if_eqb hx hb (tgt := 28) dX6_bad_21 (by decide) (fun cc => ?_) (fun cc => ?_)
    · replace hw := hwt cc
      refine lv_iconst (v := nI 0) hx hb dX6_bad_28 (by decide +kernel) ?_
      refine lv_istore (lv' := [(4, .int (nI 0)), (0, .ref q_md), (1, .int p), (2, .int d), (3, .int (bI x))]) hx hb dX6_bad_29 hl (by decide) rfl (fun ls hl => ?_)
      refine lv_aload_n hx hb dX6_bad_31 rfl (lv_at hl 1 rfl) ?_
      refine va_get (D := D) (ci := 6) (v := .ref q_mb) (C := RX6) (T := TX6) (N := 12) hx hb hts i_X6_bad_X6 hown hZ.1 hP 0 rfl rfl 2 (by decide) (hts _ m_X6_bad_f17) (fun _ h9 => h9) rfl dX6_bad_32 ?_
      refine lv_iconst (v := nI 4) hx hb dX6_bad_35 (by decide +kernel) ?_
      refine lv_iload_n hx hb dX6_bad_36 rfl (lv_at hl 2 rfl) ?_
      refine z_imul hx hb rfl dX6_bad_37 ?_
      refine lv_iload_n hx hb dX6_bad_38 rfl (lv_at hl 3 rfl) ?_
      refine z_iadd hx hb rfl dX6_bad_39 ?_
      refine lv_iload_n hx hb dX6_bad_40 rfl (lv_at hl 4 rfl) ?_
      obtain ⟨zk6, ezk6, hw⟩ := hw
      refine z_st (st' := [.int (bI x), .int (nI zk6), .ref q_mb]) (by rw [ezk6]) ?_
      obtain ⟨zh7, hw⟩ := hw
      refine z_zast hx hb hZ.1 hP hD hS 2 1 rfl rfl zh7 (by decide) (g := aB (upB w zk6 x)) (aB_up _ _ _) dX6_bad_41 (fun H locs hP hD hS => ?_)
      have hP : va_P D vwCl [(q_md, .inr (6, [.int (nI n), .ref q_mt, .ref q_mb, .ref q_ml, .ref q_mr, .int (nI a0), .int (nI y0), .ref q_lo, .ref q_dp, .int (nI cl), .ref q_sh, .ref q_fd])), (q_mt, .inl (cI, 32, .inl (aT t))), (q_mb, .inl (cZ, 32, .inl (aB (upB w zk6 x)))), (q_ml, .inl (cI, 2, .inl (aN (lnF L L2)))), (q_mr, .inl (cI, 80, .inl (aN (rwF r r2)))), (q_lo, .inl (cI, 8, .inl (lo))), (q_dp, .inl (cI, 8, .inl (dp))), (q_sh, .inl (cI, 5, .inl (aN sh))), (q_fd, .inl (cI, 5, .inl (aN fd)))] H := hP
      have hD : va_D A [(q_md, .inr (6, [.int (nI n), .ref q_mt, .ref q_mb, .ref q_ml, .ref q_mr, .int (nI a0), .int (nI y0), .ref q_lo, .ref q_dp, .int (nI cl), .ref q_sh, .ref q_fd])), (q_mt, .inl (cI, 32, .inl (aT t))), (q_mb, .inl (cZ, 32, .inl (aB (upB w zk6 x)))), (q_ml, .inl (cI, 2, .inl (aN (lnF L L2)))), (q_mr, .inl (cI, 80, .inl (aN (rwF r r2)))), (q_lo, .inl (cI, 8, .inl (lo))), (q_dp, .inl (cI, 8, .inl (dp))), (q_sh, .inl (cI, 5, .inl (aN sh))), (q_fd, .inl (cI, 5, .inl (aN fd)))] := hD
      refine lv_iload hx hb dX6_bad_42 (lv_at hl 0 rfl) ?_
      obtain ⟨er, ec_mb⟩ := hw
      have hP9 : va_P D vwCl [(q_md, .inr (6, [.int (nI n), .ref q_mt, .ref q_mb, .ref q_ml, .ref q_mr, .int (nI a0), .int (nI y0), .ref q_lo, .ref q_dp, .int (nI cl), .ref q_sh, .ref q_fd])), (q_mt, .inl (cI, 32, .inl (aT t))), (q_mb, .inl (cZ, 32, .inl (aB (upB w zk6 x)))), (q_ml, .inl (cI, 2, .inl (aN (lnF L L2)))), (q_mr, .inl (cI, 80, .inl (aN (rwF r r2)))), (q_lo, .inl (cI, 8, .inl (lo))), (q_dp, .inl (cI, 8, .inl (dp))), (q_sh, .inl (cI, 5, .inl (aN sh))), (q_fd, .inl (cI, 5, .inl (aN fd)))] H := hP.sub [0, 1, 2, 3, 4, 5, 6, 7, 8] rfl
      have hD9 : va_D A [(q_md, .inr (6, [.int (nI n), .ref q_mt, .ref q_mb, .ref q_ml, .ref q_mr, .int (nI a0), .int (nI y0), .ref q_lo, .ref q_dp, .int (nI cl), .ref q_sh, .ref q_fd])), (q_mt, .inl (cI, 32, .inl (aT t))), (q_mb, .inl (cZ, 32, .inl (aB (upB w zk6 x)))), (q_ml, .inl (cI, 2, .inl (aN (lnF L L2)))), (q_mr, .inl (cI, 80, .inl (aN (rwF r r2)))), (q_lo, .inl (cI, 8, .inl (lo))), (q_dp, .inl (cI, 8, .inl (dp))), (q_sh, .inl (cI, 5, .inl (aN sh))), (q_fd, .inl (cI, 5, .inl (aN fd)))] := hD.sub [0, 1, 2, 3, 4, 5, 6, 7, 8] (by decide) rfl
      have hP9 : va_P D vwCl [(q_md, .inr (6, [.int (nI n), .ref q_mt, .ref q_mb, .ref q_ml, .ref q_mr, .int (nI a0), .int (nI y0), .ref q_lo, .ref q_dp, .int (nI cl), .ref q_sh, .ref q_fd])), (q_mt, .inl (cI, 32, .inl (aT t))), (q_mb, .inl (cZ, 32, .inl (aB (baW n w p d x)))), (q_ml, .inl (cI, 2, .inl (aN (lnF L L2)))), (q_mr, .inl (cI, 80, .inl (aN (rwF r r2)))), (q_lo, .inl (cI, 8, .inl (lo))), (q_dp, .inl (cI, 8, .inl (dp))), (q_sh, .inl (cI, 5, .inl (aN sh))), (q_fd, .inl (cI, 5, .inl (aN fd)))] H := z_arr hP9 2 rfl (fun zi hi => congrArg bI (ec_mb zi hi))
      have hD9 : va_D A [(q_md, .inr (6, [.int (nI n), .ref q_mt, .ref q_mb, .ref q_ml, .ref q_mr, .int (nI a0), .int (nI y0), .ref q_lo, .ref q_dp, .int (nI cl), .ref q_sh, .ref q_fd])), (q_mt, .inl (cI, 32, .inl (aT t))), (q_mb, .inl (cZ, 32, .inl (aB (baW n w p d x)))), (q_ml, .inl (cI, 2, .inl (aN (lnF L L2)))), (q_mr, .inl (cI, 80, .inl (aN (rwF r r2)))), (q_lo, .inl (cI, 8, .inl (lo))), (q_dp, .inl (cI, 8, .inl (dp))), (q_sh, .inl (cI, 5, .inl (aN sh))), (q_fd, .inl (cI, 5, .inl (aN fd)))] := hD9.set (p := 2) (e := .inl (cZ, 32, .inl (aB (baW n w p d x)))) rfl
      exact W.iret (v := nI 0) hx hb hr (fun t ht hW => ⟨⟨_, (), rfl, er, by rw [ht]; exact hP9, hD9⟩, hS.F ht⟩) hS.2.2 dX6_bad_44
    · replace hw := hwf cc
      refine lv_iconst (v := nI 1) hx hb dX6_bad_24 (by decide +kernel) ?_
      refine lv_goto (tgt := 29) hx hb dX6_bad_25 (by decide) ?_
      refine lv_istore (lv' := [(4, .int (nI 1)), (0, .ref q_md), (1, .int p), (2, .int d), (3, .int (bI x))]) hx hb dX6_bad_29 hl (by decide) rfl (fun ls hl => ?_)
      refine lv_aload_n hx hb dX6_bad_31 rfl (lv_at hl 1 rfl) ?_
      refine va_get (D := D) (ci := 6) (v := .ref q_mb) (C := RX6) (T := TX6) (N := 12) hx hb hts i_X6_bad_X6 hown hZ.1 hP 0 rfl rfl 2 (by decide) (hts _ m_X6_bad_f17) (fun _ h9 => h9) rfl dX6_bad_32 ?_
      refine lv_iconst (v := nI 4) hx hb dX6_bad_35 (by decide +kernel) ?_
      refine lv_iload_n hx hb dX6_bad_36 rfl (lv_at hl 2 rfl) ?_
      refine z_imul hx hb rfl dX6_bad_37 ?_
      refine lv_iload_n hx hb dX6_bad_38 rfl (lv_at hl 3 rfl) ?_
      refine z_iadd hx hb rfl dX6_bad_39 ?_
      refine lv_iload_n hx hb dX6_bad_40 rfl (lv_at hl 4 rfl) ?_
      obtain ⟨zk8, ezk8, hw⟩ := hw
      refine z_st (st' := [.int (bI x), .int (nI zk8), .ref q_mb]) (by rw [ezk8]) ?_
      obtain ⟨zh9, hw⟩ := hw
      refine z_zast hx hb hZ.1 hP hD hS 2 1 rfl rfl zh9 (by decide) (g := aB (upB w zk8 x)) (aB_up _ _ _) dX6_bad_41 (fun H locs hP hD hS => ?_)
      have hP : va_P D vwCl [(q_md, .inr (6, [.int (nI n), .ref q_mt, .ref q_mb, .ref q_ml, .ref q_mr, .int (nI a0), .int (nI y0), .ref q_lo, .ref q_dp, .int (nI cl), .ref q_sh, .ref q_fd])), (q_mt, .inl (cI, 32, .inl (aT t))), (q_mb, .inl (cZ, 32, .inl (aB (upB w zk8 x)))), (q_ml, .inl (cI, 2, .inl (aN (lnF L L2)))), (q_mr, .inl (cI, 80, .inl (aN (rwF r r2)))), (q_lo, .inl (cI, 8, .inl (lo))), (q_dp, .inl (cI, 8, .inl (dp))), (q_sh, .inl (cI, 5, .inl (aN sh))), (q_fd, .inl (cI, 5, .inl (aN fd)))] H := hP
      have hD : va_D A [(q_md, .inr (6, [.int (nI n), .ref q_mt, .ref q_mb, .ref q_ml, .ref q_mr, .int (nI a0), .int (nI y0), .ref q_lo, .ref q_dp, .int (nI cl), .ref q_sh, .ref q_fd])), (q_mt, .inl (cI, 32, .inl (aT t))), (q_mb, .inl (cZ, 32, .inl (aB (upB w zk8 x)))), (q_ml, .inl (cI, 2, .inl (aN (lnF L L2)))), (q_mr, .inl (cI, 80, .inl (aN (rwF r r2)))), (q_lo, .inl (cI, 8, .inl (lo))), (q_dp, .inl (cI, 8, .inl (dp))), (q_sh, .inl (cI, 5, .inl (aN sh))), (q_fd, .inl (cI, 5, .inl (aN fd)))] := hD
      refine lv_iload hx hb dX6_bad_42 (lv_at hl 0 rfl) ?_
      obtain ⟨er, ec_mb⟩ := hw
      have hP9 : va_P D vwCl [(q_md, .inr (6, [.int (nI n), .ref q_mt, .ref q_mb, .ref q_ml, .ref q_mr, .int (nI a0), .int (nI y0), .ref q_lo, .ref q_dp, .int (nI cl), .ref q_sh, .ref q_fd])), (q_mt, .inl (cI, 32, .inl (aT t))), (q_mb, .inl (cZ, 32, .inl (aB (upB w zk8 x)))), (q_ml, .inl (cI, 2, .inl (aN (lnF L L2)))), (q_mr, .inl (cI, 80, .inl (aN (rwF r r2)))), (q_lo, .inl (cI, 8, .inl (lo))), (q_dp, .inl (cI, 8, .inl (dp))), (q_sh, .inl (cI, 5, .inl (aN sh))), (q_fd, .inl (cI, 5, .inl (aN fd)))] H := hP.sub [0, 1, 2, 3, 4, 5, 6, 7, 8] rfl
      have hD9 : va_D A [(q_md, .inr (6, [.int (nI n), .ref q_mt, .ref q_mb, .ref q_ml, .ref q_mr, .int (nI a0), .int (nI y0), .ref q_lo, .ref q_dp, .int (nI cl), .ref q_sh, .ref q_fd])), (q_mt, .inl (cI, 32, .inl (aT t))), (q_mb, .inl (cZ, 32, .inl (aB (upB w zk8 x)))), (q_ml, .inl (cI, 2, .inl (aN (lnF L L2)))), (q_mr, .inl (cI, 80, .inl (aN (rwF r r2)))), (q_lo, .inl (cI, 8, .inl (lo))), (q_dp, .inl (cI, 8, .inl (dp))), (q_sh, .inl (cI, 5, .inl (aN sh))), (q_fd, .inl (cI, 5, .inl (aN fd)))] := hD.sub [0, 1, 2, 3, 4, 5, 6, 7, 8] (by decide) rfl
      have hP9 : va_P D vwCl [(q_md, .inr (6, [.int (nI n), .ref q_mt, .ref q_mb, .ref q_ml, .ref q_mr, .int (nI a0), .int (nI y0), .ref q_lo, .ref q_dp, .int (nI cl), .ref q_sh, .ref q_fd])), (q_mt, .inl (cI, 32, .inl (aT t))), (q_mb, .inl (cZ, 32, .inl (aB (baW n w p d x)))), (q_ml, .inl (cI, 2, .inl (aN (lnF L L2)))), (q_mr, .inl (cI, 80, .inl (aN (rwF r r2)))), (q_lo, .inl (cI, 8, .inl (lo))), (q_dp, .inl (cI, 8, .inl (dp))), (q_sh, .inl (cI, 5, .inl (aN sh))), (q_fd, .inl (cI, 5, .inl (aN fd)))] H := z_arr hP9 2 rfl (fun zi hi => congrArg bI (ec_mb zi hi))
      have hD9 : va_D A [(q_md, .inr (6, [.int (nI n), .ref q_mt, .ref q_mb, .ref q_ml, .ref q_mr, .int (nI a0), .int (nI y0), .ref q_lo, .ref q_dp, .int (nI cl), .ref q_sh, .ref q_fd])), (q_mt, .inl (cI, 32, .inl (aT t))), (q_mb, .inl (cZ, 32, .inl (aB (baW n w p d x)))), (q_ml, .inl (cI, 2, .inl (aN (lnF L L2)))), (q_mr, .inl (cI, 80, .inl (aN (rwF r r2)))), (q_lo, .inl (cI, 8, .inl (lo))), (q_dp, .inl (cI, 8, .inl (dp))), (q_sh, .inl (cI, 5, .inl (aN sh))), (q_fd, .inl (cI, 5, .inl (aN fd)))] := hD9.set (p := 2) (e := .inl (cZ, 32, .inl (aB (baW n w p d x)))) rfl
      exact W.iret (v := nI 1) hx hb hr (fun t ht hW => ⟨⟨_, (), rfl, er, by rw [ht]; exact hP9, hD9⟩, hS.F ht⟩) hS.2.2 dX6_bad_44
  · replace hw := hwf cc
    refine lv_iconst (v := (-1)) hx hb dX6_bad_9 (by decide +kernel) ?_
    obtain ⟨er, ec_mb⟩ := hw
    have hP9 : va_P D vwCl [(q_md, .inr (6, [.int (nI n), .ref q_mt, .ref q_mb, .ref q_ml, .ref q_mr, .int (nI a0), .int (nI y0), .ref q_lo, .ref q_dp, .int (nI cl), .ref q_sh, .ref q_fd])), (q_mt, .inl (cI, 32, .inl (aT t))), (q_mb, .inl (cZ, 32, .inl (aB w))), (q_ml, .inl (cI, 2, .inl (aN (lnF L L2)))), (q_mr, .inl (cI, 80, .inl (aN (rwF r r2)))), (q_lo, .inl (cI, 8, .inl (lo))), (q_dp, .inl (cI, 8, .inl (dp))), (q_sh, .inl (cI, 5, .inl (aN sh))), (q_fd, .inl (cI, 5, .inl (aN fd)))] zs.heap := hP.sub [0, 1, 2, 3, 4, 5, 6, 7, 8] rfl
    have hD9 : va_D A [(q_md, .inr (6, [.int (nI n), .ref q_mt, .ref q_mb, .ref q_ml, .ref q_mr, .int (nI a0), .int (nI y0), .ref q_lo, .ref q_dp, .int (nI cl), .ref q_sh, .ref q_fd])), (q_mt, .inl (cI, 32, .inl (aT t))), (q_mb, .inl (cZ, 32, .inl (aB w))), (q_ml, .inl (cI, 2, .inl (aN (lnF L L2)))), (q_mr, .inl (cI, 80, .inl (aN (rwF r r2)))), (q_lo, .inl (cI, 8, .inl (lo))), (q_dp, .inl (cI, 8, .inl (dp))), (q_sh, .inl (cI, 5, .inl (aN sh))), (q_fd, .inl (cI, 5, .inl (aN fd)))] := hD.sub [0, 1, 2, 3, 4, 5, 6, 7, 8] (by decide) rfl
    have hP9 : va_P D vwCl [(q_md, .inr (6, [.int (nI n), .ref q_mt, .ref q_mb, .ref q_ml, .ref q_mr, .int (nI a0), .int (nI y0), .ref q_lo, .ref q_dp, .int (nI cl), .ref q_sh, .ref q_fd])), (q_mt, .inl (cI, 32, .inl (aT t))), (q_mb, .inl (cZ, 32, .inl (aB (baW n w p d x)))), (q_ml, .inl (cI, 2, .inl (aN (lnF L L2)))), (q_mr, .inl (cI, 80, .inl (aN (rwF r r2)))), (q_lo, .inl (cI, 8, .inl (lo))), (q_dp, .inl (cI, 8, .inl (dp))), (q_sh, .inl (cI, 5, .inl (aN sh))), (q_fd, .inl (cI, 5, .inl (aN fd)))] zs.heap := z_arr hP9 2 rfl (fun zi hi => congrArg bI (ec_mb zi hi))
    have hD9 : va_D A [(q_md, .inr (6, [.int (nI n), .ref q_mt, .ref q_mb, .ref q_ml, .ref q_mr, .int (nI a0), .int (nI y0), .ref q_lo, .ref q_dp, .int (nI cl), .ref q_sh, .ref q_fd])), (q_mt, .inl (cI, 32, .inl (aT t))), (q_mb, .inl (cZ, 32, .inl (aB (baW n w p d x)))), (q_ml, .inl (cI, 2, .inl (aN (lnF L L2)))), (q_mr, .inl (cI, 80, .inl (aN (rwF r r2)))), (q_lo, .inl (cI, 8, .inl (lo))), (q_dp, .inl (cI, 8, .inl (dp))), (q_sh, .inl (cI, 5, .inl (aN sh))), (q_fd, .inl (cI, 5, .inl (aN fd)))] := hD9.set (p := 2) (e := .inl (cZ, 32, .inl (aB (baW n w p d x)))) rfl
    exact W.iret (v := (-1)) hx hb hr (fun t ht hW => ⟨⟨_, (), rfl, er, by rw [ht]; exact hP9, hD9⟩, hS.F ht⟩) hS.2.2 dX6_bad_10
theorem m_X6_leads_f13 : Cond.fieldLink RX6 13 "NetWalkersModel" "to" "[I" ∈ wsX6_leads := by decide +kernel
theorem i_X6_leads_X6 : ∀ w ∈ wsX60, w ∈ wsX6_leads := by decide +kernel
theorem m_X6_leads_f17 : Cond.fieldLink RX6 17 "NetWalkersModel" "isBad" "[Z" ∈ wsX6_leads := by decide +kernel
set_option maxRecDepth 100000 in
set_option maxHeartbeats 4000000 in
theorem w_X6_leads {l : Launch} {D : va_G} {cI cZ : ClassId} (k_X6_isDoor : K_X6_isDoor l D cI cZ) (k_X6_named : K_X6_named l D cI cZ) (vv : V_X6_leads) : K_X6_leads l D cI cZ := by
  intro q_md q_mt q_mb q_ml q_mr q_lo q_dp q_sh q_fd n t w r L r2 L2 a0 y0 lo dp cl sh fd p d hpre0
  have vw := vv n t w r L r2 L2 a0 y0 lo dp cl sh fd p d hpre0
  refine Met.ofW (cc := cX6_leads) (maxL := 4) (ret := (some .int)) (by decide) rfl ?_
  intro zp ze zs zm zargs zbelow zmeth zc zs1 B hml hv
  obtain ⟨rfl, hZ, hP⟩ := hv
  have hx := B.exec
  have hb := B.bytes
  have hr := B.returns
  have hts := atoms_spec (ws := wsX6_leads) B.pre
  have hown : zs.vm.findClass RX6 = some zm.cls := findClass_of_methodNamed B.named
  have hlocks := B.notSynchronized
  have hP : va_P D vwCl [(q_md, .inr (6, [.int (nI n), .ref q_mt, .ref q_mb, .ref q_ml, .ref q_mr, .int (nI a0), .int (nI y0), .ref q_lo, .ref q_dp, .int (nI cl), .ref q_sh, .ref q_fd])), (q_mt, .inl (cI, 32, .inl (aT t))), (q_mb, .inl (cZ, 32, .inl (aB w))), (q_ml, .inl (cI, 2, .inl (aN (lnF L L2)))), (q_mr, .inl (cI, 80, .inl (aN (rwF r r2)))), (q_lo, .inl (cI, 8, .inl (lo))), (q_dp, .inl (cI, 8, .inl (dp))), (q_sh, .inl (cI, 5, .inl (aN sh))), (q_fd, .inl (cI, 5, .inl (aN fd)))] zs.heap := hP
  have hl := lv_entry ([.ref q_md, .int p, .int d]) (n := 4) (Nat.le_of_ble_eq_true rfl)
  rw [lg_entry_eq]
  generalize (lg_sl ([.ref q_md, .int p, .int d]) ++ List.replicate (4 - (lg_sl ([.ref q_md, .int p, .int d])).length) Slot.unset).toArray = ls at hl ⊢
  have hl : lv_has ls 4 [(0, .ref q_md), (1, .int p), (2, .int d)] := hl
  have hw := vw
  unfold B_X6_leads_in at hw
  refine lv_aload_n hx hb dX6_leads_0 rfl (lv_at hl 0 rfl) ?_
  refine lv_iload_n hx hb dX6_leads_1 rfl (lv_at hl 1 rfl) ?_
  refine lv_iload_n hx hb dX6_leads_2 rfl (lv_at hl 2 rfl) ?_
  obtain ⟨zh1, hw⟩ := hw
  obtain ⟨zh2, hw⟩ := hw
  have hPc : va_P D vwCl [(q_md, .inr (6, [.int (nI n), .ref q_mt, .ref q_mb, .ref q_ml, .ref q_mr, .int (nI a0), .int (nI y0), .ref q_lo, .ref q_dp, .int (nI cl), .ref q_sh, .ref q_fd])), (q_mt, .inl (cI, 32, .inl (aT t))), (q_mb, .inl (cZ, 32, .inl (aB w))), (q_ml, .inl (cI, 2, .inl (aN (lnF L L2)))), (q_mr, .inl (cI, 80, .inl (aN (rwF r r2)))), (q_lo, .inl (cI, 8, .inl (lo))), (q_dp, .inl (cI, 8, .inl (dp))), (q_sh, .inl (cI, 5, .inl (aN sh))), (q_fd, .inl (cI, 5, .inl (aN fd)))] zs.heap := hP.sub [0, 1, 2, 3, 4, 5, 6, 7, 8] rfl
  refine z_ro (va_runV (As := [.int p, .int d]) (rest := []) ⟨hx, hb, hml, hown, hts⟩ (k_X6_isDoor q_md q_mt q_mb q_ml q_mr q_lo q_dp q_sh q_fd n t w r L r2 L2 a0 y0 lo dp cl sh fd p d zh1 zh2) (cwV 2 hts gX6_leads_X6_isDoor rfl rfl rfl (by decide +kernel) ⟨Nat.le_of_ble_eq_true rfl, Nat.le_of_ble_eq_true rfl⟩) (zPr_V hZ hPc 0 rfl rfl) rfl rfl hl.1 rfl (lv_room (Nat.le_of_ble_eq_true rfl)) dX6_leads_3 ⟨Nat.zero_le _, Nat.zero_le _⟩) (fun zr3 hzr3 => ?_)
  have ez := hzr3
  rw [ez]
  clear ez hzr3
  obtain ⟨hwt, hwf⟩ := hw
  refine z_if_neb hx hb (tgt := 11) dX6_leads_6 (by decide) (fun cc => ?_) (fun cc => ?_)
  · replace hw := hwt cc
    refine lv_iconst (v := nI 4) hx hb dX6_leads_11 (by decide +kernel) ?_
    refine lv_iload_n hx hb dX6_leads_12 rfl (lv_at hl 1 rfl) ?_
    refine z_imul hx hb rfl dX6_leads_13 ?_
    refine lv_iload_n hx hb dX6_leads_14 rfl (lv_at hl 2 rfl) ?_
    refine z_iadd hx hb rfl dX6_leads_15 ?_
    obtain ⟨zx4, ezx4⟩ : ∃ zx4 : Int32, zx4 = ((nI 4) * p) + d := ⟨_, rfl⟩
    replace hw := hw zx4 ezx4
    refine z_st (st' := [.int zx4]) (by rw [ezx4]) ?_
    refine lv_istore_n (lv' := [(3, .int zx4), (0, .ref q_md), (1, .int p), (2, .int d)]) hx hb dX6_leads_16 rfl hl (by decide) rfl (fun ls hl => ?_)
    refine lv_aload_n hx hb dX6_leads_17 rfl (lv_at hl 1 rfl) ?_
    refine va_get (D := D) (ci := 6) (v := .ref q_mt) (C := RX6) (T := TX6) (N := 12) hx hb hts i_X6_leads_X6 hown hZ.1 hP 0 rfl rfl 1 (by decide) (hts _ m_X6_leads_f13) (fun _ h9 => h9) rfl dX6_leads_18 ?_
    refine lv_iload_n hx hb dX6_leads_21 rfl (lv_at hl 0 rfl) ?_
    obtain ⟨zk5, ezk5, hw⟩ := hw
    refine z_st (st' := [.int (nI zk5), .ref q_mt]) (by rw [ezk5]) ?_
    obtain ⟨zh6, hw⟩ := hw
    refine z_iald hx hb hZ.1 hP 1 0 rfl rfl zh6 (by decide) (v := aT t zk5) rfl dX6_leads_22 ?_
    obtain ⟨hwt, hwf⟩ := hw
    refine lv_if_ge hx hb (tgt := 31) dX6_leads_23 (by decide) (fun cc => ?_) (fun cc => ?_)
    · replace hw := hwt cc
      refine lv_aload_n hx hb dX6_leads_31 rfl (lv_at hl 1 rfl) ?_
      refine va_get (D := D) (ci := 6) (v := .ref q_mb) (C := RX6) (T := TX6) (N := 12) hx hb hts i_X6_leads_X6 hown hZ.1 hP 0 rfl rfl 2 (by decide) (hts _ m_X6_leads_f17) (fun _ h9 => h9) rfl dX6_leads_32 ?_
      refine lv_iload_n hx hb dX6_leads_35 rfl (lv_at hl 0 rfl) ?_
      obtain ⟨zk7, ezk7, hw⟩ := hw
      refine z_st (st' := [.int (nI zk7), .ref q_mb]) (by rw [ezk7]) ?_
      obtain ⟨zh8, hw⟩ := hw
      refine z_zald hx hb hZ.1 hP 2 1 rfl rfl zh8 (by decide) (v := bI (w zk7)) rfl dX6_leads_36 ?_
      obtain ⟨hwt, hwf⟩ := hw
      refine z_if_eqb hx hb (tgt := 44) dX6_leads_37 (by decide) (fun cc => ?_) (fun cc => ?_)
      · replace hw := hwt cc
        refine lv_aload_n hx hb dX6_leads_44 rfl (lv_at hl 1 rfl) ?_
        refine va_get (D := D) (ci := 6) (v := .ref q_mt) (C := RX6) (T := TX6) (N := 12) hx hb hts i_X6_leads_X6 hown hZ.1 hP 0 rfl rfl 1 (by decide) (hts _ m_X6_leads_f13) (fun _ h9 => h9) rfl dX6_leads_45 ?_
        refine lv_iload_n hx hb dX6_leads_48 rfl (lv_at hl 0 rfl) ?_
        obtain ⟨zk9, ezk9, hw⟩ := hw
        refine z_st (st' := [.int (nI zk9), .ref q_mt]) (by rw [ezk9]) ?_
        obtain ⟨zh10, hw⟩ := hw
        refine z_iald hx hb hZ.1 hP 1 0 rfl rfl zh10 (by decide) (v := aT t zk9) rfl dX6_leads_49 ?_
        obtain ⟨zk11, ezk11, hw⟩ := hw
        refine z_st (st' := [.int (nI zk11)]) (by rw [ezk11]) ?_
        obtain ⟨zh12, hw⟩ := hw
        have hPc : va_P D vwCl [] zs.heap := hP.sub [] rfl
        refine z_ro (va_runS (As := [.int (nI zk11)]) (rest := []) ⟨hx, hb, hml, hown, hts⟩ (k_X6_named zk11 zh12) (va_cwS 1 hts gX6_leads_X6_named rfl rfl rfl (by decide +kernel) ⟨Nat.le_of_ble_eq_true rfl, Nat.le_of_ble_eq_true rfl⟩) (zPr_S hZ hPc) rfl rfl hl.1 rfl (lv_room (Nat.le_of_ble_eq_true rfl)) dX6_leads_50 ⟨Nat.zero_le _, Nat.zero_le _⟩) (fun zr13 hzr13 => ?_)
        have ez := hzr13
        rw [ez]
        clear ez hzr13
        have er := hw
        exact W.iret (v := nI (10 * (zk11 / 4) + zk11 % 4)) hx hb hr (fun t ht hW => ⟨_, rfl, er, ht⟩) (fun _ h => by cases h) dX6_leads_53
      · replace hw := hwf cc
        refine lv_iload_n hx hb dX6_leads_40 rfl (lv_at hl 0 rfl) ?_
        refine lv_goto (tgt := 50) hx hb dX6_leads_41 (by decide) ?_
        obtain ⟨zk14, ezk14, hw⟩ := hw
        refine z_st (st' := [.int (nI zk14)]) (by rw [ezk14]) ?_
        obtain ⟨zh15, hw⟩ := hw
        have hPc : va_P D vwCl [] zs.heap := hP.sub [] rfl
        refine z_ro (va_runS (As := [.int (nI zk14)]) (rest := []) ⟨hx, hb, hml, hown, hts⟩ (k_X6_named zk14 zh15) (va_cwS 1 hts gX6_leads_X6_named rfl rfl rfl (by decide +kernel) ⟨Nat.le_of_ble_eq_true rfl, Nat.le_of_ble_eq_true rfl⟩) (zPr_S hZ hPc) rfl rfl hl.1 rfl (lv_room (Nat.le_of_ble_eq_true rfl)) dX6_leads_50 ⟨Nat.zero_le _, Nat.zero_le _⟩) (fun zr16 hzr16 => ?_)
        have ez := hzr16
        rw [ez]
        clear ez hzr16
        have er := hw
        exact W.iret (v := nI (10 * (zk14 / 4) + zk14 % 4)) hx hb hr (fun t ht hW => ⟨_, rfl, er, ht⟩) (fun _ h => by cases h) dX6_leads_53
    · replace hw := hwf cc
      refine lv_bipush (v := (-6)) hx hb dX6_leads_26 (by decide +kernel) ?_
      refine lv_goto (tgt := 53) hx hb dX6_leads_28 (by decide) ?_
      have er := hw
      exact W.iret (v := (-6)) hx hb hr (fun t ht hW => ⟨_, rfl, er, ht⟩) (fun _ h => by cases h) dX6_leads_53
  · replace hw := hwf cc
    refine lv_iconst (v := (-1)) hx hb dX6_leads_9 (by decide +kernel) ?_
    have er := hw
    exact W.iret (v := (-1)) hx hb hr (fun t ht hW => ⟨_, rfl, er, ht⟩) (fun _ h => by cases h) dX6_leads_10
theorem m_X6_degreeOf_f13 : Cond.fieldLink RX6 13 "NetWalkersModel" "to" "[I" ∈ wsX6_degreeOf := by decide +kernel
theorem i_X6_degreeOf_X6 : ∀ w ∈ wsX60, w ∈ wsX6_degreeOf := by decide +kernel
set_option maxRecDepth 100000 in
set_option maxHeartbeats 4000000 in
theorem w_X6_degreeOf {l : Launch} {D : va_G} {cI cZ : ClassId} (vv : V_X6_degreeOf) : K_X6_degreeOf l D cI cZ := by
  intro q_md q_mt q_mb q_ml q_mr q_lo q_dp q_sh q_fd n t w r L r2 L2 a0 y0 lo dp cl sh fd p hpre0
  have vw := vv n t w r L r2 L2 a0 y0 lo dp cl sh fd p hpre0
  refine Met.ofW (cc := cX6_degreeOf) (maxL := 4) (ret := (some .int)) (by decide) rfl ?_
  intro zp ze zs zm zargs zbelow zmeth zc zs1 B hml hv
  obtain ⟨rfl, hZ, hP⟩ := hv
  have hx := B.exec
  have hb := B.bytes
  have hr := B.returns
  have hts := atoms_spec (ws := wsX6_degreeOf) B.pre
  have hown : zs.vm.findClass RX6 = some zm.cls := findClass_of_methodNamed B.named
  have hlocks := B.notSynchronized
  have hP : va_P D vwCl [(q_md, .inr (6, [.int (nI n), .ref q_mt, .ref q_mb, .ref q_ml, .ref q_mr, .int (nI a0), .int (nI y0), .ref q_lo, .ref q_dp, .int (nI cl), .ref q_sh, .ref q_fd])), (q_mt, .inl (cI, 32, .inl (aT t))), (q_mb, .inl (cZ, 32, .inl (aB w))), (q_ml, .inl (cI, 2, .inl (aN (lnF L L2)))), (q_mr, .inl (cI, 80, .inl (aN (rwF r r2)))), (q_lo, .inl (cI, 8, .inl (lo))), (q_dp, .inl (cI, 8, .inl (dp))), (q_sh, .inl (cI, 5, .inl (aN sh))), (q_fd, .inl (cI, 5, .inl (aN fd)))] zs.heap := hP
  have hl := lv_entry ([.ref q_md, .int (nI p)]) (n := 4) (Nat.le_of_ble_eq_true rfl)
  rw [lg_entry_eq]
  generalize (lg_sl ([.ref q_md, .int (nI p)]) ++ List.replicate (4 - (lg_sl ([.ref q_md, .int (nI p)])).length) Slot.unset).toArray = ls at hl ⊢
  have hl : lv_has ls 4 [(0, .ref q_md), (1, .int (nI p))] := hl
  obtain ⟨X4, hX4⟩ : ∃ X : Nat → Nat → Prop, ∀ (v2 : Nat) (v3 : Nat), X v2 v3 ↔ (∀ ls : Array Slot, lv_has ls 4 [(0, .ref q_md), (1, .int (nI p)), (2, .int (nI v2)), (3, .int (nI v3))] → W zp l ze (headSpec wsX6_degreeOf ({ frames := 0, cells := 0, slots := 0, locals := 0 } : Room)).room zs zm ([.ref q_md, .int (nI p)] : List Value).toArray zbelow zmeth zc zs.heap [] 0 0 (MQ zbelow (vp_Si (fun zr : Int32 => zr = nI (dg t p))) ([.ref q_md, .int (nI p)] : List Value).toArray zs 0 0 (fun _ => False)) (F0 zm 4 ls [])) := ⟨_, fun _ _ => Iff.rfl⟩
  have b4 : ∀ (v2 : Nat) (v3 : Nat), B_X6_degreeOf_4 n t w r L r2 L2 a0 y0 lo dp cl sh fd p X4 v2 v3 → X4 v2 v3 := by
    intro v2 v3 hw
    rw [hX4]
    intro ls hl
    unfold B_X6_degreeOf_4 at hw
    refine lv_iload_n hx hb dX6_degreeOf_4 rfl (lv_at hl 3 rfl) ?_
    refine lv_iconst (v := nI 4) hx hb dX6_degreeOf_5 (by decide +kernel) ?_
    obtain ⟨zh1, hw⟩ := hw
    obtain ⟨hwt, hwf⟩ := hw
    refine z_icmp_ge hx hb zh1 (by decide) (tgt := 36) dX6_degreeOf_6 (by decide) (fun cc => ?_) (fun cc => ?_)
    · replace hw := hwt cc
      refine lv_iload_n hx hb dX6_degreeOf_36 rfl (lv_at hl 2 rfl) ?_
      have er := hw
      exact W.iret (v := nI v2) hx hb hr (fun t ht hW => ⟨_, rfl, (congrArg nI er), ht⟩) (fun _ h => by cases h) dX6_degreeOf_37
    · replace hw := hwf cc
      refine lv_iload_n hx hb dX6_degreeOf_9 rfl (lv_at hl 2 rfl) ?_
      refine lv_aload_n hx hb dX6_degreeOf_10 rfl (lv_at hl 0 rfl) ?_
      refine va_get (D := D) (ci := 6) (v := .ref q_mt) (C := RX6) (T := TX6) (N := 12) hx hb hts i_X6_degreeOf_X6 hown hZ.1 hP 0 rfl rfl 1 (by decide) (hts _ m_X6_degreeOf_f13) (fun _ h9 => h9) rfl dX6_degreeOf_11 ?_
      refine lv_iconst (v := nI 4) hx hb dX6_degreeOf_14 (by decide +kernel) ?_
      refine lv_iload_n hx hb dX6_degreeOf_15 rfl (lv_at hl 1 rfl) ?_
      refine z_imul hx hb (pk_mul _ _) dX6_degreeOf_16 ?_
      refine lv_iload_n hx hb dX6_degreeOf_17 rfl (lv_at hl 3 rfl) ?_
      refine z_iadd hx hb (nI_add _ _) dX6_degreeOf_18 ?_
      obtain ⟨zh2, hw⟩ := hw
      refine z_iald hx hb hZ.1 hP 1 0 rfl rfl zh2 (by decide) (v := aT t ((4 * p) + v3)) rfl dX6_degreeOf_19 ?_
      obtain ⟨hwt, hwf⟩ := hw
      refine lv_if_lt hx hb (tgt := 27) dX6_degreeOf_20 (by decide) (fun cc => ?_) (fun cc => ?_)
      · replace hw := hwt cc
        refine lv_iconst (v := nI 0) hx hb dX6_degreeOf_27 (by decide +kernel) ?_
        refine z_iadd hx hb (nI_add _ _) dX6_degreeOf_28 ?_
        obtain ⟨zx3, ezx3⟩ : ∃ zx3 : Nat, zx3 = v2 + 0 := ⟨_, rfl⟩
        replace hw := hw zx3 ezx3
        refine z_st (st' := [.int (nI zx3)]) (by rw [ezx3]) ?_
        refine lv_istore_n (lv' := [(2, .int (nI zx3)), (0, .ref q_md), (1, .int (nI p)), (3, .int (nI v3))]) hx hb dX6_degreeOf_29 rfl hl (by decide) rfl (fun ls hl => ?_)
        refine lv_iinc (v := nI (v3 + 1)) (lv' := [(3, .int (nI (v3 + 1))), (2, .int (nI zx3)), (0, .ref q_md), (1, .int (nI p))]) hx hb dX6_degreeOf_30 hl (k := 3) rfl (by rw [show Int32.ofInt 1 = nI 1 from by decide +kernel]; exact nI_add _ _) (by decide) rfl (fun ls hl => ?_)
        refine lv_goto (tgt := 4) hx hb dX6_degreeOf_33 (by decide) ?_
        exact ((hX4 _ _).mp hw) ls (lv_sub hl [2, 3, 1, 0] rfl)
      · replace hw := hwf cc
        refine lv_iconst (v := nI 1) hx hb dX6_degreeOf_23 (by decide +kernel) ?_
        refine lv_goto (tgt := 28) hx hb dX6_degreeOf_24 (by decide) ?_
        refine z_iadd hx hb (nI_add _ _) dX6_degreeOf_28 ?_
        obtain ⟨zx4, ezx4⟩ : ∃ zx4 : Nat, zx4 = v2 + 1 := ⟨_, rfl⟩
        replace hw := hw zx4 ezx4
        refine z_st (st' := [.int (nI zx4)]) (by rw [ezx4]) ?_
        refine lv_istore_n (lv' := [(2, .int (nI zx4)), (0, .ref q_md), (1, .int (nI p)), (3, .int (nI v3))]) hx hb dX6_degreeOf_29 rfl hl (by decide) rfl (fun ls hl => ?_)
        refine lv_iinc (v := nI (v3 + 1)) (lv' := [(3, .int (nI (v3 + 1))), (2, .int (nI zx4)), (0, .ref q_md), (1, .int (nI p))]) hx hb dX6_degreeOf_30 hl (k := 3) rfl (by rw [show Int32.ofInt 1 = nI 1 from by decide +kernel]; exact nI_add _ _) (by decide) rfl (fun ls hl => ?_)
        refine lv_goto (tgt := 4) hx hb dX6_degreeOf_33 (by decide) ?_
        exact ((hX4 _ _).mp hw) ls (lv_sub hl [2, 3, 1, 0] rfl)
  have hw := vw X4 b4
  unfold B_X6_degreeOf_in at hw
  refine lv_iconst (v := nI 0) hx hb dX6_degreeOf_0 (by decide +kernel) ?_
  refine lv_istore_n (lv' := [(2, .int (nI 0)), (0, .ref q_md), (1, .int (nI p))]) hx hb dX6_degreeOf_1 rfl hl (by decide) rfl (fun ls hl => ?_)
  refine lv_iconst (v := nI 0) hx hb dX6_degreeOf_2 (by decide +kernel) ?_
  refine lv_istore_n (lv' := [(3, .int (nI 0)), (2, .int (nI 0)), (0, .ref q_md), (1, .int (nI p))]) hx hb dX6_degreeOf_3 rfl hl (by decide) rfl (fun ls hl => ?_)
  exact ((hX4 _ _).mp hw) ls (lv_sub hl [2, 3, 1, 0] rfl)
set_option maxRecDepth 100000 in
set_option maxHeartbeats 4000000 in
theorem w_X6_degree {l : Launch} {D : va_G} {cI cZ : ClassId} (k_X6_isPost : K_X6_isPost l D cI cZ) (k_X6_degreeOf : K_X6_degreeOf l D cI cZ) (vv : V_X6_degree) : K_X6_degree l D cI cZ := by
  intro q_md q_mt q_mb q_ml q_mr q_lo q_dp q_sh q_fd n t w r L r2 L2 a0 y0 lo dp cl sh fd p hpre0
  have vw := vv n t w r L r2 L2 a0 y0 lo dp cl sh fd p hpre0
  refine Met.ofW (cc := cX6_degree) (maxL := 2) (ret := (some .int)) (by decide) rfl ?_
  intro zp ze zs zm zargs zbelow zmeth zc zs1 B hml hv
  obtain ⟨rfl, hZ, hP⟩ := hv
  have hx := B.exec
  have hb := B.bytes
  have hr := B.returns
  have hts := atoms_spec (ws := wsX6_degree) B.pre
  have hown : zs.vm.findClass RX6 = some zm.cls := findClass_of_methodNamed B.named
  have hlocks := B.notSynchronized
  have hP : va_P D vwCl [(q_md, .inr (6, [.int (nI n), .ref q_mt, .ref q_mb, .ref q_ml, .ref q_mr, .int (nI a0), .int (nI y0), .ref q_lo, .ref q_dp, .int (nI cl), .ref q_sh, .ref q_fd])), (q_mt, .inl (cI, 32, .inl (aT t))), (q_mb, .inl (cZ, 32, .inl (aB w))), (q_ml, .inl (cI, 2, .inl (aN (lnF L L2)))), (q_mr, .inl (cI, 80, .inl (aN (rwF r r2)))), (q_lo, .inl (cI, 8, .inl (lo))), (q_dp, .inl (cI, 8, .inl (dp))), (q_sh, .inl (cI, 5, .inl (aN sh))), (q_fd, .inl (cI, 5, .inl (aN fd)))] zs.heap := hP
  have hl := lv_entry ([.ref q_md, .int p]) (n := 2) (Nat.le_of_ble_eq_true rfl)
  rw [lg_entry_eq]
  generalize (lg_sl ([.ref q_md, .int p]) ++ List.replicate (2 - (lg_sl ([.ref q_md, .int p])).length) Slot.unset).toArray = ls at hl ⊢
  have hl : lv_has ls 2 [(0, .ref q_md), (1, .int p)] := hl
  have hw := vw
  unfold B_X6_degree_in at hw
  refine lv_aload_n hx hb dX6_degree_0 rfl (lv_at hl 0 rfl) ?_
  refine lv_iload_n hx hb dX6_degree_1 rfl (lv_at hl 1 rfl) ?_
  obtain ⟨zh1, hw⟩ := hw
  obtain ⟨zh2, hw⟩ := hw
  have hPc : va_P D vwCl [(q_md, .inr (6, [.int (nI n), .ref q_mt, .ref q_mb, .ref q_ml, .ref q_mr, .int (nI a0), .int (nI y0), .ref q_lo, .ref q_dp, .int (nI cl), .ref q_sh, .ref q_fd])), (q_mt, .inl (cI, 32, .inl (aT t))), (q_mb, .inl (cZ, 32, .inl (aB w))), (q_ml, .inl (cI, 2, .inl (aN (lnF L L2)))), (q_mr, .inl (cI, 80, .inl (aN (rwF r r2)))), (q_lo, .inl (cI, 8, .inl (lo))), (q_dp, .inl (cI, 8, .inl (dp))), (q_sh, .inl (cI, 5, .inl (aN sh))), (q_fd, .inl (cI, 5, .inl (aN fd)))] zs.heap := hP.sub [0, 1, 2, 3, 4, 5, 6, 7, 8] rfl
  refine z_ro (va_runV (As := [.int p]) (rest := []) ⟨hx, hb, hml, hown, hts⟩ (k_X6_isPost q_md q_mt q_mb q_ml q_mr q_lo q_dp q_sh q_fd n t w r L r2 L2 a0 y0 lo dp cl sh fd p zh1 zh2) (cwV 1 hts gX6_degree_X6_isPost rfl rfl rfl (by decide +kernel) ⟨Nat.le_of_ble_eq_true rfl, Nat.le_of_ble_eq_true rfl⟩) (zPr_V hZ hPc 0 rfl rfl) rfl rfl hl.1 rfl (lv_room (Nat.le_of_ble_eq_true rfl)) dX6_degree_2 ⟨Nat.zero_le _, Nat.zero_le _⟩) (fun zr3 hzr3 => ?_)
  have ez := hzr3
  rw [ez]
  clear ez hzr3
  obtain ⟨hwt, hwf⟩ := hw
  refine z_if_eqb hx hb (tgt := 16) dX6_degree_5 (by decide) (fun cc => ?_) (fun cc => ?_)
  · replace hw := hwt cc
    refine lv_iconst (v := (-1)) hx hb dX6_degree_16 (by decide +kernel) ?_
    have er := hw
    exact W.iret (v := (-1)) hx hb hr (fun t ht hW => ⟨_, rfl, er, ht⟩) (fun _ h => by cases h) dX6_degree_17
  · replace hw := hwf cc
    refine lv_aload_n hx hb dX6_degree_8 rfl (lv_at hl 0 rfl) ?_
    refine lv_iload_n hx hb dX6_degree_9 rfl (lv_at hl 1 rfl) ?_
    obtain ⟨zk4, ezk4, hw⟩ := hw
    refine z_st (st' := [.int (nI zk4), .ref q_md]) (by rw [ezk4]) ?_
    obtain ⟨zh5, hw⟩ := hw
    have hPc : va_P D vwCl [(q_md, .inr (6, [.int (nI n), .ref q_mt, .ref q_mb, .ref q_ml, .ref q_mr, .int (nI a0), .int (nI y0), .ref q_lo, .ref q_dp, .int (nI cl), .ref q_sh, .ref q_fd])), (q_mt, .inl (cI, 32, .inl (aT t))), (q_mb, .inl (cZ, 32, .inl (aB w))), (q_ml, .inl (cI, 2, .inl (aN (lnF L L2)))), (q_mr, .inl (cI, 80, .inl (aN (rwF r r2)))), (q_lo, .inl (cI, 8, .inl (lo))), (q_dp, .inl (cI, 8, .inl (dp))), (q_sh, .inl (cI, 5, .inl (aN sh))), (q_fd, .inl (cI, 5, .inl (aN fd)))] zs.heap := hP.sub [0, 1, 2, 3, 4, 5, 6, 7, 8] rfl
    refine z_ro (va_runV (As := [.int (nI zk4)]) (rest := []) ⟨hx, hb, hml, hown, hts⟩ (k_X6_degreeOf q_md q_mt q_mb q_ml q_mr q_lo q_dp q_sh q_fd n t w r L r2 L2 a0 y0 lo dp cl sh fd zk4 zh5) (cwV 1 hts gX6_degree_X6_degreeOf rfl rfl rfl (by decide +kernel) ⟨Nat.le_of_ble_eq_true rfl, Nat.le_of_ble_eq_true rfl⟩) (zPr_V hZ hPc 0 rfl rfl) rfl rfl hl.1 rfl (lv_room (Nat.le_of_ble_eq_true rfl)) dX6_degree_10 ⟨Nat.zero_le _, Nat.zero_le _⟩) (fun zr6 hzr6 => ?_)
    have ez := hzr6
    rw [ez]
    clear ez hzr6
    refine lv_goto (tgt := 17) hx hb dX6_degree_13 (by decide) ?_
    have er := hw
    exact W.iret (v := nI (dg t zk4)) hx hb hr (fun t ht hW => ⟨_, rfl, er, ht⟩) (fun _ h => by cases h) dX6_degree_17
theorem m_X6_all_f7 : Cond.fieldLink RX6 7 "NetWalkersModel" "posts" "I" ∈ wsX6_all := by decide +kernel
theorem i_X6_all_X6 : ∀ w ∈ wsX60, w ∈ wsX6_all := by decide +kernel
set_option maxRecDepth 100000 in
set_option maxHeartbeats 4000000 in
theorem w_X6_all {l : Launch} {D : va_G} {cI cZ : ClassId} (vv : V_X6_all) : K_X6_all l D cI cZ := by
  intro q_md q_mt q_mb q_ml q_mr q_lo q_dp q_sh q_fd n t w r L r2 L2 a0 y0 lo dp cl sh fd hpre0
  have vw := vv n t w r L r2 L2 a0 y0 lo dp cl sh fd hpre0
  refine Met.ofW (cc := cX6_all) (maxL := 1) (ret := (some .int)) (by decide) rfl ?_
  intro zp ze zs zm zargs zbelow zmeth zc zs1 B hml hv
  obtain ⟨rfl, hZ, hP⟩ := hv
  have hx := B.exec
  have hb := B.bytes
  have hr := B.returns
  have hts := atoms_spec (ws := wsX6_all) B.pre
  have hown : zs.vm.findClass RX6 = some zm.cls := findClass_of_methodNamed B.named
  have hlocks := B.notSynchronized
  have hP : va_P D vwCl [(q_md, .inr (6, [.int (nI n), .ref q_mt, .ref q_mb, .ref q_ml, .ref q_mr, .int (nI a0), .int (nI y0), .ref q_lo, .ref q_dp, .int (nI cl), .ref q_sh, .ref q_fd])), (q_mt, .inl (cI, 32, .inl (aT t))), (q_mb, .inl (cZ, 32, .inl (aB w))), (q_ml, .inl (cI, 2, .inl (aN (lnF L L2)))), (q_mr, .inl (cI, 80, .inl (aN (rwF r r2)))), (q_lo, .inl (cI, 8, .inl (lo))), (q_dp, .inl (cI, 8, .inl (dp))), (q_sh, .inl (cI, 5, .inl (aN sh))), (q_fd, .inl (cI, 5, .inl (aN fd)))] zs.heap := hP
  have hl := lv_entry ([.ref q_md]) (n := 1) (Nat.le_of_ble_eq_true rfl)
  rw [lg_entry_eq]
  generalize (lg_sl ([.ref q_md]) ++ List.replicate (1 - (lg_sl ([.ref q_md])).length) Slot.unset).toArray = ls at hl ⊢
  have hl : lv_has ls 1 [(0, .ref q_md)] := hl
  have hw := vw
  unfold B_X6_all_in at hw
  refine lv_iconst (v := nI 1) hx hb dX6_all_0 (by decide +kernel) ?_
  refine lv_aload_n hx hb dX6_all_1 rfl (lv_at hl 0 rfl) ?_
  refine va_get (D := D) (ci := 6) (v := .int (nI n)) (C := RX6) (T := TX6) (N := 12) hx hb hts i_X6_all_X6 hown hZ.1 hP 0 rfl rfl 0 (by decide) (hts _ m_X6_all_f7) (fun _ h9 => h9) rfl dX6_all_2 ?_
  obtain ⟨zh1, hw⟩ := hw
  refine z_ishl hx hb (n_shl _ zh1) dX6_all_5 ?_
  refine lv_iconst (v := nI 1) hx hb dX6_all_6 (by decide +kernel) ?_
  obtain ⟨zh2, hw⟩ := hw
  refine z_isub hx hb (pk_sub zh2) dX6_all_7 ?_
  have er := hw
  exact W.iret (v := nI ((1 <<< n) - 1)) hx hb hr (fun t ht hW => ⟨_, rfl, (congrArg nI er), ht⟩) (fun _ h => by cases h) dX6_all_8
theorem m_X6_isReady_f7 : Cond.fieldLink RX6 7 "NetWalkersModel" "posts" "I" ∈ wsX6_isReady := by decide +kernel
theorem i_X6_isReady_X6 : ∀ w ∈ wsX60, w ∈ wsX6_isReady := by decide +kernel
theorem m_X6_isReady_f13 : Cond.fieldLink RX6 13 "NetWalkersModel" "to" "[I" ∈ wsX6_isReady := by decide +kernel
set_option maxRecDepth 100000 in
set_option maxHeartbeats 4000000 in
theorem w_X6_isReady {l : Launch} {D : va_G} {cI cZ : ClassId} (k_X6_all : K_X6_all l D cI cZ) (k_X6_degreeOf : K_X6_degreeOf l D cI cZ) (vv : V_X6_isReady) : K_X6_isReady l D cI cZ := by
  intro q_md q_mt q_mb q_ml q_mr q_lo q_dp q_sh q_fd n t w r L r2 L2 a0 y0 lo dp cl sh fd hpre0
  have vw := vv n t w r L r2 L2 a0 y0 lo dp cl sh fd hpre0
  refine Met.ofW (cc := cX6_isReady) (maxL := 6) (ret := (some .boolean)) (by decide) rfl ?_
  intro zp ze zs zm zargs zbelow zmeth zc zs1 B hml hv
  obtain ⟨rfl, hZ, hP⟩ := hv
  have hx := B.exec
  have hb := B.bytes
  have hr := B.returns
  have hts := atoms_spec (ws := wsX6_isReady) B.pre
  have hown : zs.vm.findClass RX6 = some zm.cls := findClass_of_methodNamed B.named
  have hlocks := B.notSynchronized
  have hP : va_P D vwCl [(q_md, .inr (6, [.int (nI n), .ref q_mt, .ref q_mb, .ref q_ml, .ref q_mr, .int (nI a0), .int (nI y0), .ref q_lo, .ref q_dp, .int (nI cl), .ref q_sh, .ref q_fd])), (q_mt, .inl (cI, 32, .inl (aT t))), (q_mb, .inl (cZ, 32, .inl (aB w))), (q_ml, .inl (cI, 2, .inl (aN (lnF L L2)))), (q_mr, .inl (cI, 80, .inl (aN (rwF r r2)))), (q_lo, .inl (cI, 8, .inl (lo))), (q_dp, .inl (cI, 8, .inl (dp))), (q_sh, .inl (cI, 5, .inl (aN sh))), (q_fd, .inl (cI, 5, .inl (aN fd)))] zs.heap := hP
  have hl := lv_entry ([.ref q_md]) (n := 6) (Nat.le_of_ble_eq_true rfl)
  rw [lg_entry_eq]
  generalize (lg_sl ([.ref q_md]) ++ List.replicate (6 - (lg_sl ([.ref q_md])).length) Slot.unset).toArray = ls at hl ⊢
  have hl : lv_has ls 6 [(0, .ref q_md)] := hl
  obtain ⟨X4, hX4⟩ : ∃ X : Nat → Nat → Prop, ∀ (v1 : Nat) (v2 : Nat), X v1 v2 ↔ (∀ ls : Array Slot, lv_has ls 6 [(0, .ref q_md), (1, .int (nI v1)), (2, .int (nI v2))] → W zp l ze (headSpec wsX6_isReady ({ frames := 1, cells := 0, slots := 0, locals := 23 } : Room)).room zs zm ([.ref q_md] : List Value).toArray zbelow zmeth zc zs.heap [] 0 0 (MQ zbelow (vp_Si (fun zr : Int32 => zr = bI (rdy n t))) ([.ref q_md] : List Value).toArray zs 0 0 (fun _ => False)) (F0 zm 4 ls [])) := ⟨_, fun _ _ => Iff.rfl⟩
  obtain ⟨X14, hX14⟩ : ∃ X : Nat → Nat → Nat → Prop, ∀ (v1 : Nat) (v2 : Nat) (v3 : Nat), X v1 v2 v3 ↔ (∀ ls : Array Slot, lv_has ls 6 [(0, .ref q_md), (1, .int (nI v1)), (2, .int (nI v2)), (3, .int (nI v3))] → W zp l ze (headSpec wsX6_isReady ({ frames := 1, cells := 0, slots := 0, locals := 23 } : Room)).room zs zm ([.ref q_md] : List Value).toArray zbelow zmeth zc zs.heap [] 0 0 (MQ zbelow (vp_Si (fun zr : Int32 => zr = bI (rdy n t))) ([.ref q_md] : List Value).toArray zs 0 0 (fun _ => False)) (F0 zm 14 ls [])) := ⟨_, fun _ _ _ => Iff.rfl⟩
  obtain ⟨X89, hX89⟩ : ∃ X : Bool → Nat → Prop, ∀ (v2 : Bool) (v3 : Nat), X v2 v3 ↔ (∀ ls : Array Slot, lv_has ls 6 [(0, .ref q_md), (2, .int (bI v2)), (3, .int (nI v3))] → W zp l ze (headSpec wsX6_isReady ({ frames := 1, cells := 0, slots := 0, locals := 23 } : Room)).room zs zm ([.ref q_md] : List Value).toArray zbelow zmeth zc zs.heap [] 0 0 (MQ zbelow (vp_Si (fun zr : Int32 => zr = bI (rdy n t))) ([.ref q_md] : List Value).toArray zs 0 0 (fun _ => False)) (F0 zm 89 ls [])) := ⟨_, fun _ _ => Iff.rfl⟩
  obtain ⟨X130, hX130⟩ : ∃ X : Bool → Nat → Nat → Nat → Prop, ∀ (v2 : Bool) (v3 : Nat) (v4 : Nat) (v5 : Nat), X v2 v3 v4 v5 ↔ (∀ ls : Array Slot, lv_has ls 6 [(0, .ref q_md), (2, .int (bI v2)), (3, .int (nI v3)), (4, .int (nI v4)), (5, .int (nI v5))] → W zp l ze (headSpec wsX6_isReady ({ frames := 1, cells := 0, slots := 0, locals := 23 } : Room)).room zs zm ([.ref q_md] : List Value).toArray zbelow zmeth zc zs.heap [] 0 0 (MQ zbelow (vp_Si (fun zr : Int32 => zr = bI (rdy n t))) ([.ref q_md] : List Value).toArray zs 0 0 (fun _ => False)) (F0 zm 130 ls [])) := ⟨_, fun _ _ _ _ => Iff.rfl⟩
  have b4 : ∀ (v1 : Nat) (v2 : Nat), B_X6_isReady_4 n t w r L r2 L2 a0 y0 lo dp cl sh fd X4 X14 X89 X130 v1 v2 → X4 v1 v2 := by
    intro v1 v2 hw
    rw [hX4]
    intro ls hl
    unfold B_X6_isReady_4 at hw
    refine lv_iload_n hx hb dX6_isReady_4 rfl (lv_at hl 2 rfl) ?_
    refine lv_aload_n hx hb dX6_isReady_5 rfl (lv_at hl 0 rfl) ?_
    refine va_get (D := D) (ci := 6) (v := .int (nI n)) (C := RX6) (T := TX6) (N := 12) hx hb hts i_X6_isReady_X6 hown hZ.1 hP 0 rfl rfl 0 (by decide) (hts _ m_X6_isReady_f7) (fun _ h9 => h9) rfl dX6_isReady_6 ?_
    obtain ⟨zh1, hw⟩ := hw
    obtain ⟨zh2, hw⟩ := hw
    obtain ⟨hwt, hwf⟩ := hw
    refine z_icmp_ge hx hb zh1 zh2 (tgt := 73) dX6_isReady_9 (by decide) (fun cc => ?_) (fun cc => ?_)
    · replace hw := hwt cc
      refine lv_iload_n hx hb dX6_isReady_73 rfl (lv_at hl 1 rfl) ?_
      refine lv_aload_n hx hb dX6_isReady_74 rfl (lv_at hl 0 rfl) ?_
      obtain ⟨zh3, hw⟩ := hw
      have hPc : va_P D vwCl [(q_md, .inr (6, [.int (nI n), .ref q_mt, .ref q_mb, .ref q_ml, .ref q_mr, .int (nI a0), .int (nI y0), .ref q_lo, .ref q_dp, .int (nI cl), .ref q_sh, .ref q_fd])), (q_mt, .inl (cI, 32, .inl (aT t))), (q_mb, .inl (cZ, 32, .inl (aB w))), (q_ml, .inl (cI, 2, .inl (aN (lnF L L2)))), (q_mr, .inl (cI, 80, .inl (aN (rwF r r2)))), (q_lo, .inl (cI, 8, .inl (lo))), (q_dp, .inl (cI, 8, .inl (dp))), (q_sh, .inl (cI, 5, .inl (aN sh))), (q_fd, .inl (cI, 5, .inl (aN fd)))] zs.heap := hP.sub [0, 1, 2, 3, 4, 5, 6, 7, 8] rfl
      refine z_ro (va_runV (As := []) (rest := [.int (nI v1)]) ⟨hx, hb, hml, hown, hts⟩ (k_X6_all q_md q_mt q_mb q_ml q_mr q_lo q_dp q_sh q_fd n t w r L r2 L2 a0 y0 lo dp cl sh fd zh3) (cwV 0 hts gX6_isReady_X6_all rfl rfl rfl (by decide +kernel) ⟨Nat.le_of_ble_eq_true rfl, Nat.le_of_ble_eq_true rfl⟩) (zPr_V hZ hPc 0 rfl rfl) rfl rfl hl.1 rfl (lv_room (Nat.le_of_ble_eq_true rfl)) dX6_isReady_75 ⟨Nat.zero_le _, Nat.zero_le _⟩) (fun zr4 hzr4 => ?_)
      have ez := hzr4
      rw [ez]
      clear ez hzr4
      obtain ⟨zh5, hw⟩ := hw
      obtain ⟨zh6, hw⟩ := hw
      obtain ⟨hwt, hwf⟩ := hw
      refine z_icmp_ne hx hb zh5 zh6 (tgt := 85) dX6_isReady_78 (by decide) (fun cc => ?_) (fun cc => ?_)
      · replace hw := hwt cc
        refine lv_iconst (v := nI 0) hx hb dX6_isReady_85 (by decide +kernel) ?_
        refine lv_istore_n (lv' := [(2, .int (nI 0)), (0, .ref q_md), (1, .int (nI v1))]) hx hb dX6_isReady_86 rfl hl (by decide) rfl (fun ls hl => ?_)
        refine lv_iconst (v := nI 0) hx hb dX6_isReady_87 (by decide +kernel) ?_
        refine lv_istore_n (lv' := [(3, .int (nI 0)), (2, .int (nI 0)), (0, .ref q_md), (1, .int (nI v1))]) hx hb dX6_isReady_88 rfl hl (by decide) rfl (fun ls hl => ?_)
        exact ((hX89 _ _).mp hw) ls (show lv_has ls 6 [(0, .ref q_md), (2, .int (bI false)), (3, .int (nI 0))] from by exact lv_sub hl [2, 1, 0] rfl)
      · replace hw := hwf cc
        refine lv_iconst (v := nI 1) hx hb dX6_isReady_81 (by decide +kernel) ?_
        refine lv_goto (tgt := 86) hx hb dX6_isReady_82 (by decide) ?_
        refine lv_istore_n (lv' := [(2, .int (nI 1)), (0, .ref q_md), (1, .int (nI v1))]) hx hb dX6_isReady_86 rfl hl (by decide) rfl (fun ls hl => ?_)
        refine lv_iconst (v := nI 0) hx hb dX6_isReady_87 (by decide +kernel) ?_
        refine lv_istore_n (lv' := [(3, .int (nI 0)), (2, .int (nI 1)), (0, .ref q_md), (1, .int (nI v1))]) hx hb dX6_isReady_88 rfl hl (by decide) rfl (fun ls hl => ?_)
        exact ((hX89 _ _).mp hw) ls (show lv_has ls 6 [(0, .ref q_md), (2, .int (bI true)), (3, .int (nI 0))] from by exact lv_sub hl [2, 1, 0] rfl)
    · replace hw := hwf cc
      refine lv_iconst (v := nI 0) hx hb dX6_isReady_12 (by decide +kernel) ?_
      refine lv_istore_n (lv' := [(3, .int (nI 0)), (0, .ref q_md), (1, .int (nI v1)), (2, .int (nI v2))]) hx hb dX6_isReady_13 rfl hl (by decide) rfl (fun ls hl => ?_)
      exact ((hX14 _ _ _).mp hw) ls (lv_sub hl [1, 2, 3, 0] rfl)
  have b14 : ∀ (v1 : Nat) (v2 : Nat) (v3 : Nat), B_X6_isReady_14 n t w r L r2 L2 a0 y0 lo dp cl sh fd X4 X14 X89 X130 v1 v2 v3 → X14 v1 v2 v3 := by
    intro v1 v2 v3 hw
    rw [hX14]
    intro ls hl
    unfold B_X6_isReady_14 at hw
    refine lv_iload_n hx hb dX6_isReady_14 rfl (lv_at hl 3 rfl) ?_
    refine lv_iconst (v := nI 4) hx hb dX6_isReady_15 (by decide +kernel) ?_
    refine lv_aload_n hx hb dX6_isReady_16 rfl (lv_at hl 0 rfl) ?_
    refine va_get (D := D) (ci := 6) (v := .int (nI n)) (C := RX6) (T := TX6) (N := 12) hx hb hts i_X6_isReady_X6 hown hZ.1 hP 0 rfl rfl 0 (by decide) (hts _ m_X6_isReady_f7) (fun _ h9 => h9) rfl dX6_isReady_17 ?_
    refine z_imul hx hb (pk_mul _ _) dX6_isReady_20 ?_
    obtain ⟨zh7, hw⟩ := hw
    obtain ⟨zh8, hw⟩ := hw
    obtain ⟨hwt, hwf⟩ := hw
    refine z_icmp_ge hx hb zh7 zh8 (tgt := 67) dX6_isReady_21 (by decide) (fun cc => ?_) (fun cc => ?_)
    · replace hw := hwt cc
      refine lv_iinc (v := nI (v2 + 1)) (lv' := [(2, .int (nI (v2 + 1))), (0, .ref q_md), (1, .int (nI v1)), (3, .int (nI v3))]) hx hb dX6_isReady_67 hl (k := 2) rfl (by rw [show Int32.ofInt 1 = nI 1 from by decide +kernel]; exact nI_add _ _) (by decide) rfl (fun ls hl => ?_)
      refine lv_goto (tgt := 4) hx hb dX6_isReady_70 (by decide) ?_
      exact ((hX4 _ _).mp hw) ls (lv_sub hl [1, 2, 0] rfl)
    · replace hw := hwf cc
      refine lv_iload_n hx hb dX6_isReady_24 rfl (lv_at hl 1 rfl) ?_
      refine lv_iload_n hx hb dX6_isReady_25 rfl (lv_at hl 1 rfl) ?_
      refine lv_iload_n hx hb dX6_isReady_26 rfl (lv_at hl 3 rfl) ?_
      refine lv_iconst (v := nI 4) hx hb dX6_isReady_27 (by decide +kernel) ?_
      obtain ⟨zh9, hw⟩ := hw
      refine z_idiv hx hb (n_nz (by decide) (by decide)) (n_div zh9 (by decide) (by decide)) dX6_isReady_28 ?_
      obtain ⟨zh10, hw⟩ := hw
      obtain ⟨zh11, hw⟩ := hw
      refine z_ishr hx hb (n_shr zh11 zh10) dX6_isReady_29 ?_
      refine lv_iconst (v := nI 1) hx hb dX6_isReady_30 (by decide +kernel) ?_
      refine z_iand hx hb (n_and _ _) dX6_isReady_31 ?_
      refine lv_iconst (v := nI 1) hx hb dX6_isReady_32 (by decide +kernel) ?_
      obtain ⟨zh12, hw⟩ := hw
      obtain ⟨hwt, hwf⟩ := hw
      refine z_icmp_ne hx hb zh12 (by decide) (tgt := 58) dX6_isReady_33 (by decide) (fun cc => ?_) (fun cc => ?_)
      · replace hw := hwt cc
        refine lv_iconst (v := nI 0) hx hb dX6_isReady_58 (by decide +kernel) ?_
        refine z_ior hx hb (n_or _ _) dX6_isReady_59 ?_
        obtain ⟨zx13, ezx13⟩ : ∃ zx13 : Nat, zx13 = v1 ||| 0 := ⟨_, rfl⟩
        replace hw := hw zx13 ezx13
        refine z_st (st' := [.int (nI zx13)]) (by rw [ezx13]) ?_
        refine lv_istore_n (lv' := [(1, .int (nI zx13)), (0, .ref q_md), (2, .int (nI v2)), (3, .int (nI v3))]) hx hb dX6_isReady_60 rfl hl (by decide) rfl (fun ls hl => ?_)
        refine lv_iinc (v := nI (v3 + 1)) (lv' := [(3, .int (nI (v3 + 1))), (1, .int (nI zx13)), (0, .ref q_md), (2, .int (nI v2))]) hx hb dX6_isReady_61 hl (k := 3) rfl (by rw [show Int32.ofInt 1 = nI 1 from by decide +kernel]; exact nI_add _ _) (by decide) rfl (fun ls hl => ?_)
        refine lv_goto (tgt := 14) hx hb dX6_isReady_64 (by decide) ?_
        exact ((hX14 _ _ _).mp hw) ls (lv_sub hl [2, 1, 3, 0] rfl)
      · replace hw := hwf cc
        refine lv_aload_n hx hb dX6_isReady_36 rfl (lv_at hl 0 rfl) ?_
        refine va_get (D := D) (ci := 6) (v := .ref q_mt) (C := RX6) (T := TX6) (N := 12) hx hb hts i_X6_isReady_X6 hown hZ.1 hP 0 rfl rfl 1 (by decide) (hts _ m_X6_isReady_f13) (fun _ h9 => h9) rfl dX6_isReady_37 ?_
        refine lv_iload_n hx hb dX6_isReady_40 rfl (lv_at hl 3 rfl) ?_
        obtain ⟨zh14, hw⟩ := hw
        refine z_iald hx hb hZ.1 hP 1 0 rfl rfl zh14 (by decide) (v := aT t v3) rfl dX6_isReady_41 ?_
        obtain ⟨hwt, hwf⟩ := hw
        refine lv_if_lt hx hb (tgt := 58) dX6_isReady_42 (by decide) (fun cc => ?_) (fun cc => ?_)
        · replace hw := hwt cc
          refine lv_iconst (v := nI 0) hx hb dX6_isReady_58 (by decide +kernel) ?_
          refine z_ior hx hb (n_or _ _) dX6_isReady_59 ?_
          obtain ⟨zx15, ezx15⟩ : ∃ zx15 : Nat, zx15 = v1 ||| 0 := ⟨_, rfl⟩
          replace hw := hw zx15 ezx15
          refine z_st (st' := [.int (nI zx15)]) (by rw [ezx15]) ?_
          refine lv_istore_n (lv' := [(1, .int (nI zx15)), (0, .ref q_md), (2, .int (nI v2)), (3, .int (nI v3))]) hx hb dX6_isReady_60 rfl hl (by decide) rfl (fun ls hl => ?_)
          refine lv_iinc (v := nI (v3 + 1)) (lv' := [(3, .int (nI (v3 + 1))), (1, .int (nI zx15)), (0, .ref q_md), (2, .int (nI v2))]) hx hb dX6_isReady_61 hl (k := 3) rfl (by rw [show Int32.ofInt 1 = nI 1 from by decide +kernel]; exact nI_add _ _) (by decide) rfl (fun ls hl => ?_)
          refine lv_goto (tgt := 14) hx hb dX6_isReady_64 (by decide) ?_
          exact ((hX14 _ _ _).mp hw) ls (lv_sub hl [2, 1, 3, 0] rfl)
        · replace hw := hwf cc
          refine lv_iconst (v := nI 1) hx hb dX6_isReady_45 (by decide +kernel) ?_
          refine lv_aload_n hx hb dX6_isReady_46 rfl (lv_at hl 0 rfl) ?_
          refine va_get (D := D) (ci := 6) (v := .ref q_mt) (C := RX6) (T := TX6) (N := 12) hx hb hts i_X6_isReady_X6 hown hZ.1 hP 0 rfl rfl 1 (by decide) (hts _ m_X6_isReady_f13) (fun _ h9 => h9) rfl dX6_isReady_47 ?_
          refine lv_iload_n hx hb dX6_isReady_50 rfl (lv_at hl 3 rfl) ?_
          obtain ⟨zh16, hw⟩ := hw
          refine z_iald hx hb hZ.1 hP 1 0 rfl rfl zh16 (by decide) (v := aT t v3) rfl dX6_isReady_51 ?_
          refine lv_iconst (v := nI 4) hx hb dX6_isReady_52 (by decide +kernel) ?_
          obtain ⟨zk17, ezk17, hw⟩ := hw
          refine z_st (st' := [.int (nI 4), .int (nI zk17), .int (nI 1), .int (nI v1)]) (by rw [ezk17]) ?_
          obtain ⟨zh18, hw⟩ := hw
          refine z_idiv hx hb (n_nz (by decide) (by decide)) (n_div zh18 (by decide) (by decide)) dX6_isReady_53 ?_
          obtain ⟨zh19, hw⟩ := hw
          refine z_ishl hx hb (n_shl _ zh19) dX6_isReady_54 ?_
          refine lv_goto (tgt := 59) hx hb dX6_isReady_55 (by decide) ?_
          refine z_ior hx hb (n_or _ _) dX6_isReady_59 ?_
          obtain ⟨zx20, ezx20⟩ : ∃ zx20 : Nat, zx20 = v1 ||| (1 <<< (zk17 / 4)) := ⟨_, rfl⟩
          replace hw := hw zx20 ezx20
          refine z_st (st' := [.int (nI zx20)]) (by rw [ezx20]) ?_
          refine lv_istore_n (lv' := [(1, .int (nI zx20)), (0, .ref q_md), (2, .int (nI v2)), (3, .int (nI v3))]) hx hb dX6_isReady_60 rfl hl (by decide) rfl (fun ls hl => ?_)
          refine lv_iinc (v := nI (v3 + 1)) (lv' := [(3, .int (nI (v3 + 1))), (1, .int (nI zx20)), (0, .ref q_md), (2, .int (nI v2))]) hx hb dX6_isReady_61 hl (k := 3) rfl (by rw [show Int32.ofInt 1 = nI 1 from by decide +kernel]; exact nI_add _ _) (by decide) rfl (fun ls hl => ?_)
          refine lv_goto (tgt := 14) hx hb dX6_isReady_64 (by decide) ?_
          exact ((hX14 _ _ _).mp hw) ls (lv_sub hl [2, 1, 3, 0] rfl)
  have b89 : ∀ (v2 : Bool) (v3 : Nat), B_X6_isReady_89 n t w r L r2 L2 a0 y0 lo dp cl sh fd X4 X14 X89 X130 v2 v3 → X89 v2 v3 := by
    intro v2 v3 hw
    rw [hX89]
    intro ls hl
    unfold B_X6_isReady_89 at hw
    refine lv_iload_n hx hb dX6_isReady_89 rfl (lv_at hl 2 rfl) ?_
    refine lv_aload_n hx hb dX6_isReady_90 rfl (lv_at hl 0 rfl) ?_
    refine va_get (D := D) (ci := 6) (v := .int (nI n)) (C := RX6) (T := TX6) (N := 12) hx hb hts i_X6_isReady_X6 hown hZ.1 hP 0 rfl rfl 0 (by decide) (hts _ m_X6_isReady_f7) (fun _ h9 => h9) rfl dX6_isReady_91 ?_
    obtain ⟨zh21, hw⟩ := hw
    obtain ⟨zh22, hw⟩ := hw
    obtain ⟨hwt, hwf⟩ := hw
    refine z_icmp_ge hx hb zh21 zh22 (tgt := 173) dX6_isReady_94 (by decide) (fun cc => ?_) (fun cc => ?_)
    · replace hw := hwt cc
      refine lv_iload_n hx hb dX6_isReady_173 rfl (lv_at hl 1 rfl) ?_
      have er := hw
      exact W.zret (ty := .boolean) (v := bI v2) hx hb hr (bI_nar _) (fun t ht hW => ⟨_, rfl, (congrArg bI er), ht⟩) (fun _ h => by cases h) dX6_isReady_174
    · replace hw := hwf cc
      refine lv_aload_n hx hb dX6_isReady_97 rfl (lv_at hl 0 rfl) ?_
      refine lv_iload_n hx hb dX6_isReady_98 rfl (lv_at hl 2 rfl) ?_
      obtain ⟨zh23, hw⟩ := hw
      have hPc : va_P D vwCl [(q_md, .inr (6, [.int (nI n), .ref q_mt, .ref q_mb, .ref q_ml, .ref q_mr, .int (nI a0), .int (nI y0), .ref q_lo, .ref q_dp, .int (nI cl), .ref q_sh, .ref q_fd])), (q_mt, .inl (cI, 32, .inl (aT t))), (q_mb, .inl (cZ, 32, .inl (aB w))), (q_ml, .inl (cI, 2, .inl (aN (lnF L L2)))), (q_mr, .inl (cI, 80, .inl (aN (rwF r r2)))), (q_lo, .inl (cI, 8, .inl (lo))), (q_dp, .inl (cI, 8, .inl (dp))), (q_sh, .inl (cI, 5, .inl (aN sh))), (q_fd, .inl (cI, 5, .inl (aN fd)))] zs.heap := hP.sub [0, 1, 2, 3, 4, 5, 6, 7, 8] rfl
      refine z_ro (va_runV (As := [.int (nI v3)]) (rest := []) ⟨hx, hb, hml, hown, hts⟩ (k_X6_degreeOf q_md q_mt q_mb q_ml q_mr q_lo q_dp q_sh q_fd n t w r L r2 L2 a0 y0 lo dp cl sh fd v3 zh23) (cwV 1 hts gX6_isReady_X6_degreeOf rfl rfl rfl (by decide +kernel) ⟨Nat.le_of_ble_eq_true rfl, Nat.le_of_ble_eq_true rfl⟩) (zPr_V hZ hPc 0 rfl rfl) rfl rfl hl.1 rfl (lv_room (Nat.le_of_ble_eq_true rfl)) dX6_isReady_99 ⟨Nat.zero_le _, Nat.zero_le _⟩) (fun zr24 hzr24 => ?_)
      have ez := hzr24
      rw [ez]
      clear ez hzr24
      obtain ⟨zx25, ezx25⟩ : ∃ zx25 : Nat, zx25 = dg t v3 := ⟨_, rfl⟩
      replace hw := hw zx25 ezx25
      refine z_st (st' := [.int (nI zx25)]) (by rw [ezx25]) ?_
      refine lv_istore (lv' := [(4, .int (nI zx25)), (0, .ref q_md), (2, .int (bI v2)), (3, .int (nI v3))]) hx hb dX6_isReady_102 hl (by decide) rfl (fun ls hl => ?_)
      refine lv_iload_n hx hb dX6_isReady_104 rfl (lv_at hl 2 rfl) ?_
      obtain ⟨hwt, hwf⟩ := hw
      refine z_if_eqb hx hb (tgt := 125) dX6_isReady_105 (by decide) (fun cc => ?_) (fun cc => ?_)
      · replace hw := hwt cc
        refine lv_iconst (v := nI 0) hx hb dX6_isReady_125 (by decide +kernel) ?_
        refine lv_istore_n (lv' := [(2, .int (nI 0)), (4, .int (nI zx25)), (0, .ref q_md), (3, .int (nI v3))]) hx hb dX6_isReady_126 rfl hl (by decide) rfl (fun ls hl => ?_)
        refine lv_iconst (v := nI 0) hx hb dX6_isReady_127 (by decide +kernel) ?_
        refine lv_istore (lv' := [(5, .int (nI 0)), (2, .int (nI 0)), (4, .int (nI zx25)), (0, .ref q_md), (3, .int (nI v3))]) hx hb dX6_isReady_128 hl (by decide) rfl (fun ls hl => ?_)
        exact ((hX130 _ _ _ _).mp hw) ls (show lv_has ls 6 [(0, .ref q_md), (2, .int (bI false)), (3, .int (nI v3)), (4, .int (nI zx25)), (5, .int (nI 0))] from by exact lv_sub hl [3, 1, 4, 2, 0] rfl)
      · replace hw := hwf cc
        refine lv_iload hx hb dX6_isReady_108 (lv_at hl 0 rfl) ?_
        obtain ⟨zh26, hw⟩ := hw
        obtain ⟨hwt, hwf⟩ := hw
        refine z_if_gt hx hb zh26 (tgt := 121) dX6_isReady_110 (by decide) (fun cc => ?_) (fun cc => ?_)
        · replace hw := hwt cc
          refine lv_iconst (v := nI 1) hx hb dX6_isReady_121 (by decide +kernel) ?_
          refine lv_goto (tgt := 126) hx hb dX6_isReady_122 (by decide) ?_
          refine lv_istore_n (lv' := [(2, .int (nI 1)), (4, .int (nI zx25)), (0, .ref q_md), (3, .int (nI v3))]) hx hb dX6_isReady_126 rfl hl (by decide) rfl (fun ls hl => ?_)
          refine lv_iconst (v := nI 0) hx hb dX6_isReady_127 (by decide +kernel) ?_
          refine lv_istore (lv' := [(5, .int (nI 0)), (2, .int (nI 1)), (4, .int (nI zx25)), (0, .ref q_md), (3, .int (nI v3))]) hx hb dX6_isReady_128 hl (by decide) rfl (fun ls hl => ?_)
          exact ((hX130 _ _ _ _).mp hw) ls (show lv_has ls 6 [(0, .ref q_md), (2, .int (bI true)), (3, .int (nI v3)), (4, .int (nI zx25)), (5, .int (nI 0))] from by exact lv_sub hl [3, 1, 4, 2, 0] rfl)
        · replace hw := hwf cc
          refine lv_aload_n hx hb dX6_isReady_113 rfl (lv_at hl 1 rfl) ?_
          refine va_get (D := D) (ci := 6) (v := .int (nI n)) (C := RX6) (T := TX6) (N := 12) hx hb hts i_X6_isReady_X6 hown hZ.1 hP 0 rfl rfl 0 (by decide) (hts _ m_X6_isReady_f7) (fun _ h9 => h9) rfl dX6_isReady_114 ?_
          refine lv_iconst (v := nI 1) hx hb dX6_isReady_117 (by decide +kernel) ?_
          obtain ⟨zh27, hw⟩ := hw
          obtain ⟨hwt, hwf⟩ := hw
          refine z_icmp_ne hx hb zh27 (by decide) (tgt := 125) dX6_isReady_118 (by decide) (fun cc => ?_) (fun cc => ?_)
          · replace hw := hwt cc
            refine lv_iconst (v := nI 0) hx hb dX6_isReady_125 (by decide +kernel) ?_
            refine lv_istore_n (lv' := [(2, .int (nI 0)), (4, .int (nI zx25)), (0, .ref q_md), (3, .int (nI v3))]) hx hb dX6_isReady_126 rfl hl (by decide) rfl (fun ls hl => ?_)
            refine lv_iconst (v := nI 0) hx hb dX6_isReady_127 (by decide +kernel) ?_
            refine lv_istore (lv' := [(5, .int (nI 0)), (2, .int (nI 0)), (4, .int (nI zx25)), (0, .ref q_md), (3, .int (nI v3))]) hx hb dX6_isReady_128 hl (by decide) rfl (fun ls hl => ?_)
            exact ((hX130 _ _ _ _).mp hw) ls (show lv_has ls 6 [(0, .ref q_md), (2, .int (bI false)), (3, .int (nI v3)), (4, .int (nI zx25)), (5, .int (nI 0))] from by exact lv_sub hl [3, 1, 4, 2, 0] rfl)
          · replace hw := hwf cc
            refine lv_iconst (v := nI 1) hx hb dX6_isReady_121 (by decide +kernel) ?_
            refine lv_goto (tgt := 126) hx hb dX6_isReady_122 (by decide) ?_
            refine lv_istore_n (lv' := [(2, .int (nI 1)), (4, .int (nI zx25)), (0, .ref q_md), (3, .int (nI v3))]) hx hb dX6_isReady_126 rfl hl (by decide) rfl (fun ls hl => ?_)
            refine lv_iconst (v := nI 0) hx hb dX6_isReady_127 (by decide +kernel) ?_
            refine lv_istore (lv' := [(5, .int (nI 0)), (2, .int (nI 1)), (4, .int (nI zx25)), (0, .ref q_md), (3, .int (nI v3))]) hx hb dX6_isReady_128 hl (by decide) rfl (fun ls hl => ?_)
            exact ((hX130 _ _ _ _).mp hw) ls (show lv_has ls 6 [(0, .ref q_md), (2, .int (bI true)), (3, .int (nI v3)), (4, .int (nI zx25)), (5, .int (nI 0))] from by exact lv_sub hl [3, 1, 4, 2, 0] rfl)
  have b130 : ∀ (v2 : Bool) (v3 : Nat) (v4 : Nat) (v5 : Nat), B_X6_isReady_130 n t w r L r2 L2 a0 y0 lo dp cl sh fd X4 X14 X89 X130 v2 v3 v4 v5 → X130 v2 v3 v4 v5 := by
    intro v2 v3 v4 v5 hw
    rw [hX130]
    intro ls hl
    unfold B_X6_isReady_130 at hw
    refine lv_iload hx hb dX6_isReady_130 (lv_at hl 4 rfl) ?_
    refine lv_iload hx hb dX6_isReady_132 (lv_at hl 3 rfl) ?_
    obtain ⟨zh28, hw⟩ := hw
    obtain ⟨zh29, hw⟩ := hw
    obtain ⟨hwt, hwf⟩ := hw
    refine z_icmp_ge hx hb zh28 zh29 (tgt := 167) dX6_isReady_134 (by decide) (fun cc => ?_) (fun cc => ?_)
    · replace hw := hwt cc
      refine lv_iinc (v := nI (v3 + 1)) (lv' := [(3, .int (nI (v3 + 1))), (0, .ref q_md), (2, .int (bI v2)), (4, .int (nI v4)), (5, .int (nI v5))]) hx hb dX6_isReady_167 hl (k := 2) rfl (by rw [show Int32.ofInt 1 = nI 1 from by decide +kernel]; exact nI_add _ _) (by decide) rfl (fun ls hl => ?_)
      refine lv_goto (tgt := 89) hx hb dX6_isReady_170 (by decide) ?_
      exact ((hX89 _ _).mp hw) ls (lv_sub hl [1, 2, 0] rfl)
    · replace hw := hwf cc
      refine lv_iload_n hx hb dX6_isReady_137 rfl (lv_at hl 1 rfl) ?_
      obtain ⟨hwt, hwf⟩ := hw
      refine z_if_eqb hx hb (tgt := 159) dX6_isReady_138 (by decide) (fun cc => ?_) (fun cc => ?_)
      · replace hw := hwt cc
        refine lv_iconst (v := nI 0) hx hb dX6_isReady_159 (by decide +kernel) ?_
        refine lv_istore_n (lv' := [(2, .int (nI 0)), (0, .ref q_md), (3, .int (nI v3)), (4, .int (nI v4)), (5, .int (nI v5))]) hx hb dX6_isReady_160 rfl hl (by decide) rfl (fun ls hl => ?_)
        refine lv_iinc (v := nI (v5 + 1)) (lv' := [(5, .int (nI (v5 + 1))), (2, .int (nI 0)), (0, .ref q_md), (3, .int (nI v3)), (4, .int (nI v4))]) hx hb dX6_isReady_161 hl (k := 4) rfl (by rw [show Int32.ofInt 1 = nI 1 from by decide +kernel]; exact nI_add _ _) (by decide) rfl (fun ls hl => ?_)
        refine lv_goto (tgt := 130) hx hb dX6_isReady_164 (by decide) ?_
        exact ((hX130 _ _ _ _).mp hw) ls (show lv_has ls 6 [(0, .ref q_md), (2, .int (bI false)), (3, .int (nI v3)), (4, .int (nI v4)), (5, .int (nI (v5 + 1)))] from by exact lv_sub hl [2, 1, 3, 4, 0] rfl)
      · replace hw := hwf cc
        refine lv_aload_n hx hb dX6_isReady_141 rfl (lv_at hl 0 rfl) ?_
        refine va_get (D := D) (ci := 6) (v := .ref q_mt) (C := RX6) (T := TX6) (N := 12) hx hb hts i_X6_isReady_X6 hown hZ.1 hP 0 rfl rfl 1 (by decide) (hts _ m_X6_isReady_f13) (fun _ h9 => h9) rfl dX6_isReady_142 ?_
        refine lv_iconst (v := nI 4) hx hb dX6_isReady_145 (by decide +kernel) ?_
        refine lv_iload_n hx hb dX6_isReady_146 rfl (lv_at hl 2 rfl) ?_
        refine z_imul hx hb (pk_mul _ _) dX6_isReady_147 ?_
        refine lv_iload hx hb dX6_isReady_148 (lv_at hl 4 rfl) ?_
        refine z_iadd hx hb (nI_add _ _) dX6_isReady_150 ?_
        obtain ⟨zh30, hw⟩ := hw
        refine z_iald hx hb hZ.1 hP 1 0 rfl rfl zh30 (by decide) (v := aT t ((4 * v3) + v5)) rfl dX6_isReady_151 ?_
        obtain ⟨hwt, hwf⟩ := hw
        refine lv_if_lt hx hb (tgt := 159) dX6_isReady_152 (by decide) (fun cc => ?_) (fun cc => ?_)
        · replace hw := hwt cc
          refine lv_iconst (v := nI 0) hx hb dX6_isReady_159 (by decide +kernel) ?_
          refine lv_istore_n (lv' := [(2, .int (nI 0)), (0, .ref q_md), (3, .int (nI v3)), (4, .int (nI v4)), (5, .int (nI v5))]) hx hb dX6_isReady_160 rfl hl (by decide) rfl (fun ls hl => ?_)
          refine lv_iinc (v := nI (v5 + 1)) (lv' := [(5, .int (nI (v5 + 1))), (2, .int (nI 0)), (0, .ref q_md), (3, .int (nI v3)), (4, .int (nI v4))]) hx hb dX6_isReady_161 hl (k := 4) rfl (by rw [show Int32.ofInt 1 = nI 1 from by decide +kernel]; exact nI_add _ _) (by decide) rfl (fun ls hl => ?_)
          refine lv_goto (tgt := 130) hx hb dX6_isReady_164 (by decide) ?_
          exact ((hX130 _ _ _ _).mp hw) ls (show lv_has ls 6 [(0, .ref q_md), (2, .int (bI false)), (3, .int (nI v3)), (4, .int (nI v4)), (5, .int (nI (v5 + 1)))] from by exact lv_sub hl [2, 1, 3, 4, 0] rfl)
        · replace hw := hwf cc
          refine lv_iconst (v := nI 1) hx hb dX6_isReady_155 (by decide +kernel) ?_
          refine lv_goto (tgt := 160) hx hb dX6_isReady_156 (by decide) ?_
          refine lv_istore_n (lv' := [(2, .int (nI 1)), (0, .ref q_md), (3, .int (nI v3)), (4, .int (nI v4)), (5, .int (nI v5))]) hx hb dX6_isReady_160 rfl hl (by decide) rfl (fun ls hl => ?_)
          refine lv_iinc (v := nI (v5 + 1)) (lv' := [(5, .int (nI (v5 + 1))), (2, .int (nI 1)), (0, .ref q_md), (3, .int (nI v3)), (4, .int (nI v4))]) hx hb dX6_isReady_161 hl (k := 4) rfl (by rw [show Int32.ofInt 1 = nI 1 from by decide +kernel]; exact nI_add _ _) (by decide) rfl (fun ls hl => ?_)
          refine lv_goto (tgt := 130) hx hb dX6_isReady_164 (by decide) ?_
          exact ((hX130 _ _ _ _).mp hw) ls (show lv_has ls 6 [(0, .ref q_md), (2, .int (bI true)), (3, .int (nI v3)), (4, .int (nI v4)), (5, .int (nI (v5 + 1)))] from by exact lv_sub hl [2, 1, 3, 4, 0] rfl)
  have hw := vw X4 X14 X89 X130 b4 b14 b89 b130
  unfold B_X6_isReady_in at hw
  refine lv_iconst (v := nI 1) hx hb dX6_isReady_0 (by decide +kernel) ?_
  refine lv_istore_n (lv' := [(1, .int (nI 1)), (0, .ref q_md)]) hx hb dX6_isReady_1 rfl hl (by decide) rfl (fun ls hl => ?_)
  refine lv_iconst (v := nI 0) hx hb dX6_isReady_2 (by decide +kernel) ?_
  refine lv_istore_n (lv' := [(2, .int (nI 0)), (1, .int (nI 1)), (0, .ref q_md)]) hx hb dX6_isReady_3 rfl hl (by decide) rfl (fun ls hl => ?_)
  exact ((hX4 _ _).mp hw) ls (lv_sub hl [2, 1, 0] rfl)
set_option maxRecDepth 100000 in
set_option maxHeartbeats 4000000 in
theorem w_X6_ready {l : Launch} {D : va_G} {cI cZ : ClassId} (k_X6_isReady : K_X6_isReady l D cI cZ) (vv : V_X6_ready) : K_X6_ready l D cI cZ := by
  intro q_md q_mt q_mb q_ml q_mr q_lo q_dp q_sh q_fd n t w r L r2 L2 a0 y0 lo dp cl sh fd hpre0
  have vw := vv n t w r L r2 L2 a0 y0 lo dp cl sh fd hpre0
  refine Met.ofW (cc := cX6_ready) (maxL := 1) (ret := (some .int)) (by decide) rfl ?_
  intro zp ze zs zm zargs zbelow zmeth zc zs1 B hml hv
  obtain ⟨rfl, hZ, hP⟩ := hv
  have hx := B.exec
  have hb := B.bytes
  have hr := B.returns
  have hts := atoms_spec (ws := wsX6_ready) B.pre
  have hown : zs.vm.findClass RX6 = some zm.cls := findClass_of_methodNamed B.named
  have hlocks := B.notSynchronized
  have hP : va_P D vwCl [(q_md, .inr (6, [.int (nI n), .ref q_mt, .ref q_mb, .ref q_ml, .ref q_mr, .int (nI a0), .int (nI y0), .ref q_lo, .ref q_dp, .int (nI cl), .ref q_sh, .ref q_fd])), (q_mt, .inl (cI, 32, .inl (aT t))), (q_mb, .inl (cZ, 32, .inl (aB w))), (q_ml, .inl (cI, 2, .inl (aN (lnF L L2)))), (q_mr, .inl (cI, 80, .inl (aN (rwF r r2)))), (q_lo, .inl (cI, 8, .inl (lo))), (q_dp, .inl (cI, 8, .inl (dp))), (q_sh, .inl (cI, 5, .inl (aN sh))), (q_fd, .inl (cI, 5, .inl (aN fd)))] zs.heap := hP
  have hl := lv_entry ([.ref q_md]) (n := 1) (Nat.le_of_ble_eq_true rfl)
  rw [lg_entry_eq]
  generalize (lg_sl ([.ref q_md]) ++ List.replicate (1 - (lg_sl ([.ref q_md])).length) Slot.unset).toArray = ls at hl ⊢
  have hl : lv_has ls 1 [(0, .ref q_md)] := hl
  have hw := vw
  unfold B_X6_ready_in at hw
  refine lv_aload_n hx hb dX6_ready_0 rfl (lv_at hl 0 rfl) ?_
  obtain ⟨zh1, hw⟩ := hw
  have hPc : va_P D vwCl [(q_md, .inr (6, [.int (nI n), .ref q_mt, .ref q_mb, .ref q_ml, .ref q_mr, .int (nI a0), .int (nI y0), .ref q_lo, .ref q_dp, .int (nI cl), .ref q_sh, .ref q_fd])), (q_mt, .inl (cI, 32, .inl (aT t))), (q_mb, .inl (cZ, 32, .inl (aB w))), (q_ml, .inl (cI, 2, .inl (aN (lnF L L2)))), (q_mr, .inl (cI, 80, .inl (aN (rwF r r2)))), (q_lo, .inl (cI, 8, .inl (lo))), (q_dp, .inl (cI, 8, .inl (dp))), (q_sh, .inl (cI, 5, .inl (aN sh))), (q_fd, .inl (cI, 5, .inl (aN fd)))] zs.heap := hP.sub [0, 1, 2, 3, 4, 5, 6, 7, 8] rfl
  refine z_ro (va_runV (As := []) (rest := []) ⟨hx, hb, hml, hown, hts⟩ (k_X6_isReady q_md q_mt q_mb q_ml q_mr q_lo q_dp q_sh q_fd n t w r L r2 L2 a0 y0 lo dp cl sh fd zh1) (cwV 0 hts gX6_ready_X6_isReady rfl rfl rfl (by decide +kernel) ⟨Nat.le_of_ble_eq_true rfl, Nat.le_of_ble_eq_true rfl⟩) (zPr_V hZ hPc 0 rfl rfl) rfl rfl hl.1 rfl (lv_room (Nat.le_of_ble_eq_true rfl)) dX6_ready_1 ⟨Nat.zero_le _, Nat.zero_le _⟩) (fun zr2 hzr2 => ?_)
  have ez := hzr2
  rw [ez]
  clear ez hzr2
  obtain ⟨hwt, hwf⟩ := hw
  refine z_if_eqb hx hb (tgt := 11) dX6_ready_4 (by decide) (fun cc => ?_) (fun cc => ?_)
  · replace hw := hwt cc
    refine lv_iconst (v := nI 0) hx hb dX6_ready_11 (by decide +kernel) ?_
    have er := hw
    exact W.iret (v := nI 0) hx hb hr (fun t ht hW => ⟨_, rfl, er, ht⟩) (fun _ h => by cases h) dX6_ready_12
  · replace hw := hwf cc
    refine lv_iconst (v := nI 1) hx hb dX6_ready_7 (by decide +kernel) ?_
    refine lv_goto (tgt := 12) hx hb dX6_ready_8 (by decide) ?_
    have er := hw
    exact W.iret (v := nI 1) hx hb hr (fun t ht hW => ⟨_, rfl, er, ht⟩) (fun _ h => by cases h) dX6_ready_12
theorem m_X6_add_f21 : Cond.fieldLink RX6 21 "NetWalkersModel" "length" "[I" ∈ wsX6_add := by decide +kernel
theorem i_X6_add_X6 : ∀ w ∈ wsX60, w ∈ wsX6_add := by decide +kernel
theorem m_X6_add_f24 : Cond.fieldLink RX6 24 "NetWalkersModel" "row" "[I" ∈ wsX6_add := by decide +kernel
set_option maxRecDepth 100000 in
set_option maxHeartbeats 4000000 in
theorem w_X6_add {l : Launch} {D : va_G} {cI cZ : ClassId} (k_X6_in : K_X6_in l D cI cZ) (vv : V_X6_add) : K_X6_add l D cI cZ := by
  intro q_md q_mt q_mb q_ml q_mr q_lo q_dp q_sh q_fd sz n t w r L r2 L2 a0 y0 lo dp cl sh fd wh x hpre0 hpre1
  have vw := vv n t w r L r2 L2 a0 y0 lo dp cl sh fd wh x hpre0 hpre1
  refine Met.ofW (cc := cX6_add) (maxL := 3) (ret := (some .int)) (by decide) rfl ?_
  intro zp ze zs zm zargs zbelow zmeth zc zs1 B hml hv
  obtain ⟨rfl, hsz, hZ, hP, hD0⟩ := hv
  have hx := B.exec
  have hb := B.bytes
  have hr := B.returns
  have hts := atoms_spec (ws := wsX6_add) B.pre
  have hown : zs.vm.findClass RX6 = some zm.cls := findClass_of_methodNamed B.named
  have hlocks := B.notSynchronized
  subst hsz
  have hD := hD0.self (sz := zs.heap.size)
  generalize hAe : va_A [(q_md, .inr (6, [.int (nI n), .ref q_mt, .ref q_mb, .ref q_ml, .ref q_mr, .int (nI a0), .int (nI y0), .ref q_lo, .ref q_dp, .int (nI cl), .ref q_sh, .ref q_fd])), (q_mt, .inl (cI, 32, .inl (aT t))), (q_mb, .inl (cZ, 32, .inl (aB w))), (q_ml, .inl (cI, 2, .inl (aN (lnF L L2)))), (q_mr, .inl (cI, 80, .inl (aN (rwF r r2)))), (q_lo, .inl (cI, 8, .inl (lo))), (q_dp, .inl (cI, 8, .inl (dp))), (q_sh, .inl (cI, 5, .inl (aN sh))), (q_fd, .inl (cI, 5, .inl (aN fd)))] zs.heap.size = A at hD ⊢
  have hA : ∀ q : Nat, zs.heap.size ≤ q → A q := fun q h => by rw [← hAe]; exact Or.inr h
  have hS : va_S A zs.heap zs.heap [] := va_S.rf
  have hP : va_P D vwCl [(q_md, .inr (6, [.int (nI n), .ref q_mt, .ref q_mb, .ref q_ml, .ref q_mr, .int (nI a0), .int (nI y0), .ref q_lo, .ref q_dp, .int (nI cl), .ref q_sh, .ref q_fd])), (q_mt, .inl (cI, 32, .inl (aT t))), (q_mb, .inl (cZ, 32, .inl (aB w))), (q_ml, .inl (cI, 2, .inl (aN (lnF L L2)))), (q_mr, .inl (cI, 80, .inl (aN (rwF r r2)))), (q_lo, .inl (cI, 8, .inl (lo))), (q_dp, .inl (cI, 8, .inl (dp))), (q_sh, .inl (cI, 5, .inl (aN sh))), (q_fd, .inl (cI, 5, .inl (aN fd)))] zs.heap := hP
  have hl := lv_entry ([.ref q_md, .int wh, .int x]) (n := 3) (Nat.le_of_ble_eq_true rfl)
  rw [lg_entry_eq]
  generalize (lg_sl ([.ref q_md, .int wh, .int x]) ++ List.replicate (3 - (lg_sl ([.ref q_md, .int wh, .int x])).length) Slot.unset).toArray = ls at hl ⊢
  have hl : lv_has ls 3 [(0, .ref q_md), (1, .int wh), (2, .int x)] := hl
  have hw := vw
  unfold B_X6_add_in at hw
  refine lv_iload_n hx hb dX6_add_0 rfl (lv_at hl 1 rfl) ?_
  refine lv_iconst (v := nI 0) hx hb dX6_add_1 (by decide +kernel) ?_
  refine lv_iconst (v := nI 1) hx hb dX6_add_2 (by decide +kernel) ?_
  have hPc : va_P D vwCl [] zs.heap := hP.sub [] rfl
  refine z_ro (va_runS (As := [.int wh, .int (nI 0), .int (nI 1)]) (rest := []) ⟨hx, hb, hml, hown, hts⟩ (k_X6_in wh (nI 0) (nI 1)) (va_cwS 3 hts gX6_add_X6_in rfl rfl rfl (by decide +kernel) ⟨Nat.le_of_ble_eq_true rfl, Nat.le_of_ble_eq_true rfl⟩) (zPr_S hZ hPc) rfl rfl hl.1 rfl (lv_room (Nat.le_of_ble_eq_true rfl)) dX6_add_3 ⟨Nat.zero_le _, Nat.zero_le _⟩) (fun zr1 hzr1 => ?_)
  have ez := hzr1
  rw [ez]
  clear ez hzr1
  obtain ⟨hwt, hwf⟩ := hw
  refine z_if_eqb hx hb (tgt := 19) dX6_add_6 (by decide) (fun cc => ?_) (fun cc => ?_)
  · replace hw := hwt cc
    refine lv_bipush (v := (-2)) hx hb dX6_add_19 (by decide +kernel) ?_
    obtain ⟨er, ec_ml, ec_mr⟩ := hw
    have hP9 : va_P D vwCl [(q_md, .inr (6, [.int (nI n), .ref q_mt, .ref q_mb, .ref q_ml, .ref q_mr, .int (nI a0), .int (nI y0), .ref q_lo, .ref q_dp, .int (nI cl), .ref q_sh, .ref q_fd])), (q_mt, .inl (cI, 32, .inl (aT t))), (q_mb, .inl (cZ, 32, .inl (aB w))), (q_ml, .inl (cI, 2, .inl (aN (lnF L L2)))), (q_mr, .inl (cI, 80, .inl (aN (rwF r r2)))), (q_lo, .inl (cI, 8, .inl (lo))), (q_dp, .inl (cI, 8, .inl (dp))), (q_sh, .inl (cI, 5, .inl (aN sh))), (q_fd, .inl (cI, 5, .inl (aN fd)))] zs.heap := hP.sub [0, 1, 2, 3, 4, 5, 6, 7, 8] rfl
    have hD9 : va_D A [(q_md, .inr (6, [.int (nI n), .ref q_mt, .ref q_mb, .ref q_ml, .ref q_mr, .int (nI a0), .int (nI y0), .ref q_lo, .ref q_dp, .int (nI cl), .ref q_sh, .ref q_fd])), (q_mt, .inl (cI, 32, .inl (aT t))), (q_mb, .inl (cZ, 32, .inl (aB w))), (q_ml, .inl (cI, 2, .inl (aN (lnF L L2)))), (q_mr, .inl (cI, 80, .inl (aN (rwF r r2)))), (q_lo, .inl (cI, 8, .inl (lo))), (q_dp, .inl (cI, 8, .inl (dp))), (q_sh, .inl (cI, 5, .inl (aN sh))), (q_fd, .inl (cI, 5, .inl (aN fd)))] := hD.sub [0, 1, 2, 3, 4, 5, 6, 7, 8] (by decide) rfl
    have hP9 : va_P D vwCl [(q_md, .inr (6, [.int (nI n), .ref q_mt, .ref q_mb, .ref q_ml, .ref q_mr, .int (nI a0), .int (nI y0), .ref q_lo, .ref q_dp, .int (nI cl), .ref q_sh, .ref q_fd])), (q_mt, .inl (cI, 32, .inl (aT t))), (q_mb, .inl (cZ, 32, .inl (aB w))), (q_ml, .inl (cI, 2, .inl (aN (lnF (adL L wh x (nI 0)) (adL L2 wh x (nI 1)))))), (q_mr, .inl (cI, 80, .inl (aN (rwF r r2)))), (q_lo, .inl (cI, 8, .inl (lo))), (q_dp, .inl (cI, 8, .inl (dp))), (q_sh, .inl (cI, 5, .inl (aN sh))), (q_fd, .inl (cI, 5, .inl (aN fd)))] zs.heap := z_arr hP9 3 rfl (fun zi hi => congrArg nI (ec_ml zi hi))
    have hD9 : va_D A [(q_md, .inr (6, [.int (nI n), .ref q_mt, .ref q_mb, .ref q_ml, .ref q_mr, .int (nI a0), .int (nI y0), .ref q_lo, .ref q_dp, .int (nI cl), .ref q_sh, .ref q_fd])), (q_mt, .inl (cI, 32, .inl (aT t))), (q_mb, .inl (cZ, 32, .inl (aB w))), (q_ml, .inl (cI, 2, .inl (aN (lnF (adL L wh x (nI 0)) (adL L2 wh x (nI 1)))))), (q_mr, .inl (cI, 80, .inl (aN (rwF r r2)))), (q_lo, .inl (cI, 8, .inl (lo))), (q_dp, .inl (cI, 8, .inl (dp))), (q_sh, .inl (cI, 5, .inl (aN sh))), (q_fd, .inl (cI, 5, .inl (aN fd)))] := hD9.set (p := 3) (e := .inl (cI, 2, .inl (aN (lnF (adL L wh x (nI 0)) (adL L2 wh x (nI 1)))))) rfl
    have hP9 : va_P D vwCl [(q_md, .inr (6, [.int (nI n), .ref q_mt, .ref q_mb, .ref q_ml, .ref q_mr, .int (nI a0), .int (nI y0), .ref q_lo, .ref q_dp, .int (nI cl), .ref q_sh, .ref q_fd])), (q_mt, .inl (cI, 32, .inl (aT t))), (q_mb, .inl (cZ, 32, .inl (aB w))), (q_ml, .inl (cI, 2, .inl (aN (lnF (adL L wh x (nI 0)) (adL L2 wh x (nI 1)))))), (q_mr, .inl (cI, 80, .inl (aN (rwF (adR r L wh x (nI 0)) (adR r2 L2 wh x (nI 1)))))), (q_lo, .inl (cI, 8, .inl (lo))), (q_dp, .inl (cI, 8, .inl (dp))), (q_sh, .inl (cI, 5, .inl (aN sh))), (q_fd, .inl (cI, 5, .inl (aN fd)))] zs.heap := z_arr hP9 4 rfl (fun zi hi => congrArg nI (ec_mr zi hi))
    have hD9 : va_D A [(q_md, .inr (6, [.int (nI n), .ref q_mt, .ref q_mb, .ref q_ml, .ref q_mr, .int (nI a0), .int (nI y0), .ref q_lo, .ref q_dp, .int (nI cl), .ref q_sh, .ref q_fd])), (q_mt, .inl (cI, 32, .inl (aT t))), (q_mb, .inl (cZ, 32, .inl (aB w))), (q_ml, .inl (cI, 2, .inl (aN (lnF (adL L wh x (nI 0)) (adL L2 wh x (nI 1)))))), (q_mr, .inl (cI, 80, .inl (aN (rwF (adR r L wh x (nI 0)) (adR r2 L2 wh x (nI 1)))))), (q_lo, .inl (cI, 8, .inl (lo))), (q_dp, .inl (cI, 8, .inl (dp))), (q_sh, .inl (cI, 5, .inl (aN sh))), (q_fd, .inl (cI, 5, .inl (aN fd)))] := hD9.set (p := 4) (e := .inl (cI, 80, .inl (aN (rwF (adR r L wh x (nI 0)) (adR r2 L2 wh x (nI 1)))))) rfl
    exact W.iret (v := (-2)) hx hb hr (fun t ht hW => ⟨⟨_, (), rfl, er, by rw [ht]; exact hP9, hD9⟩, hS.F ht⟩) hS.2.2 dX6_add_21
  · replace hw := hwf cc
    refine lv_iload_n hx hb dX6_add_9 rfl (lv_at hl 2 rfl) ?_
    refine lv_iconst (v := nI 0) hx hb dX6_add_10 (by decide +kernel) ?_
    refine lv_bipush (v := nI 9) hx hb dX6_add_11 (by decide +kernel) ?_
    have hPc : va_P D vwCl [] zs.heap := hP.sub [] rfl
    refine z_ro (va_runS (As := [.int x, .int (nI 0), .int (nI 9)]) (rest := []) ⟨hx, hb, hml, hown, hts⟩ (k_X6_in x (nI 0) (nI 9)) (va_cwS 3 hts gX6_add_X6_in rfl rfl rfl (by decide +kernel) ⟨Nat.le_of_ble_eq_true rfl, Nat.le_of_ble_eq_true rfl⟩) (zPr_S hZ hPc) rfl rfl hl.1 rfl (lv_room (Nat.le_of_ble_eq_true rfl)) dX6_add_13 ⟨Nat.zero_le _, Nat.zero_le _⟩) (fun zr2 hzr2 => ?_)
    have ez := hzr2
    rw [ez]
    clear ez hzr2
    obtain ⟨hwt, hwf⟩ := hw
    refine z_if_neb hx hb (tgt := 22) dX6_add_16 (by decide) (fun cc => ?_) (fun cc => ?_)
    · replace hw := hwt cc
      refine lv_aload_n hx hb dX6_add_22 rfl (lv_at hl 0 rfl) ?_
      refine va_get (D := D) (ci := 6) (v := .ref q_ml) (C := RX6) (T := TX6) (N := 12) hx hb hts i_X6_add_X6 hown hZ.1 hP 0 rfl rfl 3 (by decide) (hts _ m_X6_add_f21) (fun _ h9 => h9) rfl dX6_add_23 ?_
      refine lv_iload_n hx hb dX6_add_26 rfl (lv_at hl 1 rfl) ?_
      obtain ⟨zk3, ezk3, hw⟩ := hw
      refine z_st (st' := [.int (nI zk3), .ref q_ml]) (by rw [ezk3]) ?_
      obtain ⟨zh4, hw⟩ := hw
      refine z_iald hx hb hZ.1 hP 3 0 rfl rfl zh4 (by decide) (v := nI ((lnF L L2) zk3)) rfl dX6_add_27 ?_
      refine lv_bipush (v := nI 40) hx hb dX6_add_28 (by decide +kernel) ?_
      obtain ⟨zh5, hw⟩ := hw
      obtain ⟨hwt, hwf⟩ := hw
      refine z_icmp_ne hx hb zh5 (by decide) (tgt := 36) dX6_add_30 (by decide) (fun cc => ?_) (fun cc => ?_)
      · replace hw := hwt cc
        refine lv_aload_n hx hb dX6_add_36 rfl (lv_at hl 0 rfl) ?_
        refine va_get (D := D) (ci := 6) (v := .ref q_mr) (C := RX6) (T := TX6) (N := 12) hx hb hts i_X6_add_X6 hown hZ.1 hP 0 rfl rfl 4 (by decide) (hts _ m_X6_add_f24) (fun _ h9 => h9) rfl dX6_add_37 ?_
        refine lv_bipush (v := nI 40) hx hb dX6_add_40 (by decide +kernel) ?_
        refine lv_iload_n hx hb dX6_add_42 rfl (lv_at hl 1 rfl) ?_
        refine z_imul hx hb rfl dX6_add_43 ?_
        refine lv_aload_n hx hb dX6_add_44 rfl (lv_at hl 0 rfl) ?_
        refine va_get (D := D) (ci := 6) (v := .ref q_ml) (C := RX6) (T := TX6) (N := 12) hx hb hts i_X6_add_X6 hown hZ.1 hP 0 rfl rfl 3 (by decide) (hts _ m_X6_add_f21) (fun _ h9 => h9) rfl dX6_add_45 ?_
        refine lv_iload_n hx hb dX6_add_48 rfl (lv_at hl 1 rfl) ?_
        obtain ⟨zk6, ezk6, hw⟩ := hw
        refine z_st (st' := [.int (nI zk6), .ref q_ml, .int ((nI 40) * wh), .ref q_mr]) (by rw [ezk6]) ?_
        obtain ⟨zh7, hw⟩ := hw
        refine z_iald hx hb hZ.1 hP 3 0 rfl rfl zh7 (by decide) (v := nI ((lnF L L2) zk6)) rfl dX6_add_49 ?_
        refine z_iadd hx hb rfl dX6_add_50 ?_
        refine lv_iload_n hx hb dX6_add_51 rfl (lv_at hl 2 rfl) ?_
        obtain ⟨zk8, ezk8, hw⟩ := hw
        refine z_st (st' := [.int x, .int (nI zk8), .ref q_mr]) (by rw [ezk8]) ?_
        obtain ⟨zh9, hw⟩ := hw
        refine z_iast hx hb hZ.1 hP hD hS 4 0 rfl rfl zh9 (by decide) (g := upd (aN (rwF r r2)) zk8 x) rfl dX6_add_52 (fun H locs hP hD hS => ?_)
        have hP : va_P D vwCl [(q_md, .inr (6, [.int (nI n), .ref q_mt, .ref q_mb, .ref q_ml, .ref q_mr, .int (nI a0), .int (nI y0), .ref q_lo, .ref q_dp, .int (nI cl), .ref q_sh, .ref q_fd])), (q_mt, .inl (cI, 32, .inl (aT t))), (q_mb, .inl (cZ, 32, .inl (aB w))), (q_ml, .inl (cI, 2, .inl (aN (lnF L L2)))), (q_mr, .inl (cI, 80, .inl (upd (aN (rwF r r2)) zk8 x))), (q_lo, .inl (cI, 8, .inl (lo))), (q_dp, .inl (cI, 8, .inl (dp))), (q_sh, .inl (cI, 5, .inl (aN sh))), (q_fd, .inl (cI, 5, .inl (aN fd)))] H := hP
        have hD : va_D A [(q_md, .inr (6, [.int (nI n), .ref q_mt, .ref q_mb, .ref q_ml, .ref q_mr, .int (nI a0), .int (nI y0), .ref q_lo, .ref q_dp, .int (nI cl), .ref q_sh, .ref q_fd])), (q_mt, .inl (cI, 32, .inl (aT t))), (q_mb, .inl (cZ, 32, .inl (aB w))), (q_ml, .inl (cI, 2, .inl (aN (lnF L L2)))), (q_mr, .inl (cI, 80, .inl (upd (aN (rwF r r2)) zk8 x))), (q_lo, .inl (cI, 8, .inl (lo))), (q_dp, .inl (cI, 8, .inl (dp))), (q_sh, .inl (cI, 5, .inl (aN sh))), (q_fd, .inl (cI, 5, .inl (aN fd)))] := hD
        refine lv_aload_n hx hb dX6_add_53 rfl (lv_at hl 0 rfl) ?_
        refine va_get (D := D) (ci := 6) (v := .ref q_ml) (C := RX6) (T := TX6) (N := 12) hx hb hts i_X6_add_X6 hown hZ.1 hP 0 rfl rfl 3 (by decide) (hts _ m_X6_add_f21) (fun _ h9 => h9) rfl dX6_add_54 ?_
        refine lv_iload_n hx hb dX6_add_57 rfl (lv_at hl 1 rfl) ?_
        refine lv_dup2_11 hx hb dX6_add_58 rfl rfl ?_
        obtain ⟨zk10, ezk10, hw⟩ := hw
        refine z_st (st' := [.int (nI zk10), .ref q_ml, .int wh, .ref q_ml]) (by rw [ezk10]) ?_
        obtain ⟨zh11, hw⟩ := hw
        refine z_iald hx hb hZ.1 hP 3 0 rfl rfl zh11 (by decide) (v := nI ((lnF L L2) zk10)) rfl dX6_add_59 ?_
        refine lv_iconst (v := nI 1) hx hb dX6_add_60 (by decide +kernel) ?_
        refine z_iadd hx hb (nI_add _ _) dX6_add_61 ?_
        obtain ⟨zk12, ezk12, hw⟩ := hw
        refine z_st (st' := [.int (nI (((lnF L L2) zk10) + 1)), .int (nI zk12), .ref q_ml]) (by rw [ezk12]) ?_
        obtain ⟨zh13, hw⟩ := hw
        refine z_iast hx hb hZ.1 hP hD hS 3 0 rfl rfl zh13 (by decide) (g := aN (upN (lnF L L2) zk12 (((lnF L L2) zk10) + 1))) (aN_up _ _ _) dX6_add_62 (fun H locs hP hD hS => ?_)
        have hP : va_P D vwCl [(q_md, .inr (6, [.int (nI n), .ref q_mt, .ref q_mb, .ref q_ml, .ref q_mr, .int (nI a0), .int (nI y0), .ref q_lo, .ref q_dp, .int (nI cl), .ref q_sh, .ref q_fd])), (q_mt, .inl (cI, 32, .inl (aT t))), (q_mb, .inl (cZ, 32, .inl (aB w))), (q_ml, .inl (cI, 2, .inl (aN (upN (lnF L L2) zk12 (((lnF L L2) zk10) + 1))))), (q_mr, .inl (cI, 80, .inl (upd (aN (rwF r r2)) zk8 x))), (q_lo, .inl (cI, 8, .inl (lo))), (q_dp, .inl (cI, 8, .inl (dp))), (q_sh, .inl (cI, 5, .inl (aN sh))), (q_fd, .inl (cI, 5, .inl (aN fd)))] H := hP
        have hD : va_D A [(q_md, .inr (6, [.int (nI n), .ref q_mt, .ref q_mb, .ref q_ml, .ref q_mr, .int (nI a0), .int (nI y0), .ref q_lo, .ref q_dp, .int (nI cl), .ref q_sh, .ref q_fd])), (q_mt, .inl (cI, 32, .inl (aT t))), (q_mb, .inl (cZ, 32, .inl (aB w))), (q_ml, .inl (cI, 2, .inl (aN (upN (lnF L L2) zk12 (((lnF L L2) zk10) + 1))))), (q_mr, .inl (cI, 80, .inl (upd (aN (rwF r r2)) zk8 x))), (q_lo, .inl (cI, 8, .inl (lo))), (q_dp, .inl (cI, 8, .inl (dp))), (q_sh, .inl (cI, 5, .inl (aN sh))), (q_fd, .inl (cI, 5, .inl (aN fd)))] := hD
        refine lv_aload_n hx hb dX6_add_63 rfl (lv_at hl 0 rfl) ?_
        refine va_get (D := D) (ci := 6) (v := .ref q_ml) (C := RX6) (T := TX6) (N := 12) hx hb hts i_X6_add_X6 hown hZ.1 hP 0 rfl rfl 3 (by decide) (hts _ m_X6_add_f21) (fun _ h9 => h9) rfl dX6_add_64 ?_
        refine lv_iload_n hx hb dX6_add_67 rfl (lv_at hl 1 rfl) ?_
        obtain ⟨zk14, ezk14, hw⟩ := hw
        refine z_st (st' := [.int (nI zk14), .ref q_ml]) (by rw [ezk14]) ?_
        obtain ⟨zh15, hw⟩ := hw
        refine z_iald hx hb hZ.1 hP 3 0 rfl rfl zh15 (by decide) (v := nI ((upN (lnF L L2) zk12 (((lnF L L2) zk10) + 1)) zk14)) rfl dX6_add_68 ?_
        obtain ⟨er, ec_ml, ec_mr⟩ := hw
        have hP9 : va_P D vwCl [(q_md, .inr (6, [.int (nI n), .ref q_mt, .ref q_mb, .ref q_ml, .ref q_mr, .int (nI a0), .int (nI y0), .ref q_lo, .ref q_dp, .int (nI cl), .ref q_sh, .ref q_fd])), (q_mt, .inl (cI, 32, .inl (aT t))), (q_mb, .inl (cZ, 32, .inl (aB w))), (q_ml, .inl (cI, 2, .inl (aN (upN (lnF L L2) zk12 (((lnF L L2) zk10) + 1))))), (q_mr, .inl (cI, 80, .inl (upd (aN (rwF r r2)) zk8 x))), (q_lo, .inl (cI, 8, .inl (lo))), (q_dp, .inl (cI, 8, .inl (dp))), (q_sh, .inl (cI, 5, .inl (aN sh))), (q_fd, .inl (cI, 5, .inl (aN fd)))] H := hP.sub [0, 1, 2, 3, 4, 5, 6, 7, 8] rfl
        have hD9 : va_D A [(q_md, .inr (6, [.int (nI n), .ref q_mt, .ref q_mb, .ref q_ml, .ref q_mr, .int (nI a0), .int (nI y0), .ref q_lo, .ref q_dp, .int (nI cl), .ref q_sh, .ref q_fd])), (q_mt, .inl (cI, 32, .inl (aT t))), (q_mb, .inl (cZ, 32, .inl (aB w))), (q_ml, .inl (cI, 2, .inl (aN (upN (lnF L L2) zk12 (((lnF L L2) zk10) + 1))))), (q_mr, .inl (cI, 80, .inl (upd (aN (rwF r r2)) zk8 x))), (q_lo, .inl (cI, 8, .inl (lo))), (q_dp, .inl (cI, 8, .inl (dp))), (q_sh, .inl (cI, 5, .inl (aN sh))), (q_fd, .inl (cI, 5, .inl (aN fd)))] := hD.sub [0, 1, 2, 3, 4, 5, 6, 7, 8] (by decide) rfl
        have hP9 : va_P D vwCl [(q_md, .inr (6, [.int (nI n), .ref q_mt, .ref q_mb, .ref q_ml, .ref q_mr, .int (nI a0), .int (nI y0), .ref q_lo, .ref q_dp, .int (nI cl), .ref q_sh, .ref q_fd])), (q_mt, .inl (cI, 32, .inl (aT t))), (q_mb, .inl (cZ, 32, .inl (aB w))), (q_ml, .inl (cI, 2, .inl (aN (lnF (adL L wh x (nI 0)) (adL L2 wh x (nI 1)))))), (q_mr, .inl (cI, 80, .inl (upd (aN (rwF r r2)) zk8 x))), (q_lo, .inl (cI, 8, .inl (lo))), (q_dp, .inl (cI, 8, .inl (dp))), (q_sh, .inl (cI, 5, .inl (aN sh))), (q_fd, .inl (cI, 5, .inl (aN fd)))] H := z_arr hP9 3 rfl (fun zi hi => congrArg nI (ec_ml zi hi))
        have hD9 : va_D A [(q_md, .inr (6, [.int (nI n), .ref q_mt, .ref q_mb, .ref q_ml, .ref q_mr, .int (nI a0), .int (nI y0), .ref q_lo, .ref q_dp, .int (nI cl), .ref q_sh, .ref q_fd])), (q_mt, .inl (cI, 32, .inl (aT t))), (q_mb, .inl (cZ, 32, .inl (aB w))), (q_ml, .inl (cI, 2, .inl (aN (lnF (adL L wh x (nI 0)) (adL L2 wh x (nI 1)))))), (q_mr, .inl (cI, 80, .inl (upd (aN (rwF r r2)) zk8 x))), (q_lo, .inl (cI, 8, .inl (lo))), (q_dp, .inl (cI, 8, .inl (dp))), (q_sh, .inl (cI, 5, .inl (aN sh))), (q_fd, .inl (cI, 5, .inl (aN fd)))] := hD9.set (p := 3) (e := .inl (cI, 2, .inl (aN (lnF (adL L wh x (nI 0)) (adL L2 wh x (nI 1)))))) rfl
        have hP9 : va_P D vwCl [(q_md, .inr (6, [.int (nI n), .ref q_mt, .ref q_mb, .ref q_ml, .ref q_mr, .int (nI a0), .int (nI y0), .ref q_lo, .ref q_dp, .int (nI cl), .ref q_sh, .ref q_fd])), (q_mt, .inl (cI, 32, .inl (aT t))), (q_mb, .inl (cZ, 32, .inl (aB w))), (q_ml, .inl (cI, 2, .inl (aN (lnF (adL L wh x (nI 0)) (adL L2 wh x (nI 1)))))), (q_mr, .inl (cI, 80, .inl (aN (rwF (adR r L wh x (nI 0)) (adR r2 L2 wh x (nI 1)))))), (q_lo, .inl (cI, 8, .inl (lo))), (q_dp, .inl (cI, 8, .inl (dp))), (q_sh, .inl (cI, 5, .inl (aN sh))), (q_fd, .inl (cI, 5, .inl (aN fd)))] H := z_arr hP9 4 rfl ec_mr
        have hD9 : va_D A [(q_md, .inr (6, [.int (nI n), .ref q_mt, .ref q_mb, .ref q_ml, .ref q_mr, .int (nI a0), .int (nI y0), .ref q_lo, .ref q_dp, .int (nI cl), .ref q_sh, .ref q_fd])), (q_mt, .inl (cI, 32, .inl (aT t))), (q_mb, .inl (cZ, 32, .inl (aB w))), (q_ml, .inl (cI, 2, .inl (aN (lnF (adL L wh x (nI 0)) (adL L2 wh x (nI 1)))))), (q_mr, .inl (cI, 80, .inl (aN (rwF (adR r L wh x (nI 0)) (adR r2 L2 wh x (nI 1)))))), (q_lo, .inl (cI, 8, .inl (lo))), (q_dp, .inl (cI, 8, .inl (dp))), (q_sh, .inl (cI, 5, .inl (aN sh))), (q_fd, .inl (cI, 5, .inl (aN fd)))] := hD9.set (p := 4) (e := .inl (cI, 80, .inl (aN (rwF (adR r L wh x (nI 0)) (adR r2 L2 wh x (nI 1)))))) rfl
        exact W.iret (v := nI ((upN (lnF L L2) zk12 (((lnF L L2) zk10) + 1)) zk14)) hx hb hr (fun t ht hW => ⟨⟨_, (), rfl, er, by rw [ht]; exact hP9, hD9⟩, hS.F ht⟩) hS.2.2 dX6_add_69
      · replace hw := hwf cc
        refine lv_bipush (v := (-4)) hx hb dX6_add_33 (by decide +kernel) ?_
        obtain ⟨er, ec_ml, ec_mr⟩ := hw
        have hP9 : va_P D vwCl [(q_md, .inr (6, [.int (nI n), .ref q_mt, .ref q_mb, .ref q_ml, .ref q_mr, .int (nI a0), .int (nI y0), .ref q_lo, .ref q_dp, .int (nI cl), .ref q_sh, .ref q_fd])), (q_mt, .inl (cI, 32, .inl (aT t))), (q_mb, .inl (cZ, 32, .inl (aB w))), (q_ml, .inl (cI, 2, .inl (aN (lnF L L2)))), (q_mr, .inl (cI, 80, .inl (aN (rwF r r2)))), (q_lo, .inl (cI, 8, .inl (lo))), (q_dp, .inl (cI, 8, .inl (dp))), (q_sh, .inl (cI, 5, .inl (aN sh))), (q_fd, .inl (cI, 5, .inl (aN fd)))] zs.heap := hP.sub [0, 1, 2, 3, 4, 5, 6, 7, 8] rfl
        have hD9 : va_D A [(q_md, .inr (6, [.int (nI n), .ref q_mt, .ref q_mb, .ref q_ml, .ref q_mr, .int (nI a0), .int (nI y0), .ref q_lo, .ref q_dp, .int (nI cl), .ref q_sh, .ref q_fd])), (q_mt, .inl (cI, 32, .inl (aT t))), (q_mb, .inl (cZ, 32, .inl (aB w))), (q_ml, .inl (cI, 2, .inl (aN (lnF L L2)))), (q_mr, .inl (cI, 80, .inl (aN (rwF r r2)))), (q_lo, .inl (cI, 8, .inl (lo))), (q_dp, .inl (cI, 8, .inl (dp))), (q_sh, .inl (cI, 5, .inl (aN sh))), (q_fd, .inl (cI, 5, .inl (aN fd)))] := hD.sub [0, 1, 2, 3, 4, 5, 6, 7, 8] (by decide) rfl
        have hP9 : va_P D vwCl [(q_md, .inr (6, [.int (nI n), .ref q_mt, .ref q_mb, .ref q_ml, .ref q_mr, .int (nI a0), .int (nI y0), .ref q_lo, .ref q_dp, .int (nI cl), .ref q_sh, .ref q_fd])), (q_mt, .inl (cI, 32, .inl (aT t))), (q_mb, .inl (cZ, 32, .inl (aB w))), (q_ml, .inl (cI, 2, .inl (aN (lnF (adL L wh x (nI 0)) (adL L2 wh x (nI 1)))))), (q_mr, .inl (cI, 80, .inl (aN (rwF r r2)))), (q_lo, .inl (cI, 8, .inl (lo))), (q_dp, .inl (cI, 8, .inl (dp))), (q_sh, .inl (cI, 5, .inl (aN sh))), (q_fd, .inl (cI, 5, .inl (aN fd)))] zs.heap := z_arr hP9 3 rfl (fun zi hi => congrArg nI (ec_ml zi hi))
        have hD9 : va_D A [(q_md, .inr (6, [.int (nI n), .ref q_mt, .ref q_mb, .ref q_ml, .ref q_mr, .int (nI a0), .int (nI y0), .ref q_lo, .ref q_dp, .int (nI cl), .ref q_sh, .ref q_fd])), (q_mt, .inl (cI, 32, .inl (aT t))), (q_mb, .inl (cZ, 32, .inl (aB w))), (q_ml, .inl (cI, 2, .inl (aN (lnF (adL L wh x (nI 0)) (adL L2 wh x (nI 1)))))), (q_mr, .inl (cI, 80, .inl (aN (rwF r r2)))), (q_lo, .inl (cI, 8, .inl (lo))), (q_dp, .inl (cI, 8, .inl (dp))), (q_sh, .inl (cI, 5, .inl (aN sh))), (q_fd, .inl (cI, 5, .inl (aN fd)))] := hD9.set (p := 3) (e := .inl (cI, 2, .inl (aN (lnF (adL L wh x (nI 0)) (adL L2 wh x (nI 1)))))) rfl
        have hP9 : va_P D vwCl [(q_md, .inr (6, [.int (nI n), .ref q_mt, .ref q_mb, .ref q_ml, .ref q_mr, .int (nI a0), .int (nI y0), .ref q_lo, .ref q_dp, .int (nI cl), .ref q_sh, .ref q_fd])), (q_mt, .inl (cI, 32, .inl (aT t))), (q_mb, .inl (cZ, 32, .inl (aB w))), (q_ml, .inl (cI, 2, .inl (aN (lnF (adL L wh x (nI 0)) (adL L2 wh x (nI 1)))))), (q_mr, .inl (cI, 80, .inl (aN (rwF (adR r L wh x (nI 0)) (adR r2 L2 wh x (nI 1)))))), (q_lo, .inl (cI, 8, .inl (lo))), (q_dp, .inl (cI, 8, .inl (dp))), (q_sh, .inl (cI, 5, .inl (aN sh))), (q_fd, .inl (cI, 5, .inl (aN fd)))] zs.heap := z_arr hP9 4 rfl (fun zi hi => congrArg nI (ec_mr zi hi))
        have hD9 : va_D A [(q_md, .inr (6, [.int (nI n), .ref q_mt, .ref q_mb, .ref q_ml, .ref q_mr, .int (nI a0), .int (nI y0), .ref q_lo, .ref q_dp, .int (nI cl), .ref q_sh, .ref q_fd])), (q_mt, .inl (cI, 32, .inl (aT t))), (q_mb, .inl (cZ, 32, .inl (aB w))), (q_ml, .inl (cI, 2, .inl (aN (lnF (adL L wh x (nI 0)) (adL L2 wh x (nI 1)))))), (q_mr, .inl (cI, 80, .inl (aN (rwF (adR r L wh x (nI 0)) (adR r2 L2 wh x (nI 1)))))), (q_lo, .inl (cI, 8, .inl (lo))), (q_dp, .inl (cI, 8, .inl (dp))), (q_sh, .inl (cI, 5, .inl (aN sh))), (q_fd, .inl (cI, 5, .inl (aN fd)))] := hD9.set (p := 4) (e := .inl (cI, 80, .inl (aN (rwF (adR r L wh x (nI 0)) (adR r2 L2 wh x (nI 1)))))) rfl
        exact W.iret (v := (-4)) hx hb hr (fun t ht hW => ⟨⟨_, (), rfl, er, by rw [ht]; exact hP9, hD9⟩, hS.F ht⟩) hS.2.2 dX6_add_35
    · replace hw := hwf cc
      refine lv_bipush (v := (-2)) hx hb dX6_add_19 (by decide +kernel) ?_
      obtain ⟨er, ec_ml, ec_mr⟩ := hw
      have hP9 : va_P D vwCl [(q_md, .inr (6, [.int (nI n), .ref q_mt, .ref q_mb, .ref q_ml, .ref q_mr, .int (nI a0), .int (nI y0), .ref q_lo, .ref q_dp, .int (nI cl), .ref q_sh, .ref q_fd])), (q_mt, .inl (cI, 32, .inl (aT t))), (q_mb, .inl (cZ, 32, .inl (aB w))), (q_ml, .inl (cI, 2, .inl (aN (lnF L L2)))), (q_mr, .inl (cI, 80, .inl (aN (rwF r r2)))), (q_lo, .inl (cI, 8, .inl (lo))), (q_dp, .inl (cI, 8, .inl (dp))), (q_sh, .inl (cI, 5, .inl (aN sh))), (q_fd, .inl (cI, 5, .inl (aN fd)))] zs.heap := hP.sub [0, 1, 2, 3, 4, 5, 6, 7, 8] rfl
      have hD9 : va_D A [(q_md, .inr (6, [.int (nI n), .ref q_mt, .ref q_mb, .ref q_ml, .ref q_mr, .int (nI a0), .int (nI y0), .ref q_lo, .ref q_dp, .int (nI cl), .ref q_sh, .ref q_fd])), (q_mt, .inl (cI, 32, .inl (aT t))), (q_mb, .inl (cZ, 32, .inl (aB w))), (q_ml, .inl (cI, 2, .inl (aN (lnF L L2)))), (q_mr, .inl (cI, 80, .inl (aN (rwF r r2)))), (q_lo, .inl (cI, 8, .inl (lo))), (q_dp, .inl (cI, 8, .inl (dp))), (q_sh, .inl (cI, 5, .inl (aN sh))), (q_fd, .inl (cI, 5, .inl (aN fd)))] := hD.sub [0, 1, 2, 3, 4, 5, 6, 7, 8] (by decide) rfl
      have hP9 : va_P D vwCl [(q_md, .inr (6, [.int (nI n), .ref q_mt, .ref q_mb, .ref q_ml, .ref q_mr, .int (nI a0), .int (nI y0), .ref q_lo, .ref q_dp, .int (nI cl), .ref q_sh, .ref q_fd])), (q_mt, .inl (cI, 32, .inl (aT t))), (q_mb, .inl (cZ, 32, .inl (aB w))), (q_ml, .inl (cI, 2, .inl (aN (lnF (adL L wh x (nI 0)) (adL L2 wh x (nI 1)))))), (q_mr, .inl (cI, 80, .inl (aN (rwF r r2)))), (q_lo, .inl (cI, 8, .inl (lo))), (q_dp, .inl (cI, 8, .inl (dp))), (q_sh, .inl (cI, 5, .inl (aN sh))), (q_fd, .inl (cI, 5, .inl (aN fd)))] zs.heap := z_arr hP9 3 rfl (fun zi hi => congrArg nI (ec_ml zi hi))
      have hD9 : va_D A [(q_md, .inr (6, [.int (nI n), .ref q_mt, .ref q_mb, .ref q_ml, .ref q_mr, .int (nI a0), .int (nI y0), .ref q_lo, .ref q_dp, .int (nI cl), .ref q_sh, .ref q_fd])), (q_mt, .inl (cI, 32, .inl (aT t))), (q_mb, .inl (cZ, 32, .inl (aB w))), (q_ml, .inl (cI, 2, .inl (aN (lnF (adL L wh x (nI 0)) (adL L2 wh x (nI 1)))))), (q_mr, .inl (cI, 80, .inl (aN (rwF r r2)))), (q_lo, .inl (cI, 8, .inl (lo))), (q_dp, .inl (cI, 8, .inl (dp))), (q_sh, .inl (cI, 5, .inl (aN sh))), (q_fd, .inl (cI, 5, .inl (aN fd)))] := hD9.set (p := 3) (e := .inl (cI, 2, .inl (aN (lnF (adL L wh x (nI 0)) (adL L2 wh x (nI 1)))))) rfl
      have hP9 : va_P D vwCl [(q_md, .inr (6, [.int (nI n), .ref q_mt, .ref q_mb, .ref q_ml, .ref q_mr, .int (nI a0), .int (nI y0), .ref q_lo, .ref q_dp, .int (nI cl), .ref q_sh, .ref q_fd])), (q_mt, .inl (cI, 32, .inl (aT t))), (q_mb, .inl (cZ, 32, .inl (aB w))), (q_ml, .inl (cI, 2, .inl (aN (lnF (adL L wh x (nI 0)) (adL L2 wh x (nI 1)))))), (q_mr, .inl (cI, 80, .inl (aN (rwF (adR r L wh x (nI 0)) (adR r2 L2 wh x (nI 1)))))), (q_lo, .inl (cI, 8, .inl (lo))), (q_dp, .inl (cI, 8, .inl (dp))), (q_sh, .inl (cI, 5, .inl (aN sh))), (q_fd, .inl (cI, 5, .inl (aN fd)))] zs.heap := z_arr hP9 4 rfl (fun zi hi => congrArg nI (ec_mr zi hi))
      have hD9 : va_D A [(q_md, .inr (6, [.int (nI n), .ref q_mt, .ref q_mb, .ref q_ml, .ref q_mr, .int (nI a0), .int (nI y0), .ref q_lo, .ref q_dp, .int (nI cl), .ref q_sh, .ref q_fd])), (q_mt, .inl (cI, 32, .inl (aT t))), (q_mb, .inl (cZ, 32, .inl (aB w))), (q_ml, .inl (cI, 2, .inl (aN (lnF (adL L wh x (nI 0)) (adL L2 wh x (nI 1)))))), (q_mr, .inl (cI, 80, .inl (aN (rwF (adR r L wh x (nI 0)) (adR r2 L2 wh x (nI 1)))))), (q_lo, .inl (cI, 8, .inl (lo))), (q_dp, .inl (cI, 8, .inl (dp))), (q_sh, .inl (cI, 5, .inl (aN sh))), (q_fd, .inl (cI, 5, .inl (aN fd)))] := hD9.set (p := 4) (e := .inl (cI, 80, .inl (aN (rwF (adR r L wh x (nI 0)) (adR r2 L2 wh x (nI 1)))))) rfl
      exact W.iret (v := (-2)) hx hb hr (fun t ht hW => ⟨⟨_, (), rfl, er, by rw [ht]; exact hP9, hD9⟩, hS.F ht⟩) hS.2.2 dX6_add_21
theorem m_X6_clear_f21 : Cond.fieldLink RX6 21 "NetWalkersModel" "length" "[I" ∈ wsX6_clear := by decide +kernel
theorem i_X6_clear_X6 : ∀ w ∈ wsX60, w ∈ wsX6_clear := by decide +kernel
set_option maxRecDepth 100000 in
set_option maxHeartbeats 4000000 in
theorem w_X6_clear {l : Launch} {D : va_G} {cI cZ : ClassId} (k_X6_in : K_X6_in l D cI cZ) (vv : V_X6_clear) : K_X6_clear l D cI cZ := by
  intro q_md q_mt q_mb q_ml q_mr q_lo q_dp q_sh q_fd sz n t w r L r2 L2 a0 y0 lo dp cl sh fd wh
  have vw := vv n t w r L r2 L2 a0 y0 lo dp cl sh fd wh
  refine Met.ofW (cc := cX6_clear) (maxL := 3) (ret := (some .int)) (by decide) rfl ?_
  intro zp ze zs zm zargs zbelow zmeth zc zs1 B hml hv
  obtain ⟨rfl, hsz, hZ, hP, hD0⟩ := hv
  have hx := B.exec
  have hb := B.bytes
  have hr := B.returns
  have hts := atoms_spec (ws := wsX6_clear) B.pre
  have hown : zs.vm.findClass RX6 = some zm.cls := findClass_of_methodNamed B.named
  have hlocks := B.notSynchronized
  subst hsz
  have hD := hD0.self (sz := zs.heap.size)
  generalize hAe : va_A [(q_md, .inr (6, [.int (nI n), .ref q_mt, .ref q_mb, .ref q_ml, .ref q_mr, .int (nI a0), .int (nI y0), .ref q_lo, .ref q_dp, .int (nI cl), .ref q_sh, .ref q_fd])), (q_mt, .inl (cI, 32, .inl (aT t))), (q_mb, .inl (cZ, 32, .inl (aB w))), (q_ml, .inl (cI, 2, .inl (aN (lnF L L2)))), (q_mr, .inl (cI, 80, .inl (aN (rwF r r2)))), (q_lo, .inl (cI, 8, .inl (lo))), (q_dp, .inl (cI, 8, .inl (dp))), (q_sh, .inl (cI, 5, .inl (aN sh))), (q_fd, .inl (cI, 5, .inl (aN fd)))] zs.heap.size = A at hD ⊢
  have hA : ∀ q : Nat, zs.heap.size ≤ q → A q := fun q h => by rw [← hAe]; exact Or.inr h
  have hS : va_S A zs.heap zs.heap [] := va_S.rf
  have hP : va_P D vwCl [(q_md, .inr (6, [.int (nI n), .ref q_mt, .ref q_mb, .ref q_ml, .ref q_mr, .int (nI a0), .int (nI y0), .ref q_lo, .ref q_dp, .int (nI cl), .ref q_sh, .ref q_fd])), (q_mt, .inl (cI, 32, .inl (aT t))), (q_mb, .inl (cZ, 32, .inl (aB w))), (q_ml, .inl (cI, 2, .inl (aN (lnF L L2)))), (q_mr, .inl (cI, 80, .inl (aN (rwF r r2)))), (q_lo, .inl (cI, 8, .inl (lo))), (q_dp, .inl (cI, 8, .inl (dp))), (q_sh, .inl (cI, 5, .inl (aN sh))), (q_fd, .inl (cI, 5, .inl (aN fd)))] zs.heap := hP
  have hl := lv_entry ([.ref q_md, .int wh]) (n := 3) (Nat.le_of_ble_eq_true rfl)
  rw [lg_entry_eq]
  generalize (lg_sl ([.ref q_md, .int wh]) ++ List.replicate (3 - (lg_sl ([.ref q_md, .int wh])).length) Slot.unset).toArray = ls at hl ⊢
  have hl : lv_has ls 3 [(0, .ref q_md), (1, .int wh)] := hl
  have hw := vw
  unfold B_X6_clear_in at hw
  refine lv_iload_n hx hb dX6_clear_0 rfl (lv_at hl 1 rfl) ?_
  refine lv_iconst (v := nI 0) hx hb dX6_clear_1 (by decide +kernel) ?_
  refine lv_iconst (v := nI 1) hx hb dX6_clear_2 (by decide +kernel) ?_
  have hPc : va_P D vwCl [] zs.heap := hP.sub [] rfl
  refine z_ro (va_runS (As := [.int wh, .int (nI 0), .int (nI 1)]) (rest := []) ⟨hx, hb, hml, hown, hts⟩ (k_X6_in wh (nI 0) (nI 1)) (va_cwS 3 hts gX6_clear_X6_in rfl rfl rfl (by decide +kernel) ⟨Nat.le_of_ble_eq_true rfl, Nat.le_of_ble_eq_true rfl⟩) (zPr_S hZ hPc) rfl rfl hl.1 rfl (lv_room (Nat.le_of_ble_eq_true rfl)) dX6_clear_3 ⟨Nat.zero_le _, Nat.zero_le _⟩) (fun zr1 hzr1 => ?_)
  have ez := hzr1
  rw [ez]
  clear ez hzr1
  obtain ⟨hwt, hwf⟩ := hw
  refine z_if_neb hx hb (tgt := 12) dX6_clear_6 (by decide) (fun cc => ?_) (fun cc => ?_)
  · replace hw := hwt cc
    refine lv_aload_n hx hb dX6_clear_12 rfl (lv_at hl 0 rfl) ?_
    refine va_get (D := D) (ci := 6) (v := .ref q_ml) (C := RX6) (T := TX6) (N := 12) hx hb hts i_X6_clear_X6 hown hZ.1 hP 0 rfl rfl 3 (by decide) (hts _ m_X6_clear_f21) (fun _ h9 => h9) rfl dX6_clear_13 ?_
    refine lv_iload_n hx hb dX6_clear_16 rfl (lv_at hl 1 rfl) ?_
    obtain ⟨zk2, ezk2, hw⟩ := hw
    refine z_st (st' := [.int (nI zk2), .ref q_ml]) (by rw [ezk2]) ?_
    obtain ⟨zh3, hw⟩ := hw
    refine z_iald hx hb hZ.1 hP 3 0 rfl rfl zh3 (by decide) (v := nI ((lnF L L2) zk2)) rfl dX6_clear_17 ?_
    obtain ⟨zx4, ezx4⟩ : ∃ zx4 : Nat, zx4 = (lnF L L2) zk2 := ⟨_, rfl⟩
    replace hw := hw zx4 ezx4
    refine z_st (st' := [.int (nI zx4)]) (by rw [ezx4]) ?_
    refine lv_istore_n (lv' := [(2, .int (nI zx4)), (0, .ref q_md), (1, .int wh)]) hx hb dX6_clear_18 rfl hl (by decide) rfl (fun ls hl => ?_)
    refine lv_aload_n hx hb dX6_clear_19 rfl (lv_at hl 1 rfl) ?_
    refine va_get (D := D) (ci := 6) (v := .ref q_ml) (C := RX6) (T := TX6) (N := 12) hx hb hts i_X6_clear_X6 hown hZ.1 hP 0 rfl rfl 3 (by decide) (hts _ m_X6_clear_f21) (fun _ h9 => h9) rfl dX6_clear_20 ?_
    refine lv_iload_n hx hb dX6_clear_23 rfl (lv_at hl 2 rfl) ?_
    refine lv_iconst (v := nI 0) hx hb dX6_clear_24 (by decide +kernel) ?_
    obtain ⟨zk5, ezk5, hw⟩ := hw
    refine z_st (st' := [.int (nI 0), .int (nI zk5), .ref q_ml]) (by rw [ezk5]) ?_
    obtain ⟨zh6, hw⟩ := hw
    refine z_iast hx hb hZ.1 hP hD hS 3 0 rfl rfl zh6 (by decide) (g := aN (upN (lnF L L2) zk5 0)) (aN_up _ _ _) dX6_clear_25 (fun H locs hP hD hS => ?_)
    have hP : va_P D vwCl [(q_md, .inr (6, [.int (nI n), .ref q_mt, .ref q_mb, .ref q_ml, .ref q_mr, .int (nI a0), .int (nI y0), .ref q_lo, .ref q_dp, .int (nI cl), .ref q_sh, .ref q_fd])), (q_mt, .inl (cI, 32, .inl (aT t))), (q_mb, .inl (cZ, 32, .inl (aB w))), (q_ml, .inl (cI, 2, .inl (aN (upN (lnF L L2) zk5 0)))), (q_mr, .inl (cI, 80, .inl (aN (rwF r r2)))), (q_lo, .inl (cI, 8, .inl (lo))), (q_dp, .inl (cI, 8, .inl (dp))), (q_sh, .inl (cI, 5, .inl (aN sh))), (q_fd, .inl (cI, 5, .inl (aN fd)))] H := hP
    have hD : va_D A [(q_md, .inr (6, [.int (nI n), .ref q_mt, .ref q_mb, .ref q_ml, .ref q_mr, .int (nI a0), .int (nI y0), .ref q_lo, .ref q_dp, .int (nI cl), .ref q_sh, .ref q_fd])), (q_mt, .inl (cI, 32, .inl (aT t))), (q_mb, .inl (cZ, 32, .inl (aB w))), (q_ml, .inl (cI, 2, .inl (aN (upN (lnF L L2) zk5 0)))), (q_mr, .inl (cI, 80, .inl (aN (rwF r r2)))), (q_lo, .inl (cI, 8, .inl (lo))), (q_dp, .inl (cI, 8, .inl (dp))), (q_sh, .inl (cI, 5, .inl (aN sh))), (q_fd, .inl (cI, 5, .inl (aN fd)))] := hD
    refine lv_iload_n hx hb dX6_clear_26 rfl (lv_at hl 0 rfl) ?_
    obtain ⟨er, ec_ml⟩ := hw
    have hP9 : va_P D vwCl [(q_md, .inr (6, [.int (nI n), .ref q_mt, .ref q_mb, .ref q_ml, .ref q_mr, .int (nI a0), .int (nI y0), .ref q_lo, .ref q_dp, .int (nI cl), .ref q_sh, .ref q_fd])), (q_mt, .inl (cI, 32, .inl (aT t))), (q_mb, .inl (cZ, 32, .inl (aB w))), (q_ml, .inl (cI, 2, .inl (aN (upN (lnF L L2) zk5 0)))), (q_mr, .inl (cI, 80, .inl (aN (rwF r r2)))), (q_lo, .inl (cI, 8, .inl (lo))), (q_dp, .inl (cI, 8, .inl (dp))), (q_sh, .inl (cI, 5, .inl (aN sh))), (q_fd, .inl (cI, 5, .inl (aN fd)))] H := hP.sub [0, 1, 2, 3, 4, 5, 6, 7, 8] rfl
    have hD9 : va_D A [(q_md, .inr (6, [.int (nI n), .ref q_mt, .ref q_mb, .ref q_ml, .ref q_mr, .int (nI a0), .int (nI y0), .ref q_lo, .ref q_dp, .int (nI cl), .ref q_sh, .ref q_fd])), (q_mt, .inl (cI, 32, .inl (aT t))), (q_mb, .inl (cZ, 32, .inl (aB w))), (q_ml, .inl (cI, 2, .inl (aN (upN (lnF L L2) zk5 0)))), (q_mr, .inl (cI, 80, .inl (aN (rwF r r2)))), (q_lo, .inl (cI, 8, .inl (lo))), (q_dp, .inl (cI, 8, .inl (dp))), (q_sh, .inl (cI, 5, .inl (aN sh))), (q_fd, .inl (cI, 5, .inl (aN fd)))] := hD.sub [0, 1, 2, 3, 4, 5, 6, 7, 8] (by decide) rfl
    have hP9 : va_P D vwCl [(q_md, .inr (6, [.int (nI n), .ref q_mt, .ref q_mb, .ref q_ml, .ref q_mr, .int (nI a0), .int (nI y0), .ref q_lo, .ref q_dp, .int (nI cl), .ref q_sh, .ref q_fd])), (q_mt, .inl (cI, 32, .inl (aT t))), (q_mb, .inl (cZ, 32, .inl (aB w))), (q_ml, .inl (cI, 2, .inl (aN (lnF (clL L wh (nI 0)) (clL L2 wh (nI 1)))))), (q_mr, .inl (cI, 80, .inl (aN (rwF r r2)))), (q_lo, .inl (cI, 8, .inl (lo))), (q_dp, .inl (cI, 8, .inl (dp))), (q_sh, .inl (cI, 5, .inl (aN sh))), (q_fd, .inl (cI, 5, .inl (aN fd)))] H := z_arr hP9 3 rfl (fun zi hi => congrArg nI (ec_ml zi hi))
    have hD9 : va_D A [(q_md, .inr (6, [.int (nI n), .ref q_mt, .ref q_mb, .ref q_ml, .ref q_mr, .int (nI a0), .int (nI y0), .ref q_lo, .ref q_dp, .int (nI cl), .ref q_sh, .ref q_fd])), (q_mt, .inl (cI, 32, .inl (aT t))), (q_mb, .inl (cZ, 32, .inl (aB w))), (q_ml, .inl (cI, 2, .inl (aN (lnF (clL L wh (nI 0)) (clL L2 wh (nI 1)))))), (q_mr, .inl (cI, 80, .inl (aN (rwF r r2)))), (q_lo, .inl (cI, 8, .inl (lo))), (q_dp, .inl (cI, 8, .inl (dp))), (q_sh, .inl (cI, 5, .inl (aN sh))), (q_fd, .inl (cI, 5, .inl (aN fd)))] := hD9.set (p := 3) (e := .inl (cI, 2, .inl (aN (lnF (clL L wh (nI 0)) (clL L2 wh (nI 1)))))) rfl
    exact W.iret (v := nI zx4) hx hb hr (fun t ht hW => ⟨⟨_, (), rfl, er, by rw [ht]; exact hP9, hD9⟩, hS.F ht⟩) hS.2.2 dX6_clear_27
  · replace hw := hwf cc
    refine lv_bipush (v := (-2)) hx hb dX6_clear_9 (by decide +kernel) ?_
    obtain ⟨er, ec_ml⟩ := hw
    have hP9 : va_P D vwCl [(q_md, .inr (6, [.int (nI n), .ref q_mt, .ref q_mb, .ref q_ml, .ref q_mr, .int (nI a0), .int (nI y0), .ref q_lo, .ref q_dp, .int (nI cl), .ref q_sh, .ref q_fd])), (q_mt, .inl (cI, 32, .inl (aT t))), (q_mb, .inl (cZ, 32, .inl (aB w))), (q_ml, .inl (cI, 2, .inl (aN (lnF L L2)))), (q_mr, .inl (cI, 80, .inl (aN (rwF r r2)))), (q_lo, .inl (cI, 8, .inl (lo))), (q_dp, .inl (cI, 8, .inl (dp))), (q_sh, .inl (cI, 5, .inl (aN sh))), (q_fd, .inl (cI, 5, .inl (aN fd)))] zs.heap := hP.sub [0, 1, 2, 3, 4, 5, 6, 7, 8] rfl
    have hD9 : va_D A [(q_md, .inr (6, [.int (nI n), .ref q_mt, .ref q_mb, .ref q_ml, .ref q_mr, .int (nI a0), .int (nI y0), .ref q_lo, .ref q_dp, .int (nI cl), .ref q_sh, .ref q_fd])), (q_mt, .inl (cI, 32, .inl (aT t))), (q_mb, .inl (cZ, 32, .inl (aB w))), (q_ml, .inl (cI, 2, .inl (aN (lnF L L2)))), (q_mr, .inl (cI, 80, .inl (aN (rwF r r2)))), (q_lo, .inl (cI, 8, .inl (lo))), (q_dp, .inl (cI, 8, .inl (dp))), (q_sh, .inl (cI, 5, .inl (aN sh))), (q_fd, .inl (cI, 5, .inl (aN fd)))] := hD.sub [0, 1, 2, 3, 4, 5, 6, 7, 8] (by decide) rfl
    have hP9 : va_P D vwCl [(q_md, .inr (6, [.int (nI n), .ref q_mt, .ref q_mb, .ref q_ml, .ref q_mr, .int (nI a0), .int (nI y0), .ref q_lo, .ref q_dp, .int (nI cl), .ref q_sh, .ref q_fd])), (q_mt, .inl (cI, 32, .inl (aT t))), (q_mb, .inl (cZ, 32, .inl (aB w))), (q_ml, .inl (cI, 2, .inl (aN (lnF (clL L wh (nI 0)) (clL L2 wh (nI 1)))))), (q_mr, .inl (cI, 80, .inl (aN (rwF r r2)))), (q_lo, .inl (cI, 8, .inl (lo))), (q_dp, .inl (cI, 8, .inl (dp))), (q_sh, .inl (cI, 5, .inl (aN sh))), (q_fd, .inl (cI, 5, .inl (aN fd)))] zs.heap := z_arr hP9 3 rfl (fun zi hi => congrArg nI (ec_ml zi hi))
    have hD9 : va_D A [(q_md, .inr (6, [.int (nI n), .ref q_mt, .ref q_mb, .ref q_ml, .ref q_mr, .int (nI a0), .int (nI y0), .ref q_lo, .ref q_dp, .int (nI cl), .ref q_sh, .ref q_fd])), (q_mt, .inl (cI, 32, .inl (aT t))), (q_mb, .inl (cZ, 32, .inl (aB w))), (q_ml, .inl (cI, 2, .inl (aN (lnF (clL L wh (nI 0)) (clL L2 wh (nI 1)))))), (q_mr, .inl (cI, 80, .inl (aN (rwF r r2)))), (q_lo, .inl (cI, 8, .inl (lo))), (q_dp, .inl (cI, 8, .inl (dp))), (q_sh, .inl (cI, 5, .inl (aN sh))), (q_fd, .inl (cI, 5, .inl (aN fd)))] := hD9.set (p := 3) (e := .inl (cI, 2, .inl (aN (lnF (clL L wh (nI 0)) (clL L2 wh (nI 1)))))) rfl
    exact W.iret (v := (-2)) hx hb hr (fun t ht hW => ⟨⟨_, (), rfl, er, by rw [ht]; exact hP9, hD9⟩, hS.F ht⟩) hS.2.2 dX6_clear_11
theorem m_X6_go_f72 : Cond.fieldLink RX6 72 "NetWalkersModel" "at" "I" ∈ wsX6_go := by decide +kernel
theorem i_X6_go_X6 : ∀ w ∈ wsX60, w ∈ wsX6_go := by decide +kernel
theorem m_X6_go_f17 : Cond.fieldLink RX6 17 "NetWalkersModel" "isBad" "[Z" ∈ wsX6_go := by decide +kernel
theorem m_X6_go_f13 : Cond.fieldLink RX6 13 "NetWalkersModel" "to" "[I" ∈ wsX6_go := by decide +kernel
theorem m_X6_go_f75 : Cond.fieldLink RX6 75 "NetWalkersModel" "by" "I" ∈ wsX6_go := by decide +kernel
set_option maxRecDepth 100000 in
set_option maxHeartbeats 4000000 in
theorem w_X6_go {l : Launch} {D : va_G} {cI cZ : ClassId} (vv : V_X6_go) : K_X6_go l D cI cZ := by
  intro q_md q_mt q_mb q_ml q_mr q_lo q_dp q_sh q_fd sz n t w r L r2 L2 a0 y0 lo dp cl sh fd d hpre0 hpre1 hpre2
  have vw := vv n t w r L r2 L2 a0 y0 lo dp cl sh fd d hpre0 hpre1 hpre2
  refine Met.ofW (cc := cX6_go) (maxL := 4) (ret := none) (by decide) rfl ?_
  intro zp ze zs zm zargs zbelow zmeth zc zs1 B hml hv
  obtain ⟨rfl, hsz, hZ, hP, hD0⟩ := hv
  have hx := B.exec
  have hb := B.bytes
  have hr := B.returns
  have hts := atoms_spec (ws := wsX6_go) B.pre
  have hown : zs.vm.findClass RX6 = some zm.cls := findClass_of_methodNamed B.named
  have hlocks := B.notSynchronized
  subst hsz
  have hD := hD0.self (sz := zs.heap.size)
  generalize hAe : va_A [(q_md, .inr (6, [.int (nI n), .ref q_mt, .ref q_mb, .ref q_ml, .ref q_mr, .int (nI a0), .int (nI y0), .ref q_lo, .ref q_dp, .int (nI cl), .ref q_sh, .ref q_fd])), (q_mt, .inl (cI, 32, .inl (aT t))), (q_mb, .inl (cZ, 32, .inl (aB w))), (q_ml, .inl (cI, 2, .inl (aN (lnF L L2)))), (q_mr, .inl (cI, 80, .inl (aN (rwF r r2)))), (q_lo, .inl (cI, 8, .inl (lo))), (q_dp, .inl (cI, 8, .inl (dp))), (q_sh, .inl (cI, 5, .inl (aN sh))), (q_fd, .inl (cI, 5, .inl (aN fd)))] zs.heap.size = A at hD ⊢
  have hA : ∀ q : Nat, zs.heap.size ≤ q → A q := fun q h => by rw [← hAe]; exact Or.inr h
  have hS : va_S A zs.heap zs.heap [] := va_S.rf
  have hP : va_P D vwCl [(q_md, .inr (6, [.int (nI n), .ref q_mt, .ref q_mb, .ref q_ml, .ref q_mr, .int (nI a0), .int (nI y0), .ref q_lo, .ref q_dp, .int (nI cl), .ref q_sh, .ref q_fd])), (q_mt, .inl (cI, 32, .inl (aT t))), (q_mb, .inl (cZ, 32, .inl (aB w))), (q_ml, .inl (cI, 2, .inl (aN (lnF L L2)))), (q_mr, .inl (cI, 80, .inl (aN (rwF r r2)))), (q_lo, .inl (cI, 8, .inl (lo))), (q_dp, .inl (cI, 8, .inl (dp))), (q_sh, .inl (cI, 5, .inl (aN sh))), (q_fd, .inl (cI, 5, .inl (aN fd)))] zs.heap := hP
  have hl := lv_entry ([.ref q_md, .int (nI d)]) (n := 4) (Nat.le_of_ble_eq_true rfl)
  rw [lg_entry_eq]
  generalize (lg_sl ([.ref q_md, .int (nI d)]) ++ List.replicate (4 - (lg_sl ([.ref q_md, .int (nI d)])).length) Slot.unset).toArray = ls at hl ⊢
  have hl : lv_has ls 4 [(0, .ref q_md), (1, .int (nI d))] := hl
  have hw := vw
  unfold B_X6_go_in at hw
  refine lv_iconst (v := nI 4) hx hb dX6_go_0 (by decide +kernel) ?_
  refine lv_aload_n hx hb dX6_go_1 rfl (lv_at hl 0 rfl) ?_
  refine va_get (D := D) (ci := 6) (v := .int (nI a0)) (C := RX6) (T := TX6) (N := 12) hx hb hts i_X6_go_X6 hown hZ.1 hP 0 rfl rfl 5 (by decide) (hts _ m_X6_go_f72) (fun _ h9 => h9) rfl dX6_go_2 ?_
  refine z_imul hx hb (pk_mul _ _) dX6_go_5 ?_
  refine lv_iload_n hx hb dX6_go_6 rfl (lv_at hl 1 rfl) ?_
  refine z_iadd hx hb (nI_add _ _) dX6_go_7 ?_
  obtain ⟨zx1, ezx1⟩ : ∃ zx1 : Nat, zx1 = (4 * a0) + d := ⟨_, rfl⟩
  replace hw := hw zx1 ezx1
  refine z_st (st' := [.int (nI zx1)]) (by rw [ezx1]) ?_
  refine lv_istore_n (lv' := [(2, .int (nI zx1)), (0, .ref q_md), (1, .int (nI d))]) hx hb dX6_go_8 rfl hl (by decide) rfl (fun ls hl => ?_)
  refine lv_aload_n hx hb dX6_go_9 rfl (lv_at hl 1 rfl) ?_
  refine va_get (D := D) (ci := 6) (v := .ref q_mb) (C := RX6) (T := TX6) (N := 12) hx hb hts i_X6_go_X6 hown hZ.1 hP 0 rfl rfl 2 (by decide) (hts _ m_X6_go_f17) (fun _ h9 => h9) rfl dX6_go_10 ?_
  refine lv_iload_n hx hb dX6_go_13 rfl (lv_at hl 0 rfl) ?_
  obtain ⟨zh2, hw⟩ := hw
  refine z_zald hx hb hZ.1 hP 2 1 rfl rfl zh2 (by decide) (v := bI (w zx1)) rfl dX6_go_14 ?_
  obtain ⟨hwt, hwf⟩ := hw
  refine z_if_eqb hx hb (tgt := 22) dX6_go_15 (by decide) (fun cc => ?_) (fun cc => ?_)
  · replace hw := hwt cc
    refine lv_aload_n hx hb dX6_go_22 rfl (lv_at hl 1 rfl) ?_
    refine va_get (D := D) (ci := 6) (v := .ref q_mt) (C := RX6) (T := TX6) (N := 12) hx hb hts i_X6_go_X6 hown hZ.1 hP 0 rfl rfl 1 (by decide) (hts _ m_X6_go_f13) (fun _ h9 => h9) rfl dX6_go_23 ?_
    refine lv_iload_n hx hb dX6_go_26 rfl (lv_at hl 0 rfl) ?_
    obtain ⟨zh3, hw⟩ := hw
    refine z_iald hx hb hZ.1 hP 1 0 rfl rfl zh3 (by decide) (v := aT t zx1) rfl dX6_go_27 ?_
    obtain ⟨zx4, ezx4⟩ : ∃ zx4 : Int32, zx4 = aT t zx1 := ⟨_, rfl⟩
    replace hw := hw zx4 ezx4
    refine z_st (st' := [.int zx4]) (by rw [ezx4]) ?_
    refine lv_istore_n (lv' := [(3, .int zx4), (2, .int (nI zx1)), (0, .ref q_md), (1, .int (nI d))]) hx hb dX6_go_28 rfl hl (by decide) rfl (fun ls hl => ?_)
    refine lv_aload_n hx hb dX6_go_29 rfl (lv_at hl 2 rfl) ?_
    refine lv_iload_n hx hb dX6_go_30 rfl (lv_at hl 0 rfl) ?_
    refine lv_iconst (v := nI 4) hx hb dX6_go_31 (by decide +kernel) ?_
    obtain ⟨zk5, ezk5, hw⟩ := hw
    refine z_st (st' := [.int (nI 4), .int (nI zk5), .ref q_md]) (by rw [ezk5]) ?_
    obtain ⟨zh6, hw⟩ := hw
    refine z_idiv hx hb (n_nz (by decide) (by decide)) (n_div zh6 (by decide) (by decide)) dX6_go_32 ?_
    refine va_put (D := D) (ci := 6) (v := .int (nI (zk5 / 4))) (ty := .int) (C := RX6) (T := TX6) (N := 12) hx hb hts i_X6_go_X6 tyX6 tyX6_ok nmX6 hown hZ.1 hP hD hS 0 rfl rfl 5 (by decide) (hts _ m_X6_go_f72) (fun _ h9 => h9) rfl (by decide +kernel) rfl rfl (Nat.le_of_ble_eq_true rfl) dX6_go_33 (fun H locs hP hD hS => ?_)
    have hP : va_P D vwCl [(q_md, .inr (6, [.int (nI n), .ref q_mt, .ref q_mb, .ref q_ml, .ref q_mr, .int (nI (zk5 / 4)), .int (nI y0), .ref q_lo, .ref q_dp, .int (nI cl), .ref q_sh, .ref q_fd])), (q_mt, .inl (cI, 32, .inl (aT t))), (q_mb, .inl (cZ, 32, .inl (aB w))), (q_ml, .inl (cI, 2, .inl (aN (lnF L L2)))), (q_mr, .inl (cI, 80, .inl (aN (rwF r r2)))), (q_lo, .inl (cI, 8, .inl (lo))), (q_dp, .inl (cI, 8, .inl (dp))), (q_sh, .inl (cI, 5, .inl (aN sh))), (q_fd, .inl (cI, 5, .inl (aN fd)))] H := hP
    have hD : va_D A [(q_md, .inr (6, [.int (nI n), .ref q_mt, .ref q_mb, .ref q_ml, .ref q_mr, .int (nI (zk5 / 4)), .int (nI y0), .ref q_lo, .ref q_dp, .int (nI cl), .ref q_sh, .ref q_fd])), (q_mt, .inl (cI, 32, .inl (aT t))), (q_mb, .inl (cZ, 32, .inl (aB w))), (q_ml, .inl (cI, 2, .inl (aN (lnF L L2)))), (q_mr, .inl (cI, 80, .inl (aN (rwF r r2)))), (q_lo, .inl (cI, 8, .inl (lo))), (q_dp, .inl (cI, 8, .inl (dp))), (q_sh, .inl (cI, 5, .inl (aN sh))), (q_fd, .inl (cI, 5, .inl (aN fd)))] := hD
    refine lv_aload_n hx hb dX6_go_36 rfl (lv_at hl 2 rfl) ?_
    refine lv_iload_n hx hb dX6_go_37 rfl (lv_at hl 0 rfl) ?_
    refine lv_iconst (v := nI 4) hx hb dX6_go_38 (by decide +kernel) ?_
    obtain ⟨zk7, ezk7, hw⟩ := hw
    refine z_st (st' := [.int (nI 4), .int (nI zk7), .ref q_md]) (by rw [ezk7]) ?_
    obtain ⟨zh8, hw⟩ := hw
    refine z_irem hx hb (n_nz (by decide) (by decide)) (n_rem zh8 (by decide) (by decide)) dX6_go_39 ?_
    refine va_put (D := D) (ci := 6) (v := .int (nI (zk7 % 4))) (ty := .int) (C := RX6) (T := TX6) (N := 12) hx hb hts i_X6_go_X6 tyX6 tyX6_ok nmX6 hown hZ.1 hP hD hS 0 rfl rfl 6 (by decide) (hts _ m_X6_go_f75) (fun _ h9 => h9) rfl (by decide +kernel) rfl rfl (Nat.le_of_ble_eq_true rfl) dX6_go_40 (fun H locs hP hD hS => ?_)
    have hP : va_P D vwCl [(q_md, .inr (6, [.int (nI n), .ref q_mt, .ref q_mb, .ref q_ml, .ref q_mr, .int (nI (zk5 / 4)), .int (nI (zk7 % 4)), .ref q_lo, .ref q_dp, .int (nI cl), .ref q_sh, .ref q_fd])), (q_mt, .inl (cI, 32, .inl (aT t))), (q_mb, .inl (cZ, 32, .inl (aB w))), (q_ml, .inl (cI, 2, .inl (aN (lnF L L2)))), (q_mr, .inl (cI, 80, .inl (aN (rwF r r2)))), (q_lo, .inl (cI, 8, .inl (lo))), (q_dp, .inl (cI, 8, .inl (dp))), (q_sh, .inl (cI, 5, .inl (aN sh))), (q_fd, .inl (cI, 5, .inl (aN fd)))] H := hP
    have hD : va_D A [(q_md, .inr (6, [.int (nI n), .ref q_mt, .ref q_mb, .ref q_ml, .ref q_mr, .int (nI (zk5 / 4)), .int (nI (zk7 % 4)), .ref q_lo, .ref q_dp, .int (nI cl), .ref q_sh, .ref q_fd])), (q_mt, .inl (cI, 32, .inl (aT t))), (q_mb, .inl (cZ, 32, .inl (aB w))), (q_ml, .inl (cI, 2, .inl (aN (lnF L L2)))), (q_mr, .inl (cI, 80, .inl (aN (rwF r r2)))), (q_lo, .inl (cI, 8, .inl (lo))), (q_dp, .inl (cI, 8, .inl (dp))), (q_sh, .inl (cI, 5, .inl (aN sh))), (q_fd, .inl (cI, 5, .inl (aN fd)))] := hD
    obtain ⟨ec_ma, ec_my⟩ := hw
    have hP9 : va_P D vwCl [(q_md, .inr (6, [.int (nI n), .ref q_mt, .ref q_mb, .ref q_ml, .ref q_mr, .int (nI (zk5 / 4)), .int (nI (zk7 % 4)), .ref q_lo, .ref q_dp, .int (nI cl), .ref q_sh, .ref q_fd])), (q_mt, .inl (cI, 32, .inl (aT t))), (q_mb, .inl (cZ, 32, .inl (aB w))), (q_ml, .inl (cI, 2, .inl (aN (lnF L L2)))), (q_mr, .inl (cI, 80, .inl (aN (rwF r r2)))), (q_lo, .inl (cI, 8, .inl (lo))), (q_dp, .inl (cI, 8, .inl (dp))), (q_sh, .inl (cI, 5, .inl (aN sh))), (q_fd, .inl (cI, 5, .inl (aN fd)))] H := hP.sub [0, 1, 2, 3, 4, 5, 6, 7, 8] rfl
    have hD9 : va_D A [(q_md, .inr (6, [.int (nI n), .ref q_mt, .ref q_mb, .ref q_ml, .ref q_mr, .int (nI (zk5 / 4)), .int (nI (zk7 % 4)), .ref q_lo, .ref q_dp, .int (nI cl), .ref q_sh, .ref q_fd])), (q_mt, .inl (cI, 32, .inl (aT t))), (q_mb, .inl (cZ, 32, .inl (aB w))), (q_ml, .inl (cI, 2, .inl (aN (lnF L L2)))), (q_mr, .inl (cI, 80, .inl (aN (rwF r r2)))), (q_lo, .inl (cI, 8, .inl (lo))), (q_dp, .inl (cI, 8, .inl (dp))), (q_sh, .inl (cI, 5, .inl (aN sh))), (q_fd, .inl (cI, 5, .inl (aN fd)))] := hD.sub [0, 1, 2, 3, 4, 5, 6, 7, 8] (by decide) rfl
    have hP9 : va_P D vwCl [(q_md, .inr (6, [.int (nI n), .ref q_mt, .ref q_mb, .ref q_ml, .ref q_mr, .int (nI (thr t w (4 * a0 + d) / 4)), .int (nI (zk7 % 4)), .ref q_lo, .ref q_dp, .int (nI cl), .ref q_sh, .ref q_fd])), (q_mt, .inl (cI, 32, .inl (aT t))), (q_mb, .inl (cZ, 32, .inl (aB w))), (q_ml, .inl (cI, 2, .inl (aN (lnF L L2)))), (q_mr, .inl (cI, 80, .inl (aN (rwF r r2)))), (q_lo, .inl (cI, 8, .inl (lo))), (q_dp, .inl (cI, 8, .inl (dp))), (q_sh, .inl (cI, 5, .inl (aN sh))), (q_fd, .inl (cI, 5, .inl (aN fd)))] H := (congrArg (fun z9 : Nat => va_P D vwCl [(q_md, .inr (6, [.int (nI n), .ref q_mt, .ref q_mb, .ref q_ml, .ref q_mr, .int (nI z9), .int (nI (zk7 % 4)), .ref q_lo, .ref q_dp, .int (nI cl), .ref q_sh, .ref q_fd])), (q_mt, .inl (cI, 32, .inl (aT t))), (q_mb, .inl (cZ, 32, .inl (aB w))), (q_ml, .inl (cI, 2, .inl (aN (lnF L L2)))), (q_mr, .inl (cI, 80, .inl (aN (rwF r r2)))), (q_lo, .inl (cI, 8, .inl (lo))), (q_dp, .inl (cI, 8, .inl (dp))), (q_sh, .inl (cI, 5, .inl (aN sh))), (q_fd, .inl (cI, 5, .inl (aN fd)))] H) ec_ma).mp hP9
    have hD9 : va_D A [(q_md, .inr (6, [.int (nI n), .ref q_mt, .ref q_mb, .ref q_ml, .ref q_mr, .int (nI (thr t w (4 * a0 + d) / 4)), .int (nI (zk7 % 4)), .ref q_lo, .ref q_dp, .int (nI cl), .ref q_sh, .ref q_fd])), (q_mt, .inl (cI, 32, .inl (aT t))), (q_mb, .inl (cZ, 32, .inl (aB w))), (q_ml, .inl (cI, 2, .inl (aN (lnF L L2)))), (q_mr, .inl (cI, 80, .inl (aN (rwF r r2)))), (q_lo, .inl (cI, 8, .inl (lo))), (q_dp, .inl (cI, 8, .inl (dp))), (q_sh, .inl (cI, 5, .inl (aN sh))), (q_fd, .inl (cI, 5, .inl (aN fd)))] := (congrArg (fun z9 : Nat => va_D A [(q_md, .inr (6, [.int (nI n), .ref q_mt, .ref q_mb, .ref q_ml, .ref q_mr, .int (nI z9), .int (nI (zk7 % 4)), .ref q_lo, .ref q_dp, .int (nI cl), .ref q_sh, .ref q_fd])), (q_mt, .inl (cI, 32, .inl (aT t))), (q_mb, .inl (cZ, 32, .inl (aB w))), (q_ml, .inl (cI, 2, .inl (aN (lnF L L2)))), (q_mr, .inl (cI, 80, .inl (aN (rwF r r2)))), (q_lo, .inl (cI, 8, .inl (lo))), (q_dp, .inl (cI, 8, .inl (dp))), (q_sh, .inl (cI, 5, .inl (aN sh))), (q_fd, .inl (cI, 5, .inl (aN fd)))]) ec_ma).mp hD9
    have hP9 : va_P D vwCl [(q_md, .inr (6, [.int (nI n), .ref q_mt, .ref q_mb, .ref q_ml, .ref q_mr, .int (nI (thr t w (4 * a0 + d) / 4)), .int (nI (thr t w (4 * a0 + d) % 4)), .ref q_lo, .ref q_dp, .int (nI cl), .ref q_sh, .ref q_fd])), (q_mt, .inl (cI, 32, .inl (aT t))), (q_mb, .inl (cZ, 32, .inl (aB w))), (q_ml, .inl (cI, 2, .inl (aN (lnF L L2)))), (q_mr, .inl (cI, 80, .inl (aN (rwF r r2)))), (q_lo, .inl (cI, 8, .inl (lo))), (q_dp, .inl (cI, 8, .inl (dp))), (q_sh, .inl (cI, 5, .inl (aN sh))), (q_fd, .inl (cI, 5, .inl (aN fd)))] H := (congrArg (fun z9 : Nat => va_P D vwCl [(q_md, .inr (6, [.int (nI n), .ref q_mt, .ref q_mb, .ref q_ml, .ref q_mr, .int (nI (thr t w (4 * a0 + d) / 4)), .int (nI z9), .ref q_lo, .ref q_dp, .int (nI cl), .ref q_sh, .ref q_fd])), (q_mt, .inl (cI, 32, .inl (aT t))), (q_mb, .inl (cZ, 32, .inl (aB w))), (q_ml, .inl (cI, 2, .inl (aN (lnF L L2)))), (q_mr, .inl (cI, 80, .inl (aN (rwF r r2)))), (q_lo, .inl (cI, 8, .inl (lo))), (q_dp, .inl (cI, 8, .inl (dp))), (q_sh, .inl (cI, 5, .inl (aN sh))), (q_fd, .inl (cI, 5, .inl (aN fd)))] H) ec_my).mp hP9
    have hD9 : va_D A [(q_md, .inr (6, [.int (nI n), .ref q_mt, .ref q_mb, .ref q_ml, .ref q_mr, .int (nI (thr t w (4 * a0 + d) / 4)), .int (nI (thr t w (4 * a0 + d) % 4)), .ref q_lo, .ref q_dp, .int (nI cl), .ref q_sh, .ref q_fd])), (q_mt, .inl (cI, 32, .inl (aT t))), (q_mb, .inl (cZ, 32, .inl (aB w))), (q_ml, .inl (cI, 2, .inl (aN (lnF L L2)))), (q_mr, .inl (cI, 80, .inl (aN (rwF r r2)))), (q_lo, .inl (cI, 8, .inl (lo))), (q_dp, .inl (cI, 8, .inl (dp))), (q_sh, .inl (cI, 5, .inl (aN sh))), (q_fd, .inl (cI, 5, .inl (aN fd)))] := (congrArg (fun z9 : Nat => va_D A [(q_md, .inr (6, [.int (nI n), .ref q_mt, .ref q_mb, .ref q_ml, .ref q_mr, .int (nI (thr t w (4 * a0 + d) / 4)), .int (nI z9), .ref q_lo, .ref q_dp, .int (nI cl), .ref q_sh, .ref q_fd])), (q_mt, .inl (cI, 32, .inl (aT t))), (q_mb, .inl (cZ, 32, .inl (aB w))), (q_ml, .inl (cI, 2, .inl (aN (lnF L L2)))), (q_mr, .inl (cI, 80, .inl (aN (rwF r r2)))), (q_lo, .inl (cI, 8, .inl (lo))), (q_dp, .inl (cI, 8, .inl (dp))), (q_sh, .inl (cI, 5, .inl (aN sh))), (q_fd, .inl (cI, 5, .inl (aN fd)))]) ec_my).mp hD9
    exact W.vret hx hb hr (fun t ht hW => ⟨⟨(), rfl, trivial, by rw [ht]; exact hP9, hD9⟩, hS.F ht⟩) hS.2.2 dX6_go_43
  · replace hw := hwf cc
    refine lv_iload_n hx hb dX6_go_18 rfl (lv_at hl 0 rfl) ?_
    refine lv_goto (tgt := 28) hx hb dX6_go_19 (by decide) ?_
    refine lv_istore_n (lv' := [(3, .int (nI zx1)), (2, .int (nI zx1)), (0, .ref q_md), (1, .int (nI d))]) hx hb dX6_go_28 rfl hl (by decide) rfl (fun ls hl => ?_)
    refine lv_aload_n hx hb dX6_go_29 rfl (lv_at hl 2 rfl) ?_
    refine lv_iload_n hx hb dX6_go_30 rfl (lv_at hl 0 rfl) ?_
    refine lv_iconst (v := nI 4) hx hb dX6_go_31 (by decide +kernel) ?_
    obtain ⟨zh9, hw⟩ := hw
    refine z_idiv hx hb (n_nz (by decide) (by decide)) (n_div zh9 (by decide) (by decide)) dX6_go_32 ?_
    refine va_put (D := D) (ci := 6) (v := .int (nI (zx1 / 4))) (ty := .int) (C := RX6) (T := TX6) (N := 12) hx hb hts i_X6_go_X6 tyX6 tyX6_ok nmX6 hown hZ.1 hP hD hS 0 rfl rfl 5 (by decide) (hts _ m_X6_go_f72) (fun _ h9 => h9) rfl (by decide +kernel) rfl rfl (Nat.le_of_ble_eq_true rfl) dX6_go_33 (fun H locs hP hD hS => ?_)
    have hP : va_P D vwCl [(q_md, .inr (6, [.int (nI n), .ref q_mt, .ref q_mb, .ref q_ml, .ref q_mr, .int (nI (zx1 / 4)), .int (nI y0), .ref q_lo, .ref q_dp, .int (nI cl), .ref q_sh, .ref q_fd])), (q_mt, .inl (cI, 32, .inl (aT t))), (q_mb, .inl (cZ, 32, .inl (aB w))), (q_ml, .inl (cI, 2, .inl (aN (lnF L L2)))), (q_mr, .inl (cI, 80, .inl (aN (rwF r r2)))), (q_lo, .inl (cI, 8, .inl (lo))), (q_dp, .inl (cI, 8, .inl (dp))), (q_sh, .inl (cI, 5, .inl (aN sh))), (q_fd, .inl (cI, 5, .inl (aN fd)))] H := hP
    have hD : va_D A [(q_md, .inr (6, [.int (nI n), .ref q_mt, .ref q_mb, .ref q_ml, .ref q_mr, .int (nI (zx1 / 4)), .int (nI y0), .ref q_lo, .ref q_dp, .int (nI cl), .ref q_sh, .ref q_fd])), (q_mt, .inl (cI, 32, .inl (aT t))), (q_mb, .inl (cZ, 32, .inl (aB w))), (q_ml, .inl (cI, 2, .inl (aN (lnF L L2)))), (q_mr, .inl (cI, 80, .inl (aN (rwF r r2)))), (q_lo, .inl (cI, 8, .inl (lo))), (q_dp, .inl (cI, 8, .inl (dp))), (q_sh, .inl (cI, 5, .inl (aN sh))), (q_fd, .inl (cI, 5, .inl (aN fd)))] := hD
    refine lv_aload_n hx hb dX6_go_36 rfl (lv_at hl 2 rfl) ?_
    refine lv_iload_n hx hb dX6_go_37 rfl (lv_at hl 0 rfl) ?_
    refine lv_iconst (v := nI 4) hx hb dX6_go_38 (by decide +kernel) ?_
    obtain ⟨zh10, hw⟩ := hw
    refine z_irem hx hb (n_nz (by decide) (by decide)) (n_rem zh10 (by decide) (by decide)) dX6_go_39 ?_
    refine va_put (D := D) (ci := 6) (v := .int (nI (zx1 % 4))) (ty := .int) (C := RX6) (T := TX6) (N := 12) hx hb hts i_X6_go_X6 tyX6 tyX6_ok nmX6 hown hZ.1 hP hD hS 0 rfl rfl 6 (by decide) (hts _ m_X6_go_f75) (fun _ h9 => h9) rfl (by decide +kernel) rfl rfl (Nat.le_of_ble_eq_true rfl) dX6_go_40 (fun H locs hP hD hS => ?_)
    have hP : va_P D vwCl [(q_md, .inr (6, [.int (nI n), .ref q_mt, .ref q_mb, .ref q_ml, .ref q_mr, .int (nI (zx1 / 4)), .int (nI (zx1 % 4)), .ref q_lo, .ref q_dp, .int (nI cl), .ref q_sh, .ref q_fd])), (q_mt, .inl (cI, 32, .inl (aT t))), (q_mb, .inl (cZ, 32, .inl (aB w))), (q_ml, .inl (cI, 2, .inl (aN (lnF L L2)))), (q_mr, .inl (cI, 80, .inl (aN (rwF r r2)))), (q_lo, .inl (cI, 8, .inl (lo))), (q_dp, .inl (cI, 8, .inl (dp))), (q_sh, .inl (cI, 5, .inl (aN sh))), (q_fd, .inl (cI, 5, .inl (aN fd)))] H := hP
    have hD : va_D A [(q_md, .inr (6, [.int (nI n), .ref q_mt, .ref q_mb, .ref q_ml, .ref q_mr, .int (nI (zx1 / 4)), .int (nI (zx1 % 4)), .ref q_lo, .ref q_dp, .int (nI cl), .ref q_sh, .ref q_fd])), (q_mt, .inl (cI, 32, .inl (aT t))), (q_mb, .inl (cZ, 32, .inl (aB w))), (q_ml, .inl (cI, 2, .inl (aN (lnF L L2)))), (q_mr, .inl (cI, 80, .inl (aN (rwF r r2)))), (q_lo, .inl (cI, 8, .inl (lo))), (q_dp, .inl (cI, 8, .inl (dp))), (q_sh, .inl (cI, 5, .inl (aN sh))), (q_fd, .inl (cI, 5, .inl (aN fd)))] := hD
    obtain ⟨ec_ma, ec_my⟩ := hw
    have hP9 : va_P D vwCl [(q_md, .inr (6, [.int (nI n), .ref q_mt, .ref q_mb, .ref q_ml, .ref q_mr, .int (nI (zx1 / 4)), .int (nI (zx1 % 4)), .ref q_lo, .ref q_dp, .int (nI cl), .ref q_sh, .ref q_fd])), (q_mt, .inl (cI, 32, .inl (aT t))), (q_mb, .inl (cZ, 32, .inl (aB w))), (q_ml, .inl (cI, 2, .inl (aN (lnF L L2)))), (q_mr, .inl (cI, 80, .inl (aN (rwF r r2)))), (q_lo, .inl (cI, 8, .inl (lo))), (q_dp, .inl (cI, 8, .inl (dp))), (q_sh, .inl (cI, 5, .inl (aN sh))), (q_fd, .inl (cI, 5, .inl (aN fd)))] H := hP.sub [0, 1, 2, 3, 4, 5, 6, 7, 8] rfl
    have hD9 : va_D A [(q_md, .inr (6, [.int (nI n), .ref q_mt, .ref q_mb, .ref q_ml, .ref q_mr, .int (nI (zx1 / 4)), .int (nI (zx1 % 4)), .ref q_lo, .ref q_dp, .int (nI cl), .ref q_sh, .ref q_fd])), (q_mt, .inl (cI, 32, .inl (aT t))), (q_mb, .inl (cZ, 32, .inl (aB w))), (q_ml, .inl (cI, 2, .inl (aN (lnF L L2)))), (q_mr, .inl (cI, 80, .inl (aN (rwF r r2)))), (q_lo, .inl (cI, 8, .inl (lo))), (q_dp, .inl (cI, 8, .inl (dp))), (q_sh, .inl (cI, 5, .inl (aN sh))), (q_fd, .inl (cI, 5, .inl (aN fd)))] := hD.sub [0, 1, 2, 3, 4, 5, 6, 7, 8] (by decide) rfl
    have hP9 : va_P D vwCl [(q_md, .inr (6, [.int (nI n), .ref q_mt, .ref q_mb, .ref q_ml, .ref q_mr, .int (nI (thr t w (4 * a0 + d) / 4)), .int (nI (zx1 % 4)), .ref q_lo, .ref q_dp, .int (nI cl), .ref q_sh, .ref q_fd])), (q_mt, .inl (cI, 32, .inl (aT t))), (q_mb, .inl (cZ, 32, .inl (aB w))), (q_ml, .inl (cI, 2, .inl (aN (lnF L L2)))), (q_mr, .inl (cI, 80, .inl (aN (rwF r r2)))), (q_lo, .inl (cI, 8, .inl (lo))), (q_dp, .inl (cI, 8, .inl (dp))), (q_sh, .inl (cI, 5, .inl (aN sh))), (q_fd, .inl (cI, 5, .inl (aN fd)))] H := (congrArg (fun z9 : Nat => va_P D vwCl [(q_md, .inr (6, [.int (nI n), .ref q_mt, .ref q_mb, .ref q_ml, .ref q_mr, .int (nI z9), .int (nI (zx1 % 4)), .ref q_lo, .ref q_dp, .int (nI cl), .ref q_sh, .ref q_fd])), (q_mt, .inl (cI, 32, .inl (aT t))), (q_mb, .inl (cZ, 32, .inl (aB w))), (q_ml, .inl (cI, 2, .inl (aN (lnF L L2)))), (q_mr, .inl (cI, 80, .inl (aN (rwF r r2)))), (q_lo, .inl (cI, 8, .inl (lo))), (q_dp, .inl (cI, 8, .inl (dp))), (q_sh, .inl (cI, 5, .inl (aN sh))), (q_fd, .inl (cI, 5, .inl (aN fd)))] H) ec_ma).mp hP9
    have hD9 : va_D A [(q_md, .inr (6, [.int (nI n), .ref q_mt, .ref q_mb, .ref q_ml, .ref q_mr, .int (nI (thr t w (4 * a0 + d) / 4)), .int (nI (zx1 % 4)), .ref q_lo, .ref q_dp, .int (nI cl), .ref q_sh, .ref q_fd])), (q_mt, .inl (cI, 32, .inl (aT t))), (q_mb, .inl (cZ, 32, .inl (aB w))), (q_ml, .inl (cI, 2, .inl (aN (lnF L L2)))), (q_mr, .inl (cI, 80, .inl (aN (rwF r r2)))), (q_lo, .inl (cI, 8, .inl (lo))), (q_dp, .inl (cI, 8, .inl (dp))), (q_sh, .inl (cI, 5, .inl (aN sh))), (q_fd, .inl (cI, 5, .inl (aN fd)))] := (congrArg (fun z9 : Nat => va_D A [(q_md, .inr (6, [.int (nI n), .ref q_mt, .ref q_mb, .ref q_ml, .ref q_mr, .int (nI z9), .int (nI (zx1 % 4)), .ref q_lo, .ref q_dp, .int (nI cl), .ref q_sh, .ref q_fd])), (q_mt, .inl (cI, 32, .inl (aT t))), (q_mb, .inl (cZ, 32, .inl (aB w))), (q_ml, .inl (cI, 2, .inl (aN (lnF L L2)))), (q_mr, .inl (cI, 80, .inl (aN (rwF r r2)))), (q_lo, .inl (cI, 8, .inl (lo))), (q_dp, .inl (cI, 8, .inl (dp))), (q_sh, .inl (cI, 5, .inl (aN sh))), (q_fd, .inl (cI, 5, .inl (aN fd)))]) ec_ma).mp hD9
    have hP9 : va_P D vwCl [(q_md, .inr (6, [.int (nI n), .ref q_mt, .ref q_mb, .ref q_ml, .ref q_mr, .int (nI (thr t w (4 * a0 + d) / 4)), .int (nI (thr t w (4 * a0 + d) % 4)), .ref q_lo, .ref q_dp, .int (nI cl), .ref q_sh, .ref q_fd])), (q_mt, .inl (cI, 32, .inl (aT t))), (q_mb, .inl (cZ, 32, .inl (aB w))), (q_ml, .inl (cI, 2, .inl (aN (lnF L L2)))), (q_mr, .inl (cI, 80, .inl (aN (rwF r r2)))), (q_lo, .inl (cI, 8, .inl (lo))), (q_dp, .inl (cI, 8, .inl (dp))), (q_sh, .inl (cI, 5, .inl (aN sh))), (q_fd, .inl (cI, 5, .inl (aN fd)))] H := (congrArg (fun z9 : Nat => va_P D vwCl [(q_md, .inr (6, [.int (nI n), .ref q_mt, .ref q_mb, .ref q_ml, .ref q_mr, .int (nI (thr t w (4 * a0 + d) / 4)), .int (nI z9), .ref q_lo, .ref q_dp, .int (nI cl), .ref q_sh, .ref q_fd])), (q_mt, .inl (cI, 32, .inl (aT t))), (q_mb, .inl (cZ, 32, .inl (aB w))), (q_ml, .inl (cI, 2, .inl (aN (lnF L L2)))), (q_mr, .inl (cI, 80, .inl (aN (rwF r r2)))), (q_lo, .inl (cI, 8, .inl (lo))), (q_dp, .inl (cI, 8, .inl (dp))), (q_sh, .inl (cI, 5, .inl (aN sh))), (q_fd, .inl (cI, 5, .inl (aN fd)))] H) ec_my).mp hP9
    have hD9 : va_D A [(q_md, .inr (6, [.int (nI n), .ref q_mt, .ref q_mb, .ref q_ml, .ref q_mr, .int (nI (thr t w (4 * a0 + d) / 4)), .int (nI (thr t w (4 * a0 + d) % 4)), .ref q_lo, .ref q_dp, .int (nI cl), .ref q_sh, .ref q_fd])), (q_mt, .inl (cI, 32, .inl (aT t))), (q_mb, .inl (cZ, 32, .inl (aB w))), (q_ml, .inl (cI, 2, .inl (aN (lnF L L2)))), (q_mr, .inl (cI, 80, .inl (aN (rwF r r2)))), (q_lo, .inl (cI, 8, .inl (lo))), (q_dp, .inl (cI, 8, .inl (dp))), (q_sh, .inl (cI, 5, .inl (aN sh))), (q_fd, .inl (cI, 5, .inl (aN fd)))] := (congrArg (fun z9 : Nat => va_D A [(q_md, .inr (6, [.int (nI n), .ref q_mt, .ref q_mb, .ref q_ml, .ref q_mr, .int (nI (thr t w (4 * a0 + d) / 4)), .int (nI z9), .ref q_lo, .ref q_dp, .int (nI cl), .ref q_sh, .ref q_fd])), (q_mt, .inl (cI, 32, .inl (aT t))), (q_mb, .inl (cZ, 32, .inl (aB w))), (q_ml, .inl (cI, 2, .inl (aN (lnF L L2)))), (q_mr, .inl (cI, 80, .inl (aN (rwF r r2)))), (q_lo, .inl (cI, 8, .inl (lo))), (q_dp, .inl (cI, 8, .inl (dp))), (q_sh, .inl (cI, 5, .inl (aN sh))), (q_fd, .inl (cI, 5, .inl (aN fd)))]) ec_my).mp hD9
    exact W.vret hx hb hr (fun t ht hW => ⟨⟨(), rfl, trivial, by rw [ht]; exact hP9, hD9⟩, hS.F ht⟩) hS.2.2 dX6_go_43
theorem m_X6_step_f72 : Cond.fieldLink RX6 72 "NetWalkersModel" "at" "I" ∈ wsX6_step := by decide +kernel
theorem i_X6_step_X6 : ∀ w ∈ wsX60, w ∈ wsX6_step := by decide +kernel
theorem m_X6_step_f75 : Cond.fieldLink RX6 75 "NetWalkersModel" "by" "I" ∈ wsX6_step := by decide +kernel
set_option maxRecDepth 100000 in
set_option maxHeartbeats 4000000 in
theorem w_X6_step {l : Launch} {D : va_G} {cI cZ : ClassId} (k_X6_degreeOf : K_X6_degreeOf l D cI cZ) (k_X6_go : K_X6_go l D cI cZ) (vv : V_X6_step) : K_X6_step l D cI cZ := by
  intro q_md q_mt q_mb q_ml q_mr q_lo q_dp q_sh q_fd sz n t w r L r2 L2 a0 y0 lo dp cl sh fd how x hpre0 hpre1 hpre2 hpre3 hpre4 hpre5
  have vw := vv n t w r L r2 L2 a0 y0 lo dp cl sh fd how x hpre0 hpre1 hpre2 hpre3 hpre4 hpre5
  refine Met.ofW (cc := cX6_step) (maxL := 4) (ret := none) (by decide) rfl ?_
  intro zp ze zs zm zargs zbelow zmeth zc zs1 B hml hv
  obtain ⟨rfl, hsz, hZ, hP, hD0⟩ := hv
  have hx := B.exec
  have hb := B.bytes
  have hr := B.returns
  have hts := atoms_spec (ws := wsX6_step) B.pre
  have hown : zs.vm.findClass RX6 = some zm.cls := findClass_of_methodNamed B.named
  have hlocks := B.notSynchronized
  subst hsz
  have hD := hD0.self (sz := zs.heap.size)
  generalize hAe : va_A [(q_md, .inr (6, [.int (nI n), .ref q_mt, .ref q_mb, .ref q_ml, .ref q_mr, .int (nI a0), .int (nI y0), .ref q_lo, .ref q_dp, .int (nI cl), .ref q_sh, .ref q_fd])), (q_mt, .inl (cI, 32, .inl (aT t))), (q_mb, .inl (cZ, 32, .inl (aB w))), (q_ml, .inl (cI, 2, .inl (aN (lnF L L2)))), (q_mr, .inl (cI, 80, .inl (aN (rwF r r2)))), (q_lo, .inl (cI, 8, .inl (lo))), (q_dp, .inl (cI, 8, .inl (dp))), (q_sh, .inl (cI, 5, .inl (aN sh))), (q_fd, .inl (cI, 5, .inl (aN fd)))] zs.heap.size = A at hD ⊢
  have hA : ∀ q : Nat, zs.heap.size ≤ q → A q := fun q h => by rw [← hAe]; exact Or.inr h
  have hS : va_S A zs.heap zs.heap [] := va_S.rf
  have hP : va_P D vwCl [(q_md, .inr (6, [.int (nI n), .ref q_mt, .ref q_mb, .ref q_ml, .ref q_mr, .int (nI a0), .int (nI y0), .ref q_lo, .ref q_dp, .int (nI cl), .ref q_sh, .ref q_fd])), (q_mt, .inl (cI, 32, .inl (aT t))), (q_mb, .inl (cZ, 32, .inl (aB w))), (q_ml, .inl (cI, 2, .inl (aN (lnF L L2)))), (q_mr, .inl (cI, 80, .inl (aN (rwF r r2)))), (q_lo, .inl (cI, 8, .inl (lo))), (q_dp, .inl (cI, 8, .inl (dp))), (q_sh, .inl (cI, 5, .inl (aN sh))), (q_fd, .inl (cI, 5, .inl (aN fd)))] zs.heap := hP
  have hl := lv_entry ([.ref q_md, .int (nI how), .int (nI x)]) (n := 4) (Nat.le_of_ble_eq_true rfl)
  rw [lg_entry_eq]
  generalize (lg_sl ([.ref q_md, .int (nI how), .int (nI x)]) ++ List.replicate (4 - (lg_sl ([.ref q_md, .int (nI how), .int (nI x)])).length) Slot.unset).toArray = ls at hl ⊢
  have hl : lv_has ls 4 [(0, .ref q_md), (1, .int (nI how)), (2, .int (nI x))] := hl
  have hw := vw
  unfold B_X6_step_in at hw
  refine lv_aload_n hx hb dX6_step_0 rfl (lv_at hl 0 rfl) ?_
  refine lv_aload_n hx hb dX6_step_1 rfl (lv_at hl 0 rfl) ?_
  refine va_get (D := D) (ci := 6) (v := .int (nI a0)) (C := RX6) (T := TX6) (N := 12) hx hb hts i_X6_step_X6 hown hZ.1 hP 0 rfl rfl 5 (by decide) (hts _ m_X6_step_f72) (fun _ h9 => h9) rfl dX6_step_2 ?_
  obtain ⟨zh1, hw⟩ := hw
  have hPc : va_P D vwCl [(q_md, .inr (6, [.int (nI n), .ref q_mt, .ref q_mb, .ref q_ml, .ref q_mr, .int (nI a0), .int (nI y0), .ref q_lo, .ref q_dp, .int (nI cl), .ref q_sh, .ref q_fd])), (q_mt, .inl (cI, 32, .inl (aT t))), (q_mb, .inl (cZ, 32, .inl (aB w))), (q_ml, .inl (cI, 2, .inl (aN (lnF L L2)))), (q_mr, .inl (cI, 80, .inl (aN (rwF r r2)))), (q_lo, .inl (cI, 8, .inl (lo))), (q_dp, .inl (cI, 8, .inl (dp))), (q_sh, .inl (cI, 5, .inl (aN sh))), (q_fd, .inl (cI, 5, .inl (aN fd)))] zs.heap := hP.sub [0, 1, 2, 3, 4, 5, 6, 7, 8] rfl
  refine z_ro (va_runV (As := [.int (nI a0)]) (rest := []) ⟨hx, hb, hml, hown, hts⟩ (k_X6_degreeOf q_md q_mt q_mb q_ml q_mr q_lo q_dp q_sh q_fd n t w r L r2 L2 a0 y0 lo dp cl sh fd a0 zh1) (cwV 1 hts gX6_step_X6_degreeOf rfl rfl rfl (by decide +kernel) ⟨Nat.le_of_ble_eq_true rfl, Nat.le_of_ble_eq_true rfl⟩) (zPr_V hZ hPc 0 rfl rfl) rfl rfl hl.1 rfl (lv_room (Nat.le_of_ble_eq_true rfl)) dX6_step_5 ⟨Nat.zero_le _, Nat.zero_le _⟩) (fun zr2 hzr2 => ?_)
  have ez := hzr2
  rw [ez]
  clear ez hzr2
  obtain ⟨zx3, ezx3⟩ : ∃ zx3 : Nat, zx3 = dg t a0 := ⟨_, rfl⟩
  replace hw := hw zx3 ezx3
  refine z_st (st' := [.int (nI zx3)]) (by rw [ezx3]) ?_
  refine lv_istore_n (lv' := [(3, .int (nI zx3)), (0, .ref q_md), (1, .int (nI how)), (2, .int (nI x))]) hx hb dX6_step_8 rfl hl (by decide) rfl (fun ls hl => ?_)
  refine lv_iload_n hx hb dX6_step_9 rfl (lv_at hl 0 rfl) ?_
  obtain ⟨zh4, hw⟩ := hw
  obtain ⟨hwt, hwf⟩ := hw
  refine z_if_le hx hb zh4 (tgt := 33) dX6_step_10 (by decide) (fun cc => ?_) (fun cc => ?_)
  · replace hw := hwt cc
    obtain ⟨ec_ma, ec_my⟩ := hw
    have hP9 : va_P D vwCl [(q_md, .inr (6, [.int (nI n), .ref q_mt, .ref q_mb, .ref q_ml, .ref q_mr, .int (nI a0), .int (nI y0), .ref q_lo, .ref q_dp, .int (nI cl), .ref q_sh, .ref q_fd])), (q_mt, .inl (cI, 32, .inl (aT t))), (q_mb, .inl (cZ, 32, .inl (aB w))), (q_ml, .inl (cI, 2, .inl (aN (lnF L L2)))), (q_mr, .inl (cI, 80, .inl (aN (rwF r r2)))), (q_lo, .inl (cI, 8, .inl (lo))), (q_dp, .inl (cI, 8, .inl (dp))), (q_sh, .inl (cI, 5, .inl (aN sh))), (q_fd, .inl (cI, 5, .inl (aN fd)))] zs.heap := hP.sub [0, 1, 2, 3, 4, 5, 6, 7, 8] rfl
    have hD9 : va_D A [(q_md, .inr (6, [.int (nI n), .ref q_mt, .ref q_mb, .ref q_ml, .ref q_mr, .int (nI a0), .int (nI y0), .ref q_lo, .ref q_dp, .int (nI cl), .ref q_sh, .ref q_fd])), (q_mt, .inl (cI, 32, .inl (aT t))), (q_mb, .inl (cZ, 32, .inl (aB w))), (q_ml, .inl (cI, 2, .inl (aN (lnF L L2)))), (q_mr, .inl (cI, 80, .inl (aN (rwF r r2)))), (q_lo, .inl (cI, 8, .inl (lo))), (q_dp, .inl (cI, 8, .inl (dp))), (q_sh, .inl (cI, 5, .inl (aN sh))), (q_fd, .inl (cI, 5, .inl (aN fd)))] := hD.sub [0, 1, 2, 3, 4, 5, 6, 7, 8] (by decide) rfl
    have hP9 : va_P D vwCl [(q_md, .inr (6, [.int (nI n), .ref q_mt, .ref q_mb, .ref q_ml, .ref q_mr, .int (nI (wk t w how (4 * a0 + y0) x / 4)), .int (nI y0), .ref q_lo, .ref q_dp, .int (nI cl), .ref q_sh, .ref q_fd])), (q_mt, .inl (cI, 32, .inl (aT t))), (q_mb, .inl (cZ, 32, .inl (aB w))), (q_ml, .inl (cI, 2, .inl (aN (lnF L L2)))), (q_mr, .inl (cI, 80, .inl (aN (rwF r r2)))), (q_lo, .inl (cI, 8, .inl (lo))), (q_dp, .inl (cI, 8, .inl (dp))), (q_sh, .inl (cI, 5, .inl (aN sh))), (q_fd, .inl (cI, 5, .inl (aN fd)))] zs.heap := (congrArg (fun z9 : Nat => va_P D vwCl [(q_md, .inr (6, [.int (nI n), .ref q_mt, .ref q_mb, .ref q_ml, .ref q_mr, .int (nI z9), .int (nI y0), .ref q_lo, .ref q_dp, .int (nI cl), .ref q_sh, .ref q_fd])), (q_mt, .inl (cI, 32, .inl (aT t))), (q_mb, .inl (cZ, 32, .inl (aB w))), (q_ml, .inl (cI, 2, .inl (aN (lnF L L2)))), (q_mr, .inl (cI, 80, .inl (aN (rwF r r2)))), (q_lo, .inl (cI, 8, .inl (lo))), (q_dp, .inl (cI, 8, .inl (dp))), (q_sh, .inl (cI, 5, .inl (aN sh))), (q_fd, .inl (cI, 5, .inl (aN fd)))] zs.heap) ec_ma).mp hP9
    have hD9 : va_D A [(q_md, .inr (6, [.int (nI n), .ref q_mt, .ref q_mb, .ref q_ml, .ref q_mr, .int (nI (wk t w how (4 * a0 + y0) x / 4)), .int (nI y0), .ref q_lo, .ref q_dp, .int (nI cl), .ref q_sh, .ref q_fd])), (q_mt, .inl (cI, 32, .inl (aT t))), (q_mb, .inl (cZ, 32, .inl (aB w))), (q_ml, .inl (cI, 2, .inl (aN (lnF L L2)))), (q_mr, .inl (cI, 80, .inl (aN (rwF r r2)))), (q_lo, .inl (cI, 8, .inl (lo))), (q_dp, .inl (cI, 8, .inl (dp))), (q_sh, .inl (cI, 5, .inl (aN sh))), (q_fd, .inl (cI, 5, .inl (aN fd)))] := (congrArg (fun z9 : Nat => va_D A [(q_md, .inr (6, [.int (nI n), .ref q_mt, .ref q_mb, .ref q_ml, .ref q_mr, .int (nI z9), .int (nI y0), .ref q_lo, .ref q_dp, .int (nI cl), .ref q_sh, .ref q_fd])), (q_mt, .inl (cI, 32, .inl (aT t))), (q_mb, .inl (cZ, 32, .inl (aB w))), (q_ml, .inl (cI, 2, .inl (aN (lnF L L2)))), (q_mr, .inl (cI, 80, .inl (aN (rwF r r2)))), (q_lo, .inl (cI, 8, .inl (lo))), (q_dp, .inl (cI, 8, .inl (dp))), (q_sh, .inl (cI, 5, .inl (aN sh))), (q_fd, .inl (cI, 5, .inl (aN fd)))]) ec_ma).mp hD9
    have hP9 : va_P D vwCl [(q_md, .inr (6, [.int (nI n), .ref q_mt, .ref q_mb, .ref q_ml, .ref q_mr, .int (nI (wk t w how (4 * a0 + y0) x / 4)), .int (nI (wk t w how (4 * a0 + y0) x % 4)), .ref q_lo, .ref q_dp, .int (nI cl), .ref q_sh, .ref q_fd])), (q_mt, .inl (cI, 32, .inl (aT t))), (q_mb, .inl (cZ, 32, .inl (aB w))), (q_ml, .inl (cI, 2, .inl (aN (lnF L L2)))), (q_mr, .inl (cI, 80, .inl (aN (rwF r r2)))), (q_lo, .inl (cI, 8, .inl (lo))), (q_dp, .inl (cI, 8, .inl (dp))), (q_sh, .inl (cI, 5, .inl (aN sh))), (q_fd, .inl (cI, 5, .inl (aN fd)))] zs.heap := (congrArg (fun z9 : Nat => va_P D vwCl [(q_md, .inr (6, [.int (nI n), .ref q_mt, .ref q_mb, .ref q_ml, .ref q_mr, .int (nI (wk t w how (4 * a0 + y0) x / 4)), .int (nI z9), .ref q_lo, .ref q_dp, .int (nI cl), .ref q_sh, .ref q_fd])), (q_mt, .inl (cI, 32, .inl (aT t))), (q_mb, .inl (cZ, 32, .inl (aB w))), (q_ml, .inl (cI, 2, .inl (aN (lnF L L2)))), (q_mr, .inl (cI, 80, .inl (aN (rwF r r2)))), (q_lo, .inl (cI, 8, .inl (lo))), (q_dp, .inl (cI, 8, .inl (dp))), (q_sh, .inl (cI, 5, .inl (aN sh))), (q_fd, .inl (cI, 5, .inl (aN fd)))] zs.heap) ec_my).mp hP9
    have hD9 : va_D A [(q_md, .inr (6, [.int (nI n), .ref q_mt, .ref q_mb, .ref q_ml, .ref q_mr, .int (nI (wk t w how (4 * a0 + y0) x / 4)), .int (nI (wk t w how (4 * a0 + y0) x % 4)), .ref q_lo, .ref q_dp, .int (nI cl), .ref q_sh, .ref q_fd])), (q_mt, .inl (cI, 32, .inl (aT t))), (q_mb, .inl (cZ, 32, .inl (aB w))), (q_ml, .inl (cI, 2, .inl (aN (lnF L L2)))), (q_mr, .inl (cI, 80, .inl (aN (rwF r r2)))), (q_lo, .inl (cI, 8, .inl (lo))), (q_dp, .inl (cI, 8, .inl (dp))), (q_sh, .inl (cI, 5, .inl (aN sh))), (q_fd, .inl (cI, 5, .inl (aN fd)))] := (congrArg (fun z9 : Nat => va_D A [(q_md, .inr (6, [.int (nI n), .ref q_mt, .ref q_mb, .ref q_ml, .ref q_mr, .int (nI (wk t w how (4 * a0 + y0) x / 4)), .int (nI z9), .ref q_lo, .ref q_dp, .int (nI cl), .ref q_sh, .ref q_fd])), (q_mt, .inl (cI, 32, .inl (aT t))), (q_mb, .inl (cZ, 32, .inl (aB w))), (q_ml, .inl (cI, 2, .inl (aN (lnF L L2)))), (q_mr, .inl (cI, 80, .inl (aN (rwF r r2)))), (q_lo, .inl (cI, 8, .inl (lo))), (q_dp, .inl (cI, 8, .inl (dp))), (q_sh, .inl (cI, 5, .inl (aN sh))), (q_fd, .inl (cI, 5, .inl (aN fd)))]) ec_my).mp hD9
    exact W.vret hx hb hr (fun t ht hW => ⟨⟨(), rfl, trivial, by rw [ht]; exact hP9, hD9⟩, hS.F ht⟩) hS.2.2 dX6_step_33
  · replace hw := hwf cc
    refine lv_aload_n hx hb dX6_step_13 rfl (lv_at hl 1 rfl) ?_
    refine lv_iload_n hx hb dX6_step_14 rfl (lv_at hl 2 rfl) ?_
    obtain ⟨zh5, hw⟩ := hw
    obtain ⟨hwt, hwf⟩ := hw
    refine z_if_ne hx hb zh5 (tgt := 27) dX6_step_15 (by decide) (fun cc => ?_) (fun cc => ?_)
    · replace hw := hwt cc
      refine lv_iload_n hx hb dX6_step_27 rfl (lv_at hl 3 rfl) ?_
      refine lv_iload_n hx hb dX6_step_28 rfl (lv_at hl 0 rfl) ?_
      obtain ⟨zh6, hw⟩ := hw
      obtain ⟨zh7, hw⟩ := hw
      obtain ⟨zh8, hw⟩ := hw
      refine z_irem hx hb (n_nz zh7 zh8) (n_rem zh6 zh7 zh8) dX6_step_29 ?_
      obtain ⟨zh9, hw⟩ := hw
      obtain ⟨zh10, hw⟩ := hw
      obtain ⟨zh11, hw⟩ := hw
      have hPc : va_P D vwCl [(q_md, .inr (6, [.int (nI n), .ref q_mt, .ref q_mb, .ref q_ml, .ref q_mr, .int (nI a0), .int (nI y0), .ref q_lo, .ref q_dp, .int (nI cl), .ref q_sh, .ref q_fd])), (q_mt, .inl (cI, 32, .inl (aT t))), (q_mb, .inl (cZ, 32, .inl (aB w))), (q_ml, .inl (cI, 2, .inl (aN (lnF L L2)))), (q_mr, .inl (cI, 80, .inl (aN (rwF r r2)))), (q_lo, .inl (cI, 8, .inl (lo))), (q_dp, .inl (cI, 8, .inl (dp))), (q_sh, .inl (cI, 5, .inl (aN sh))), (q_fd, .inl (cI, 5, .inl (aN fd)))] zs.heap := hP.sub [0, 1, 2, 3, 4, 5, 6, 7, 8] rfl
      have hDc : va_D A [(q_md, .inr (6, [.int (nI n), .ref q_mt, .ref q_mb, .ref q_ml, .ref q_mr, .int (nI a0), .int (nI y0), .ref q_lo, .ref q_dp, .int (nI cl), .ref q_sh, .ref q_fd])), (q_mt, .inl (cI, 32, .inl (aT t))), (q_mb, .inl (cZ, 32, .inl (aB w))), (q_ml, .inl (cI, 2, .inl (aN (lnF L L2)))), (q_mr, .inl (cI, 80, .inl (aN (rwF r r2)))), (q_lo, .inl (cI, 8, .inl (lo))), (q_dp, .inl (cI, 8, .inl (dp))), (q_sh, .inl (cI, 5, .inl (aN sh))), (q_fd, .inl (cI, 5, .inl (aN fd)))] := hD.sub [0, 1, 2, 3, 4, 5, 6, 7, 8] (by decide) rfl
      have hFc := va_free (wc := [(q_md, .inr (6, [.int (nI n), .ref q_mt, .ref q_mb, .ref q_ml, .ref q_mr, .int (nI a0), .int (nI y0), .ref q_lo, .ref q_dp, .int (nI cl), .ref q_sh, .ref q_fd])), (q_mt, .inl (cI, 32, .inl (aT t))), (q_mb, .inl (cZ, 32, .inl (aB w))), (q_ml, .inl (cI, 2, .inl (aN (lnF L L2)))), (q_mr, .inl (cI, 80, .inl (aN (rwF r r2)))), (q_lo, .inl (cI, 8, .inl (lo))), (q_dp, .inl (cI, 8, .inl (dp))), (q_sh, .inl (cI, 5, .inl (aN sh))), (q_fd, .inl (cI, 5, .inl (aN fd)))]) hD hS hA [0, 1, 2, 3, 4, 5, 6, 7, 8] rfl
      refine va_callv (va_runV (As := [.int (nI (x % zx3))]) (rest := []) ⟨hx, hb, hml, hown, hts⟩ (k_X6_go q_md q_mt q_mb q_ml q_mr q_lo q_dp q_sh q_fd zs.heap.size n t w r L r2 L2 a0 y0 lo dp cl sh fd (x % zx3) zh9 zh10 zh11) (cwV 1 hts gX6_step_X6_go rfl rfl rfl (by decide +kernel) ⟨Nat.le_of_ble_eq_true rfl, Nat.le_of_ble_eq_true rfl⟩) (zPw_V hZ hPc (hDc.weaken (fun _ _ _ _ => trivial)) 0 rfl rfl) rfl rfl hl.1 rfl (lv_room (Nat.le_of_ble_eq_true rfl)) dX6_step_30 ⟨Nat.zero_le _, Nat.zero_le _⟩) hS (fun q _ h => hFc q h) hFc (fun zu zt H1 locs1 ht hvm hq hB hz1 hk1 hS => ?_)
      obtain ⟨hP1, hD1⟩ := hB
      rw [ht] at hP1
      obtain ⟨hP, hD⟩ := va_join (wr := []) (w1 := [(q_md, .inr (6, [.int (nI n), .ref q_mt, .ref q_mb, .ref q_ml, .ref q_mr, .int (nI (thr t w (4 * a0 + (x % zx3)) / 4)), .int (nI (thr t w (4 * a0 + (x % zx3)) % 4)), .ref q_lo, .ref q_dp, .int (nI cl), .ref q_sh, .ref q_fd])), (q_mt, .inl (cI, 32, .inl (aT t))), (q_mb, .inl (cZ, 32, .inl (aB w))), (q_ml, .inl (cI, 2, .inl (aN (lnF L L2)))), (q_mr, .inl (cI, 80, .inl (aN (rwF r r2)))), (q_lo, .inl (cI, 8, .inl (lo))), (q_dp, .inl (cI, 8, .inl (dp))), (q_sh, .inl (cI, 5, .inl (aN sh))), (q_fd, .inl (cI, 5, .inl (aN fd)))]) hP hD [0, 1, 2, 3, 4, 5, 6, 7, 8] [] rfl rfl (by decide) (by decide) hk1 hFc hP1 hD1
      have hP : va_P D vwCl [(q_md, .inr (6, [.int (nI n), .ref q_mt, .ref q_mb, .ref q_ml, .ref q_mr, .int (nI (thr t w (4 * a0 + (x % zx3)) / 4)), .int (nI (thr t w (4 * a0 + (x % zx3)) % 4)), .ref q_lo, .ref q_dp, .int (nI cl), .ref q_sh, .ref q_fd])), (q_mt, .inl (cI, 32, .inl (aT t))), (q_mb, .inl (cZ, 32, .inl (aB w))), (q_ml, .inl (cI, 2, .inl (aN (lnF L L2)))), (q_mr, .inl (cI, 80, .inl (aN (rwF r r2)))), (q_lo, .inl (cI, 8, .inl (lo))), (q_dp, .inl (cI, 8, .inl (dp))), (q_sh, .inl (cI, 5, .inl (aN sh))), (q_fd, .inl (cI, 5, .inl (aN fd)))] H1 := hP
      have hD : va_D A [(q_md, .inr (6, [.int (nI n), .ref q_mt, .ref q_mb, .ref q_ml, .ref q_mr, .int (nI (thr t w (4 * a0 + (x % zx3)) / 4)), .int (nI (thr t w (4 * a0 + (x % zx3)) % 4)), .ref q_lo, .ref q_dp, .int (nI cl), .ref q_sh, .ref q_fd])), (q_mt, .inl (cI, 32, .inl (aT t))), (q_mb, .inl (cZ, 32, .inl (aB w))), (q_ml, .inl (cI, 2, .inl (aN (lnF L L2)))), (q_mr, .inl (cI, 80, .inl (aN (rwF r r2)))), (q_lo, .inl (cI, 8, .inl (lo))), (q_dp, .inl (cI, 8, .inl (dp))), (q_sh, .inl (cI, 5, .inl (aN sh))), (q_fd, .inl (cI, 5, .inl (aN fd)))] := hD
      clear hP1 hD1 hk1 hz1 hFc hDc hPc ht hvm
      obtain ⟨ec_ma, ec_my⟩ := hw
      have hP9 : va_P D vwCl [(q_md, .inr (6, [.int (nI n), .ref q_mt, .ref q_mb, .ref q_ml, .ref q_mr, .int (nI (thr t w (4 * a0 + (x % zx3)) / 4)), .int (nI (thr t w (4 * a0 + (x % zx3)) % 4)), .ref q_lo, .ref q_dp, .int (nI cl), .ref q_sh, .ref q_fd])), (q_mt, .inl (cI, 32, .inl (aT t))), (q_mb, .inl (cZ, 32, .inl (aB w))), (q_ml, .inl (cI, 2, .inl (aN (lnF L L2)))), (q_mr, .inl (cI, 80, .inl (aN (rwF r r2)))), (q_lo, .inl (cI, 8, .inl (lo))), (q_dp, .inl (cI, 8, .inl (dp))), (q_sh, .inl (cI, 5, .inl (aN sh))), (q_fd, .inl (cI, 5, .inl (aN fd)))] H1 := hP.sub [0, 1, 2, 3, 4, 5, 6, 7, 8] rfl
      have hD9 : va_D A [(q_md, .inr (6, [.int (nI n), .ref q_mt, .ref q_mb, .ref q_ml, .ref q_mr, .int (nI (thr t w (4 * a0 + (x % zx3)) / 4)), .int (nI (thr t w (4 * a0 + (x % zx3)) % 4)), .ref q_lo, .ref q_dp, .int (nI cl), .ref q_sh, .ref q_fd])), (q_mt, .inl (cI, 32, .inl (aT t))), (q_mb, .inl (cZ, 32, .inl (aB w))), (q_ml, .inl (cI, 2, .inl (aN (lnF L L2)))), (q_mr, .inl (cI, 80, .inl (aN (rwF r r2)))), (q_lo, .inl (cI, 8, .inl (lo))), (q_dp, .inl (cI, 8, .inl (dp))), (q_sh, .inl (cI, 5, .inl (aN sh))), (q_fd, .inl (cI, 5, .inl (aN fd)))] := hD.sub [0, 1, 2, 3, 4, 5, 6, 7, 8] (by decide) rfl
      have hP9 : va_P D vwCl [(q_md, .inr (6, [.int (nI n), .ref q_mt, .ref q_mb, .ref q_ml, .ref q_mr, .int (nI (wk t w how (4 * a0 + y0) x / 4)), .int (nI (thr t w (4 * a0 + (x % zx3)) % 4)), .ref q_lo, .ref q_dp, .int (nI cl), .ref q_sh, .ref q_fd])), (q_mt, .inl (cI, 32, .inl (aT t))), (q_mb, .inl (cZ, 32, .inl (aB w))), (q_ml, .inl (cI, 2, .inl (aN (lnF L L2)))), (q_mr, .inl (cI, 80, .inl (aN (rwF r r2)))), (q_lo, .inl (cI, 8, .inl (lo))), (q_dp, .inl (cI, 8, .inl (dp))), (q_sh, .inl (cI, 5, .inl (aN sh))), (q_fd, .inl (cI, 5, .inl (aN fd)))] H1 := (congrArg (fun z9 : Nat => va_P D vwCl [(q_md, .inr (6, [.int (nI n), .ref q_mt, .ref q_mb, .ref q_ml, .ref q_mr, .int (nI z9), .int (nI (thr t w (4 * a0 + (x % zx3)) % 4)), .ref q_lo, .ref q_dp, .int (nI cl), .ref q_sh, .ref q_fd])), (q_mt, .inl (cI, 32, .inl (aT t))), (q_mb, .inl (cZ, 32, .inl (aB w))), (q_ml, .inl (cI, 2, .inl (aN (lnF L L2)))), (q_mr, .inl (cI, 80, .inl (aN (rwF r r2)))), (q_lo, .inl (cI, 8, .inl (lo))), (q_dp, .inl (cI, 8, .inl (dp))), (q_sh, .inl (cI, 5, .inl (aN sh))), (q_fd, .inl (cI, 5, .inl (aN fd)))] H1) ec_ma).mp hP9
      have hD9 : va_D A [(q_md, .inr (6, [.int (nI n), .ref q_mt, .ref q_mb, .ref q_ml, .ref q_mr, .int (nI (wk t w how (4 * a0 + y0) x / 4)), .int (nI (thr t w (4 * a0 + (x % zx3)) % 4)), .ref q_lo, .ref q_dp, .int (nI cl), .ref q_sh, .ref q_fd])), (q_mt, .inl (cI, 32, .inl (aT t))), (q_mb, .inl (cZ, 32, .inl (aB w))), (q_ml, .inl (cI, 2, .inl (aN (lnF L L2)))), (q_mr, .inl (cI, 80, .inl (aN (rwF r r2)))), (q_lo, .inl (cI, 8, .inl (lo))), (q_dp, .inl (cI, 8, .inl (dp))), (q_sh, .inl (cI, 5, .inl (aN sh))), (q_fd, .inl (cI, 5, .inl (aN fd)))] := (congrArg (fun z9 : Nat => va_D A [(q_md, .inr (6, [.int (nI n), .ref q_mt, .ref q_mb, .ref q_ml, .ref q_mr, .int (nI z9), .int (nI (thr t w (4 * a0 + (x % zx3)) % 4)), .ref q_lo, .ref q_dp, .int (nI cl), .ref q_sh, .ref q_fd])), (q_mt, .inl (cI, 32, .inl (aT t))), (q_mb, .inl (cZ, 32, .inl (aB w))), (q_ml, .inl (cI, 2, .inl (aN (lnF L L2)))), (q_mr, .inl (cI, 80, .inl (aN (rwF r r2)))), (q_lo, .inl (cI, 8, .inl (lo))), (q_dp, .inl (cI, 8, .inl (dp))), (q_sh, .inl (cI, 5, .inl (aN sh))), (q_fd, .inl (cI, 5, .inl (aN fd)))]) ec_ma).mp hD9
      have hP9 : va_P D vwCl [(q_md, .inr (6, [.int (nI n), .ref q_mt, .ref q_mb, .ref q_ml, .ref q_mr, .int (nI (wk t w how (4 * a0 + y0) x / 4)), .int (nI (wk t w how (4 * a0 + y0) x % 4)), .ref q_lo, .ref q_dp, .int (nI cl), .ref q_sh, .ref q_fd])), (q_mt, .inl (cI, 32, .inl (aT t))), (q_mb, .inl (cZ, 32, .inl (aB w))), (q_ml, .inl (cI, 2, .inl (aN (lnF L L2)))), (q_mr, .inl (cI, 80, .inl (aN (rwF r r2)))), (q_lo, .inl (cI, 8, .inl (lo))), (q_dp, .inl (cI, 8, .inl (dp))), (q_sh, .inl (cI, 5, .inl (aN sh))), (q_fd, .inl (cI, 5, .inl (aN fd)))] H1 := (congrArg (fun z9 : Nat => va_P D vwCl [(q_md, .inr (6, [.int (nI n), .ref q_mt, .ref q_mb, .ref q_ml, .ref q_mr, .int (nI (wk t w how (4 * a0 + y0) x / 4)), .int (nI z9), .ref q_lo, .ref q_dp, .int (nI cl), .ref q_sh, .ref q_fd])), (q_mt, .inl (cI, 32, .inl (aT t))), (q_mb, .inl (cZ, 32, .inl (aB w))), (q_ml, .inl (cI, 2, .inl (aN (lnF L L2)))), (q_mr, .inl (cI, 80, .inl (aN (rwF r r2)))), (q_lo, .inl (cI, 8, .inl (lo))), (q_dp, .inl (cI, 8, .inl (dp))), (q_sh, .inl (cI, 5, .inl (aN sh))), (q_fd, .inl (cI, 5, .inl (aN fd)))] H1) ec_my).mp hP9
      have hD9 : va_D A [(q_md, .inr (6, [.int (nI n), .ref q_mt, .ref q_mb, .ref q_ml, .ref q_mr, .int (nI (wk t w how (4 * a0 + y0) x / 4)), .int (nI (wk t w how (4 * a0 + y0) x % 4)), .ref q_lo, .ref q_dp, .int (nI cl), .ref q_sh, .ref q_fd])), (q_mt, .inl (cI, 32, .inl (aT t))), (q_mb, .inl (cZ, 32, .inl (aB w))), (q_ml, .inl (cI, 2, .inl (aN (lnF L L2)))), (q_mr, .inl (cI, 80, .inl (aN (rwF r r2)))), (q_lo, .inl (cI, 8, .inl (lo))), (q_dp, .inl (cI, 8, .inl (dp))), (q_sh, .inl (cI, 5, .inl (aN sh))), (q_fd, .inl (cI, 5, .inl (aN fd)))] := (congrArg (fun z9 : Nat => va_D A [(q_md, .inr (6, [.int (nI n), .ref q_mt, .ref q_mb, .ref q_ml, .ref q_mr, .int (nI (wk t w how (4 * a0 + y0) x / 4)), .int (nI z9), .ref q_lo, .ref q_dp, .int (nI cl), .ref q_sh, .ref q_fd])), (q_mt, .inl (cI, 32, .inl (aT t))), (q_mb, .inl (cZ, 32, .inl (aB w))), (q_ml, .inl (cI, 2, .inl (aN (lnF L L2)))), (q_mr, .inl (cI, 80, .inl (aN (rwF r r2)))), (q_lo, .inl (cI, 8, .inl (lo))), (q_dp, .inl (cI, 8, .inl (dp))), (q_sh, .inl (cI, 5, .inl (aN sh))), (q_fd, .inl (cI, 5, .inl (aN fd)))]) ec_my).mp hD9
      exact W.vret hx hb hr (fun t ht hW => ⟨⟨(), rfl, trivial, by rw [ht]; exact hP9, hD9⟩, hS.F ht⟩) hS.2.2 dX6_step_33
    · replace hw := hwf cc
      refine lv_aload_n hx hb dX6_step_18 rfl (lv_at hl 1 rfl) ?_
      refine va_get (D := D) (ci := 6) (v := .int (nI y0)) (C := RX6) (T := TX6) (N := 12) hx hb hts i_X6_step_X6 hown hZ.1 hP 0 rfl rfl 6 (by decide) (hts _ m_X6_step_f75) (fun _ h9 => h9) rfl dX6_step_19 ?_
      refine lv_iload_n hx hb dX6_step_22 rfl (lv_at hl 3 rfl) ?_
      refine z_iadd hx hb (nI_add _ _) dX6_step_23 ?_
      refine lv_goto (tgt := 28) hx hb dX6_step_24 (by decide) ?_
      refine lv_iload_n hx hb dX6_step_28 rfl (lv_at hl 0 rfl) ?_
      obtain ⟨zh13, hw⟩ := hw
      obtain ⟨zh14, hw⟩ := hw
      obtain ⟨zh15, hw⟩ := hw
      refine z_irem hx hb (n_nz zh14 zh15) (n_rem zh13 zh14 zh15) dX6_step_29 ?_
      obtain ⟨zh16, hw⟩ := hw
      obtain ⟨zh17, hw⟩ := hw
      obtain ⟨zh18, hw⟩ := hw
      have hPc : va_P D vwCl [(q_md, .inr (6, [.int (nI n), .ref q_mt, .ref q_mb, .ref q_ml, .ref q_mr, .int (nI a0), .int (nI y0), .ref q_lo, .ref q_dp, .int (nI cl), .ref q_sh, .ref q_fd])), (q_mt, .inl (cI, 32, .inl (aT t))), (q_mb, .inl (cZ, 32, .inl (aB w))), (q_ml, .inl (cI, 2, .inl (aN (lnF L L2)))), (q_mr, .inl (cI, 80, .inl (aN (rwF r r2)))), (q_lo, .inl (cI, 8, .inl (lo))), (q_dp, .inl (cI, 8, .inl (dp))), (q_sh, .inl (cI, 5, .inl (aN sh))), (q_fd, .inl (cI, 5, .inl (aN fd)))] zs.heap := hP.sub [0, 1, 2, 3, 4, 5, 6, 7, 8] rfl
      have hDc : va_D A [(q_md, .inr (6, [.int (nI n), .ref q_mt, .ref q_mb, .ref q_ml, .ref q_mr, .int (nI a0), .int (nI y0), .ref q_lo, .ref q_dp, .int (nI cl), .ref q_sh, .ref q_fd])), (q_mt, .inl (cI, 32, .inl (aT t))), (q_mb, .inl (cZ, 32, .inl (aB w))), (q_ml, .inl (cI, 2, .inl (aN (lnF L L2)))), (q_mr, .inl (cI, 80, .inl (aN (rwF r r2)))), (q_lo, .inl (cI, 8, .inl (lo))), (q_dp, .inl (cI, 8, .inl (dp))), (q_sh, .inl (cI, 5, .inl (aN sh))), (q_fd, .inl (cI, 5, .inl (aN fd)))] := hD.sub [0, 1, 2, 3, 4, 5, 6, 7, 8] (by decide) rfl
      have hFc := va_free (wc := [(q_md, .inr (6, [.int (nI n), .ref q_mt, .ref q_mb, .ref q_ml, .ref q_mr, .int (nI a0), .int (nI y0), .ref q_lo, .ref q_dp, .int (nI cl), .ref q_sh, .ref q_fd])), (q_mt, .inl (cI, 32, .inl (aT t))), (q_mb, .inl (cZ, 32, .inl (aB w))), (q_ml, .inl (cI, 2, .inl (aN (lnF L L2)))), (q_mr, .inl (cI, 80, .inl (aN (rwF r r2)))), (q_lo, .inl (cI, 8, .inl (lo))), (q_dp, .inl (cI, 8, .inl (dp))), (q_sh, .inl (cI, 5, .inl (aN sh))), (q_fd, .inl (cI, 5, .inl (aN fd)))]) hD hS hA [0, 1, 2, 3, 4, 5, 6, 7, 8] rfl
      refine va_callv (va_runV (As := [.int (nI ((y0 + x) % zx3))]) (rest := []) ⟨hx, hb, hml, hown, hts⟩ (k_X6_go q_md q_mt q_mb q_ml q_mr q_lo q_dp q_sh q_fd zs.heap.size n t w r L r2 L2 a0 y0 lo dp cl sh fd ((y0 + x) % zx3) zh16 zh17 zh18) (cwV 1 hts gX6_step_X6_go rfl rfl rfl (by decide +kernel) ⟨Nat.le_of_ble_eq_true rfl, Nat.le_of_ble_eq_true rfl⟩) (zPw_V hZ hPc (hDc.weaken (fun _ _ _ _ => trivial)) 0 rfl rfl) rfl rfl hl.1 rfl (lv_room (Nat.le_of_ble_eq_true rfl)) dX6_step_30 ⟨Nat.zero_le _, Nat.zero_le _⟩) hS (fun q _ h => hFc q h) hFc (fun zu zt H1 locs1 ht hvm hq hB hz1 hk1 hS => ?_)
      obtain ⟨hP1, hD1⟩ := hB
      rw [ht] at hP1
      obtain ⟨hP, hD⟩ := va_join (wr := []) (w1 := [(q_md, .inr (6, [.int (nI n), .ref q_mt, .ref q_mb, .ref q_ml, .ref q_mr, .int (nI (thr t w (4 * a0 + ((y0 + x) % zx3)) / 4)), .int (nI (thr t w (4 * a0 + ((y0 + x) % zx3)) % 4)), .ref q_lo, .ref q_dp, .int (nI cl), .ref q_sh, .ref q_fd])), (q_mt, .inl (cI, 32, .inl (aT t))), (q_mb, .inl (cZ, 32, .inl (aB w))), (q_ml, .inl (cI, 2, .inl (aN (lnF L L2)))), (q_mr, .inl (cI, 80, .inl (aN (rwF r r2)))), (q_lo, .inl (cI, 8, .inl (lo))), (q_dp, .inl (cI, 8, .inl (dp))), (q_sh, .inl (cI, 5, .inl (aN sh))), (q_fd, .inl (cI, 5, .inl (aN fd)))]) hP hD [0, 1, 2, 3, 4, 5, 6, 7, 8] [] rfl rfl (by decide) (by decide) hk1 hFc hP1 hD1
      have hP : va_P D vwCl [(q_md, .inr (6, [.int (nI n), .ref q_mt, .ref q_mb, .ref q_ml, .ref q_mr, .int (nI (thr t w (4 * a0 + ((y0 + x) % zx3)) / 4)), .int (nI (thr t w (4 * a0 + ((y0 + x) % zx3)) % 4)), .ref q_lo, .ref q_dp, .int (nI cl), .ref q_sh, .ref q_fd])), (q_mt, .inl (cI, 32, .inl (aT t))), (q_mb, .inl (cZ, 32, .inl (aB w))), (q_ml, .inl (cI, 2, .inl (aN (lnF L L2)))), (q_mr, .inl (cI, 80, .inl (aN (rwF r r2)))), (q_lo, .inl (cI, 8, .inl (lo))), (q_dp, .inl (cI, 8, .inl (dp))), (q_sh, .inl (cI, 5, .inl (aN sh))), (q_fd, .inl (cI, 5, .inl (aN fd)))] H1 := hP
      have hD : va_D A [(q_md, .inr (6, [.int (nI n), .ref q_mt, .ref q_mb, .ref q_ml, .ref q_mr, .int (nI (thr t w (4 * a0 + ((y0 + x) % zx3)) / 4)), .int (nI (thr t w (4 * a0 + ((y0 + x) % zx3)) % 4)), .ref q_lo, .ref q_dp, .int (nI cl), .ref q_sh, .ref q_fd])), (q_mt, .inl (cI, 32, .inl (aT t))), (q_mb, .inl (cZ, 32, .inl (aB w))), (q_ml, .inl (cI, 2, .inl (aN (lnF L L2)))), (q_mr, .inl (cI, 80, .inl (aN (rwF r r2)))), (q_lo, .inl (cI, 8, .inl (lo))), (q_dp, .inl (cI, 8, .inl (dp))), (q_sh, .inl (cI, 5, .inl (aN sh))), (q_fd, .inl (cI, 5, .inl (aN fd)))] := hD
      clear hP1 hD1 hk1 hz1 hFc hDc hPc ht hvm
      obtain ⟨ec_ma, ec_my⟩ := hw
      have hP9 : va_P D vwCl [(q_md, .inr (6, [.int (nI n), .ref q_mt, .ref q_mb, .ref q_ml, .ref q_mr, .int (nI (thr t w (4 * a0 + ((y0 + x) % zx3)) / 4)), .int (nI (thr t w (4 * a0 + ((y0 + x) % zx3)) % 4)), .ref q_lo, .ref q_dp, .int (nI cl), .ref q_sh, .ref q_fd])), (q_mt, .inl (cI, 32, .inl (aT t))), (q_mb, .inl (cZ, 32, .inl (aB w))), (q_ml, .inl (cI, 2, .inl (aN (lnF L L2)))), (q_mr, .inl (cI, 80, .inl (aN (rwF r r2)))), (q_lo, .inl (cI, 8, .inl (lo))), (q_dp, .inl (cI, 8, .inl (dp))), (q_sh, .inl (cI, 5, .inl (aN sh))), (q_fd, .inl (cI, 5, .inl (aN fd)))] H1 := hP.sub [0, 1, 2, 3, 4, 5, 6, 7, 8] rfl
      have hD9 : va_D A [(q_md, .inr (6, [.int (nI n), .ref q_mt, .ref q_mb, .ref q_ml, .ref q_mr, .int (nI (thr t w (4 * a0 + ((y0 + x) % zx3)) / 4)), .int (nI (thr t w (4 * a0 + ((y0 + x) % zx3)) % 4)), .ref q_lo, .ref q_dp, .int (nI cl), .ref q_sh, .ref q_fd])), (q_mt, .inl (cI, 32, .inl (aT t))), (q_mb, .inl (cZ, 32, .inl (aB w))), (q_ml, .inl (cI, 2, .inl (aN (lnF L L2)))), (q_mr, .inl (cI, 80, .inl (aN (rwF r r2)))), (q_lo, .inl (cI, 8, .inl (lo))), (q_dp, .inl (cI, 8, .inl (dp))), (q_sh, .inl (cI, 5, .inl (aN sh))), (q_fd, .inl (cI, 5, .inl (aN fd)))] := hD.sub [0, 1, 2, 3, 4, 5, 6, 7, 8] (by decide) rfl
      have hP9 : va_P D vwCl [(q_md, .inr (6, [.int (nI n), .ref q_mt, .ref q_mb, .ref q_ml, .ref q_mr, .int (nI (wk t w how (4 * a0 + y0) x / 4)), .int (nI (thr t w (4 * a0 + ((y0 + x) % zx3)) % 4)), .ref q_lo, .ref q_dp, .int (nI cl), .ref q_sh, .ref q_fd])), (q_mt, .inl (cI, 32, .inl (aT t))), (q_mb, .inl (cZ, 32, .inl (aB w))), (q_ml, .inl (cI, 2, .inl (aN (lnF L L2)))), (q_mr, .inl (cI, 80, .inl (aN (rwF r r2)))), (q_lo, .inl (cI, 8, .inl (lo))), (q_dp, .inl (cI, 8, .inl (dp))), (q_sh, .inl (cI, 5, .inl (aN sh))), (q_fd, .inl (cI, 5, .inl (aN fd)))] H1 := (congrArg (fun z9 : Nat => va_P D vwCl [(q_md, .inr (6, [.int (nI n), .ref q_mt, .ref q_mb, .ref q_ml, .ref q_mr, .int (nI z9), .int (nI (thr t w (4 * a0 + ((y0 + x) % zx3)) % 4)), .ref q_lo, .ref q_dp, .int (nI cl), .ref q_sh, .ref q_fd])), (q_mt, .inl (cI, 32, .inl (aT t))), (q_mb, .inl (cZ, 32, .inl (aB w))), (q_ml, .inl (cI, 2, .inl (aN (lnF L L2)))), (q_mr, .inl (cI, 80, .inl (aN (rwF r r2)))), (q_lo, .inl (cI, 8, .inl (lo))), (q_dp, .inl (cI, 8, .inl (dp))), (q_sh, .inl (cI, 5, .inl (aN sh))), (q_fd, .inl (cI, 5, .inl (aN fd)))] H1) ec_ma).mp hP9
      have hD9 : va_D A [(q_md, .inr (6, [.int (nI n), .ref q_mt, .ref q_mb, .ref q_ml, .ref q_mr, .int (nI (wk t w how (4 * a0 + y0) x / 4)), .int (nI (thr t w (4 * a0 + ((y0 + x) % zx3)) % 4)), .ref q_lo, .ref q_dp, .int (nI cl), .ref q_sh, .ref q_fd])), (q_mt, .inl (cI, 32, .inl (aT t))), (q_mb, .inl (cZ, 32, .inl (aB w))), (q_ml, .inl (cI, 2, .inl (aN (lnF L L2)))), (q_mr, .inl (cI, 80, .inl (aN (rwF r r2)))), (q_lo, .inl (cI, 8, .inl (lo))), (q_dp, .inl (cI, 8, .inl (dp))), (q_sh, .inl (cI, 5, .inl (aN sh))), (q_fd, .inl (cI, 5, .inl (aN fd)))] := (congrArg (fun z9 : Nat => va_D A [(q_md, .inr (6, [.int (nI n), .ref q_mt, .ref q_mb, .ref q_ml, .ref q_mr, .int (nI z9), .int (nI (thr t w (4 * a0 + ((y0 + x) % zx3)) % 4)), .ref q_lo, .ref q_dp, .int (nI cl), .ref q_sh, .ref q_fd])), (q_mt, .inl (cI, 32, .inl (aT t))), (q_mb, .inl (cZ, 32, .inl (aB w))), (q_ml, .inl (cI, 2, .inl (aN (lnF L L2)))), (q_mr, .inl (cI, 80, .inl (aN (rwF r r2)))), (q_lo, .inl (cI, 8, .inl (lo))), (q_dp, .inl (cI, 8, .inl (dp))), (q_sh, .inl (cI, 5, .inl (aN sh))), (q_fd, .inl (cI, 5, .inl (aN fd)))]) ec_ma).mp hD9
      have hP9 : va_P D vwCl [(q_md, .inr (6, [.int (nI n), .ref q_mt, .ref q_mb, .ref q_ml, .ref q_mr, .int (nI (wk t w how (4 * a0 + y0) x / 4)), .int (nI (wk t w how (4 * a0 + y0) x % 4)), .ref q_lo, .ref q_dp, .int (nI cl), .ref q_sh, .ref q_fd])), (q_mt, .inl (cI, 32, .inl (aT t))), (q_mb, .inl (cZ, 32, .inl (aB w))), (q_ml, .inl (cI, 2, .inl (aN (lnF L L2)))), (q_mr, .inl (cI, 80, .inl (aN (rwF r r2)))), (q_lo, .inl (cI, 8, .inl (lo))), (q_dp, .inl (cI, 8, .inl (dp))), (q_sh, .inl (cI, 5, .inl (aN sh))), (q_fd, .inl (cI, 5, .inl (aN fd)))] H1 := (congrArg (fun z9 : Nat => va_P D vwCl [(q_md, .inr (6, [.int (nI n), .ref q_mt, .ref q_mb, .ref q_ml, .ref q_mr, .int (nI (wk t w how (4 * a0 + y0) x / 4)), .int (nI z9), .ref q_lo, .ref q_dp, .int (nI cl), .ref q_sh, .ref q_fd])), (q_mt, .inl (cI, 32, .inl (aT t))), (q_mb, .inl (cZ, 32, .inl (aB w))), (q_ml, .inl (cI, 2, .inl (aN (lnF L L2)))), (q_mr, .inl (cI, 80, .inl (aN (rwF r r2)))), (q_lo, .inl (cI, 8, .inl (lo))), (q_dp, .inl (cI, 8, .inl (dp))), (q_sh, .inl (cI, 5, .inl (aN sh))), (q_fd, .inl (cI, 5, .inl (aN fd)))] H1) ec_my).mp hP9
      have hD9 : va_D A [(q_md, .inr (6, [.int (nI n), .ref q_mt, .ref q_mb, .ref q_ml, .ref q_mr, .int (nI (wk t w how (4 * a0 + y0) x / 4)), .int (nI (wk t w how (4 * a0 + y0) x % 4)), .ref q_lo, .ref q_dp, .int (nI cl), .ref q_sh, .ref q_fd])), (q_mt, .inl (cI, 32, .inl (aT t))), (q_mb, .inl (cZ, 32, .inl (aB w))), (q_ml, .inl (cI, 2, .inl (aN (lnF L L2)))), (q_mr, .inl (cI, 80, .inl (aN (rwF r r2)))), (q_lo, .inl (cI, 8, .inl (lo))), (q_dp, .inl (cI, 8, .inl (dp))), (q_sh, .inl (cI, 5, .inl (aN sh))), (q_fd, .inl (cI, 5, .inl (aN fd)))] := (congrArg (fun z9 : Nat => va_D A [(q_md, .inr (6, [.int (nI n), .ref q_mt, .ref q_mb, .ref q_ml, .ref q_mr, .int (nI (wk t w how (4 * a0 + y0) x / 4)), .int (nI z9), .ref q_lo, .ref q_dp, .int (nI cl), .ref q_sh, .ref q_fd])), (q_mt, .inl (cI, 32, .inl (aT t))), (q_mb, .inl (cZ, 32, .inl (aB w))), (q_ml, .inl (cI, 2, .inl (aN (lnF L L2)))), (q_mr, .inl (cI, 80, .inl (aN (rwF r r2)))), (q_lo, .inl (cI, 8, .inl (lo))), (q_dp, .inl (cI, 8, .inl (dp))), (q_sh, .inl (cI, 5, .inl (aN sh))), (q_fd, .inl (cI, 5, .inl (aN fd)))]) ec_my).mp hD9
      exact W.vret hx hb hr (fun t ht hW => ⟨⟨(), rfl, trivial, by rw [ht]; exact hP9, hD9⟩, hS.F ht⟩) hS.2.2 dX6_step_33
theorem m_X6_place_f72 : Cond.fieldLink RX6 72 "NetWalkersModel" "at" "I" ∈ wsX6_place := by decide +kernel
theorem i_X6_place_X6 : ∀ w ∈ wsX60, w ∈ wsX6_place := by decide +kernel
theorem m_X6_place_f75 : Cond.fieldLink RX6 75 "NetWalkersModel" "by" "I" ∈ wsX6_place := by decide +kernel
set_option maxRecDepth 100000 in
set_option maxHeartbeats 4000000 in
theorem w_X6_place {l : Launch} {D : va_G} {cI cZ : ClassId} (vv : V_X6_place) : K_X6_place l D cI cZ := by
  intro q_md q_mt q_mb q_ml q_mr q_lo q_dp q_sh q_fd sz n t w r L r2 L2 a0 y0 lo dp cl sh fd p
  have vw := vv n t w r L r2 L2 a0 y0 lo dp cl sh fd p
  refine Met.ofW (cc := cX6_place) (maxL := 2) (ret := none) (by decide) rfl ?_
  intro zp ze zs zm zargs zbelow zmeth zc zs1 B hml hv
  obtain ⟨rfl, hsz, hZ, hP, hD0⟩ := hv
  have hx := B.exec
  have hb := B.bytes
  have hr := B.returns
  have hts := atoms_spec (ws := wsX6_place) B.pre
  have hown : zs.vm.findClass RX6 = some zm.cls := findClass_of_methodNamed B.named
  have hlocks := B.notSynchronized
  subst hsz
  have hD := hD0.self (sz := zs.heap.size)
  generalize hAe : va_A [(q_md, .inr (6, [.int (nI n), .ref q_mt, .ref q_mb, .ref q_ml, .ref q_mr, .int (nI a0), .int (nI y0), .ref q_lo, .ref q_dp, .int (nI cl), .ref q_sh, .ref q_fd])), (q_mt, .inl (cI, 32, .inl (aT t))), (q_mb, .inl (cZ, 32, .inl (aB w))), (q_ml, .inl (cI, 2, .inl (aN (lnF L L2)))), (q_mr, .inl (cI, 80, .inl (aN (rwF r r2)))), (q_lo, .inl (cI, 8, .inl (lo))), (q_dp, .inl (cI, 8, .inl (dp))), (q_sh, .inl (cI, 5, .inl (aN sh))), (q_fd, .inl (cI, 5, .inl (aN fd)))] zs.heap.size = A at hD ⊢
  have hA : ∀ q : Nat, zs.heap.size ≤ q → A q := fun q h => by rw [← hAe]; exact Or.inr h
  have hS : va_S A zs.heap zs.heap [] := va_S.rf
  have hP : va_P D vwCl [(q_md, .inr (6, [.int (nI n), .ref q_mt, .ref q_mb, .ref q_ml, .ref q_mr, .int (nI a0), .int (nI y0), .ref q_lo, .ref q_dp, .int (nI cl), .ref q_sh, .ref q_fd])), (q_mt, .inl (cI, 32, .inl (aT t))), (q_mb, .inl (cZ, 32, .inl (aB w))), (q_ml, .inl (cI, 2, .inl (aN (lnF L L2)))), (q_mr, .inl (cI, 80, .inl (aN (rwF r r2)))), (q_lo, .inl (cI, 8, .inl (lo))), (q_dp, .inl (cI, 8, .inl (dp))), (q_sh, .inl (cI, 5, .inl (aN sh))), (q_fd, .inl (cI, 5, .inl (aN fd)))] zs.heap := hP
  have hl := lv_entry ([.ref q_md, .int (nI p)]) (n := 2) (Nat.le_of_ble_eq_true rfl)
  rw [lg_entry_eq]
  generalize (lg_sl ([.ref q_md, .int (nI p)]) ++ List.replicate (2 - (lg_sl ([.ref q_md, .int (nI p)])).length) Slot.unset).toArray = ls at hl ⊢
  have hl : lv_has ls 2 [(0, .ref q_md), (1, .int (nI p))] := hl
  have hw := vw
  unfold B_X6_place_in at hw
  refine lv_aload_n hx hb dX6_place_0 rfl (lv_at hl 0 rfl) ?_
  refine lv_iload_n hx hb dX6_place_1 rfl (lv_at hl 1 rfl) ?_
  refine va_put (D := D) (ci := 6) (v := .int (nI p)) (ty := .int) (C := RX6) (T := TX6) (N := 12) hx hb hts i_X6_place_X6 tyX6 tyX6_ok nmX6 hown hZ.1 hP hD hS 0 rfl rfl 5 (by decide) (hts _ m_X6_place_f72) (fun _ h9 => h9) rfl (by decide +kernel) rfl rfl (Nat.le_of_ble_eq_true rfl) dX6_place_2 (fun H locs hP hD hS => ?_)
  have hP : va_P D vwCl [(q_md, .inr (6, [.int (nI n), .ref q_mt, .ref q_mb, .ref q_ml, .ref q_mr, .int (nI p), .int (nI y0), .ref q_lo, .ref q_dp, .int (nI cl), .ref q_sh, .ref q_fd])), (q_mt, .inl (cI, 32, .inl (aT t))), (q_mb, .inl (cZ, 32, .inl (aB w))), (q_ml, .inl (cI, 2, .inl (aN (lnF L L2)))), (q_mr, .inl (cI, 80, .inl (aN (rwF r r2)))), (q_lo, .inl (cI, 8, .inl (lo))), (q_dp, .inl (cI, 8, .inl (dp))), (q_sh, .inl (cI, 5, .inl (aN sh))), (q_fd, .inl (cI, 5, .inl (aN fd)))] H := hP
  have hD : va_D A [(q_md, .inr (6, [.int (nI n), .ref q_mt, .ref q_mb, .ref q_ml, .ref q_mr, .int (nI p), .int (nI y0), .ref q_lo, .ref q_dp, .int (nI cl), .ref q_sh, .ref q_fd])), (q_mt, .inl (cI, 32, .inl (aT t))), (q_mb, .inl (cZ, 32, .inl (aB w))), (q_ml, .inl (cI, 2, .inl (aN (lnF L L2)))), (q_mr, .inl (cI, 80, .inl (aN (rwF r r2)))), (q_lo, .inl (cI, 8, .inl (lo))), (q_dp, .inl (cI, 8, .inl (dp))), (q_sh, .inl (cI, 5, .inl (aN sh))), (q_fd, .inl (cI, 5, .inl (aN fd)))] := hD
  refine lv_aload_n hx hb dX6_place_5 rfl (lv_at hl 0 rfl) ?_
  refine lv_iconst (v := nI 0) hx hb dX6_place_6 (by decide +kernel) ?_
  refine va_put (D := D) (ci := 6) (v := .int (nI 0)) (ty := .int) (C := RX6) (T := TX6) (N := 12) hx hb hts i_X6_place_X6 tyX6 tyX6_ok nmX6 hown hZ.1 hP hD hS 0 rfl rfl 6 (by decide) (hts _ m_X6_place_f75) (fun _ h9 => h9) rfl (by decide +kernel) rfl rfl (Nat.le_of_ble_eq_true rfl) dX6_place_7 (fun H locs hP hD hS => ?_)
  have hP : va_P D vwCl [(q_md, .inr (6, [.int (nI n), .ref q_mt, .ref q_mb, .ref q_ml, .ref q_mr, .int (nI p), .int (nI 0), .ref q_lo, .ref q_dp, .int (nI cl), .ref q_sh, .ref q_fd])), (q_mt, .inl (cI, 32, .inl (aT t))), (q_mb, .inl (cZ, 32, .inl (aB w))), (q_ml, .inl (cI, 2, .inl (aN (lnF L L2)))), (q_mr, .inl (cI, 80, .inl (aN (rwF r r2)))), (q_lo, .inl (cI, 8, .inl (lo))), (q_dp, .inl (cI, 8, .inl (dp))), (q_sh, .inl (cI, 5, .inl (aN sh))), (q_fd, .inl (cI, 5, .inl (aN fd)))] H := hP
  have hD : va_D A [(q_md, .inr (6, [.int (nI n), .ref q_mt, .ref q_mb, .ref q_ml, .ref q_mr, .int (nI p), .int (nI 0), .ref q_lo, .ref q_dp, .int (nI cl), .ref q_sh, .ref q_fd])), (q_mt, .inl (cI, 32, .inl (aT t))), (q_mb, .inl (cZ, 32, .inl (aB w))), (q_ml, .inl (cI, 2, .inl (aN (lnF L L2)))), (q_mr, .inl (cI, 80, .inl (aN (rwF r r2)))), (q_lo, .inl (cI, 8, .inl (lo))), (q_dp, .inl (cI, 8, .inl (dp))), (q_sh, .inl (cI, 5, .inl (aN sh))), (q_fd, .inl (cI, 5, .inl (aN fd)))] := hD
  clear hw
  have hP9 : va_P D vwCl [(q_md, .inr (6, [.int (nI n), .ref q_mt, .ref q_mb, .ref q_ml, .ref q_mr, .int (nI p), .int (nI 0), .ref q_lo, .ref q_dp, .int (nI cl), .ref q_sh, .ref q_fd])), (q_mt, .inl (cI, 32, .inl (aT t))), (q_mb, .inl (cZ, 32, .inl (aB w))), (q_ml, .inl (cI, 2, .inl (aN (lnF L L2)))), (q_mr, .inl (cI, 80, .inl (aN (rwF r r2)))), (q_lo, .inl (cI, 8, .inl (lo))), (q_dp, .inl (cI, 8, .inl (dp))), (q_sh, .inl (cI, 5, .inl (aN sh))), (q_fd, .inl (cI, 5, .inl (aN fd)))] H := hP.sub [0, 1, 2, 3, 4, 5, 6, 7, 8] rfl
  have hD9 : va_D A [(q_md, .inr (6, [.int (nI n), .ref q_mt, .ref q_mb, .ref q_ml, .ref q_mr, .int (nI p), .int (nI 0), .ref q_lo, .ref q_dp, .int (nI cl), .ref q_sh, .ref q_fd])), (q_mt, .inl (cI, 32, .inl (aT t))), (q_mb, .inl (cZ, 32, .inl (aB w))), (q_ml, .inl (cI, 2, .inl (aN (lnF L L2)))), (q_mr, .inl (cI, 80, .inl (aN (rwF r r2)))), (q_lo, .inl (cI, 8, .inl (lo))), (q_dp, .inl (cI, 8, .inl (dp))), (q_sh, .inl (cI, 5, .inl (aN sh))), (q_fd, .inl (cI, 5, .inl (aN fd)))] := hD.sub [0, 1, 2, 3, 4, 5, 6, 7, 8] (by decide) rfl
  exact W.vret hx hb hr (fun t ht hW => ⟨⟨(), rfl, trivial, by rw [ht]; exact hP9, hD9⟩, hS.F ht⟩) hS.2.2 dX6_place_10
