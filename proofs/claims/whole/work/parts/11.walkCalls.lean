/-! ===== by program: the walks ===== -/
theorem m_X5_posts_f10 : Cond.fieldLink RX5 10 "NetWalkers" "net" "LNetWalkers$Net;" ∈ wsX5_posts := by decide +kernel
theorem i_X5_posts_X5 : ∀ w ∈ wsX50, w ∈ wsX5_posts := by decide +kernel
theorem m_X5_posts_f49 : Cond.fieldLink RX5 49 "NetWalkers$Net" "size" "I" ∈ wsX5_posts := by decide +kernel
theorem i_X5_posts_X2 : ∀ w ∈ wsX20, w ∈ wsX5_posts := by decide +kernel
set_option maxRecDepth 100000 in
set_option maxHeartbeats 4000000 in
theorem w_X5_posts {l : Launch} {D : va_G} {cI cZ : ClassId} (k_X2_begin : K_X2_begin l D cI cZ) (vv : V_X5_posts) : K_X5_posts l D cI cZ := by
  intro q_x q_nt q_en q_ba q_de q_rw q_rv q_hd q_lk q_rg sz n t w m hpre0
  have vw := vv n t w m hpre0
  refine Met.ofW (cc := cX5_posts) (maxL := 3) (ret := (some .int)) (by decide) rfl ?_
  intro zp ze zs zm zargs zbelow zmeth zc zs1 B hml hv
  obtain ⟨rfl, hsz, hZ, hP, hD0⟩ := hv
  have hx := B.exec
  have hb := B.bytes
  have hr := B.returns
  have hts := atoms_spec (ws := wsX5_posts) B.pre
  have hown : zs.vm.findClass RX5 = some zm.cls := findClass_of_methodNamed B.named
  have hlocks := B.notSynchronized
  subst hsz
  have hD := hD0.self (sz := zs.heap.size)
  generalize hAe : va_A [(q_x, .inr (5, [.ref q_nt, .ref q_rw, .ref q_rv, .ref q_hd, .ref q_lk, .ref q_rg])), (q_nt, .inr (2, [.ref q_en, .ref q_ba, .ref q_de, .int (nI n), .int (nI (prs t))])), (q_en, .inl (cI, 32, .inl (aE t))), (q_ba, .inl (cZ, 32, .inl (aB w))), (q_de, .inl (cI, 8, .inl (aN (dg t))))] zs.heap.size = A at hD ⊢
  have hA : ∀ q : Nat, zs.heap.size ≤ q → A q := fun q h => by rw [← hAe]; exact Or.inr h
  have hS : va_S A zs.heap zs.heap [] := va_S.rf
  have hP : va_P D vwCl [(q_x, .inr (5, [.ref q_nt, .ref q_rw, .ref q_rv, .ref q_hd, .ref q_lk, .ref q_rg])), (q_nt, .inr (2, [.ref q_en, .ref q_ba, .ref q_de, .int (nI n), .int (nI (prs t))])), (q_en, .inl (cI, 32, .inl (aE t))), (q_ba, .inl (cZ, 32, .inl (aB w))), (q_de, .inl (cI, 8, .inl (aN (dg t))))] zs.heap := hP
  have hl := lv_entry ([.ref q_x, .int m]) (n := 3) (Nat.le_of_ble_eq_true rfl)
  rw [lg_entry_eq]
  generalize (lg_sl ([.ref q_x, .int m]) ++ List.replicate (3 - (lg_sl ([.ref q_x, .int m])).length) Slot.unset).toArray = ls at hl ⊢
  have hl : lv_has ls 3 [(0, .ref q_x), (1, .int m)] := hl
  have hw := vw
  unfold B_X5_posts_in at hw
  refine lv_iload_n hx hb dX5_posts_0 rfl (lv_at hl 1 rfl) ?_
  refine lv_iconst (v := nI 1) hx hb dX5_posts_1 (by decide +kernel) ?_
  obtain ⟨hwt, hwf⟩ := hw
  refine lv_icmp_lt hx hb (tgt := 11) dX5_posts_2 (by decide) (fun cc => ?_) (fun cc => ?_)
  · replace hw := hwt cc
    refine lv_bipush (v := (-2)) hx hb dX5_posts_11 (by decide +kernel) ?_
    obtain ⟨er, ec_en, ec_ba, ec_de, ec_sz, ec_pr⟩ := hw
    have hP9 : va_P D vwCl [(q_x, .inr (5, [.ref q_nt, .ref q_rw, .ref q_rv, .ref q_hd, .ref q_lk, .ref q_rg])), (q_nt, .inr (2, [.ref q_en, .ref q_ba, .ref q_de, .int (nI n), .int (nI (prs t))])), (q_en, .inl (cI, 32, .inl (aE t))), (q_ba, .inl (cZ, 32, .inl (aB w))), (q_de, .inl (cI, 8, .inl (aN (dg t))))] zs.heap := hP.sub [0, 1, 2, 3, 4] rfl
    have hD9 : va_D A [(q_x, .inr (5, [.ref q_nt, .ref q_rw, .ref q_rv, .ref q_hd, .ref q_lk, .ref q_rg])), (q_nt, .inr (2, [.ref q_en, .ref q_ba, .ref q_de, .int (nI n), .int (nI (prs t))])), (q_en, .inl (cI, 32, .inl (aE t))), (q_ba, .inl (cZ, 32, .inl (aB w))), (q_de, .inl (cI, 8, .inl (aN (dg t))))] := hD.sub [0, 1, 2, 3, 4] (by decide) rfl
    have hP9 : va_P D vwCl [(q_x, .inr (5, [.ref q_nt, .ref q_rw, .ref q_rv, .ref q_hd, .ref q_lk, .ref q_rg])), (q_nt, .inr (2, [.ref q_en, .ref q_ba, .ref q_de, .int (nI n), .int (nI (prs t))])), (q_en, .inl (cI, 32, .inl (aE (poT t m)))), (q_ba, .inl (cZ, 32, .inl (aB w))), (q_de, .inl (cI, 8, .inl (aN (dg t))))] zs.heap := z_arr hP9 2 rfl ec_en
    have hD9 : va_D A [(q_x, .inr (5, [.ref q_nt, .ref q_rw, .ref q_rv, .ref q_hd, .ref q_lk, .ref q_rg])), (q_nt, .inr (2, [.ref q_en, .ref q_ba, .ref q_de, .int (nI n), .int (nI (prs t))])), (q_en, .inl (cI, 32, .inl (aE (poT t m)))), (q_ba, .inl (cZ, 32, .inl (aB w))), (q_de, .inl (cI, 8, .inl (aN (dg t))))] := hD9.set (p := 2) (e := .inl (cI, 32, .inl (aE (poT t m)))) rfl
    have hP9 : va_P D vwCl [(q_x, .inr (5, [.ref q_nt, .ref q_rw, .ref q_rv, .ref q_hd, .ref q_lk, .ref q_rg])), (q_nt, .inr (2, [.ref q_en, .ref q_ba, .ref q_de, .int (nI n), .int (nI (prs t))])), (q_en, .inl (cI, 32, .inl (aE (poT t m)))), (q_ba, .inl (cZ, 32, .inl (aB (poW w m)))), (q_de, .inl (cI, 8, .inl (aN (dg t))))] zs.heap := z_arr hP9 3 rfl (fun zi hi => congrArg bI (ec_ba zi hi))
    have hD9 : va_D A [(q_x, .inr (5, [.ref q_nt, .ref q_rw, .ref q_rv, .ref q_hd, .ref q_lk, .ref q_rg])), (q_nt, .inr (2, [.ref q_en, .ref q_ba, .ref q_de, .int (nI n), .int (nI (prs t))])), (q_en, .inl (cI, 32, .inl (aE (poT t m)))), (q_ba, .inl (cZ, 32, .inl (aB (poW w m)))), (q_de, .inl (cI, 8, .inl (aN (dg t))))] := hD9.set (p := 3) (e := .inl (cZ, 32, .inl (aB (poW w m)))) rfl
    have hP9 : va_P D vwCl [(q_x, .inr (5, [.ref q_nt, .ref q_rw, .ref q_rv, .ref q_hd, .ref q_lk, .ref q_rg])), (q_nt, .inr (2, [.ref q_en, .ref q_ba, .ref q_de, .int (nI n), .int (nI (prs t))])), (q_en, .inl (cI, 32, .inl (aE (poT t m)))), (q_ba, .inl (cZ, 32, .inl (aB (poW w m)))), (q_de, .inl (cI, 8, .inl (aN (dg (poT t m)))))] zs.heap := z_arr hP9 4 rfl (fun zi hi => congrArg nI (ec_de zi hi))
    have hD9 : va_D A [(q_x, .inr (5, [.ref q_nt, .ref q_rw, .ref q_rv, .ref q_hd, .ref q_lk, .ref q_rg])), (q_nt, .inr (2, [.ref q_en, .ref q_ba, .ref q_de, .int (nI n), .int (nI (prs t))])), (q_en, .inl (cI, 32, .inl (aE (poT t m)))), (q_ba, .inl (cZ, 32, .inl (aB (poW w m)))), (q_de, .inl (cI, 8, .inl (aN (dg (poT t m)))))] := hD9.set (p := 4) (e := .inl (cI, 8, .inl (aN (dg (poT t m))))) rfl
    have hP9 : va_P D vwCl [(q_x, .inr (5, [.ref q_nt, .ref q_rw, .ref q_rv, .ref q_hd, .ref q_lk, .ref q_rg])), (q_nt, .inr (2, [.ref q_en, .ref q_ba, .ref q_de, .int (nI (poN n m)), .int (nI (prs t))])), (q_en, .inl (cI, 32, .inl (aE (poT t m)))), (q_ba, .inl (cZ, 32, .inl (aB (poW w m)))), (q_de, .inl (cI, 8, .inl (aN (dg (poT t m)))))] zs.heap := (congrArg (fun z9 : Nat => va_P D vwCl [(q_x, .inr (5, [.ref q_nt, .ref q_rw, .ref q_rv, .ref q_hd, .ref q_lk, .ref q_rg])), (q_nt, .inr (2, [.ref q_en, .ref q_ba, .ref q_de, .int (nI z9), .int (nI (prs t))])), (q_en, .inl (cI, 32, .inl (aE (poT t m)))), (q_ba, .inl (cZ, 32, .inl (aB (poW w m)))), (q_de, .inl (cI, 8, .inl (aN (dg (poT t m)))))] zs.heap) ec_sz).mp hP9
    have hD9 : va_D A [(q_x, .inr (5, [.ref q_nt, .ref q_rw, .ref q_rv, .ref q_hd, .ref q_lk, .ref q_rg])), (q_nt, .inr (2, [.ref q_en, .ref q_ba, .ref q_de, .int (nI (poN n m)), .int (nI (prs t))])), (q_en, .inl (cI, 32, .inl (aE (poT t m)))), (q_ba, .inl (cZ, 32, .inl (aB (poW w m)))), (q_de, .inl (cI, 8, .inl (aN (dg (poT t m)))))] := (congrArg (fun z9 : Nat => va_D A [(q_x, .inr (5, [.ref q_nt, .ref q_rw, .ref q_rv, .ref q_hd, .ref q_lk, .ref q_rg])), (q_nt, .inr (2, [.ref q_en, .ref q_ba, .ref q_de, .int (nI z9), .int (nI (prs t))])), (q_en, .inl (cI, 32, .inl (aE (poT t m)))), (q_ba, .inl (cZ, 32, .inl (aB (poW w m)))), (q_de, .inl (cI, 8, .inl (aN (dg (poT t m)))))]) ec_sz).mp hD9
    have hP9 : va_P D vwCl [(q_x, .inr (5, [.ref q_nt, .ref q_rw, .ref q_rv, .ref q_hd, .ref q_lk, .ref q_rg])), (q_nt, .inr (2, [.ref q_en, .ref q_ba, .ref q_de, .int (nI (poN n m)), .int (nI (prs (poT t m)))])), (q_en, .inl (cI, 32, .inl (aE (poT t m)))), (q_ba, .inl (cZ, 32, .inl (aB (poW w m)))), (q_de, .inl (cI, 8, .inl (aN (dg (poT t m)))))] zs.heap := (congrArg (fun z9 : Nat => va_P D vwCl [(q_x, .inr (5, [.ref q_nt, .ref q_rw, .ref q_rv, .ref q_hd, .ref q_lk, .ref q_rg])), (q_nt, .inr (2, [.ref q_en, .ref q_ba, .ref q_de, .int (nI (poN n m)), .int (nI z9)])), (q_en, .inl (cI, 32, .inl (aE (poT t m)))), (q_ba, .inl (cZ, 32, .inl (aB (poW w m)))), (q_de, .inl (cI, 8, .inl (aN (dg (poT t m)))))] zs.heap) ec_pr).mp hP9
    have hD9 : va_D A [(q_x, .inr (5, [.ref q_nt, .ref q_rw, .ref q_rv, .ref q_hd, .ref q_lk, .ref q_rg])), (q_nt, .inr (2, [.ref q_en, .ref q_ba, .ref q_de, .int (nI (poN n m)), .int (nI (prs (poT t m)))])), (q_en, .inl (cI, 32, .inl (aE (poT t m)))), (q_ba, .inl (cZ, 32, .inl (aB (poW w m)))), (q_de, .inl (cI, 8, .inl (aN (dg (poT t m)))))] := (congrArg (fun z9 : Nat => va_D A [(q_x, .inr (5, [.ref q_nt, .ref q_rw, .ref q_rv, .ref q_hd, .ref q_lk, .ref q_rg])), (q_nt, .inr (2, [.ref q_en, .ref q_ba, .ref q_de, .int (nI (poN n m)), .int (nI z9)])), (q_en, .inl (cI, 32, .inl (aE (poT t m)))), (q_ba, .inl (cZ, 32, .inl (aB (poW w m)))), (q_de, .inl (cI, 8, .inl (aN (dg (poT t m)))))]) ec_pr).mp hD9
    exact W.iret (v := (-2)) hx hb hr (fun t ht hW => ⟨⟨_, (), rfl, er, by rw [ht]; exact hP9, hD9⟩, hS.F ht⟩) hS.2.2 dX5_posts_13
  · replace hw := hwf cc
    refine lv_iload_n hx hb dX5_posts_5 rfl (lv_at hl 1 rfl) ?_
    refine lv_bipush (v := nI 8) hx hb dX5_posts_6 (by decide +kernel) ?_
    obtain ⟨hwt, hwf⟩ := hw
    refine lv_icmp_le hx hb (tgt := 14) dX5_posts_8 (by decide) (fun cc => ?_) (fun cc => ?_)
    · replace hw := hwt cc
      refine lv_aload_n hx hb dX5_posts_14 rfl (lv_at hl 0 rfl) ?_
      refine va_get (D := D) (ci := 5) (v := .ref q_nt) (C := RX5) (T := TX5) (N := 6) hx hb hts i_X5_posts_X5 hown hZ.1 hP 0 rfl rfl 0 (by decide) (hts _ m_X5_posts_f10) (fun _ h9 => h9) rfl dX5_posts_15 ?_
      refine va_get (D := D) (ci := 2) (v := .int (nI n)) (C := RX2) (T := TX2) (N := 5) hx hb hts i_X5_posts_X2 hown hZ.1 hP 1 rfl rfl 3 (by decide) (hts _ m_X5_posts_f49) (fun _ h9 => h9) rfl dX5_posts_18 ?_
      refine lv_istore_n (lv' := [(2, .int (nI n)), (0, .ref q_x), (1, .int m)]) hx hb dX5_posts_21 rfl hl (by decide) rfl (fun ls hl => ?_)
      refine lv_aload_n hx hb dX5_posts_22 rfl (lv_at hl 1 rfl) ?_
      refine va_get (D := D) (ci := 5) (v := .ref q_nt) (C := RX5) (T := TX5) (N := 6) hx hb hts i_X5_posts_X5 hown hZ.1 hP 0 rfl rfl 0 (by decide) (hts _ m_X5_posts_f10) (fun _ h9 => h9) rfl dX5_posts_23 ?_
      refine lv_iload_n hx hb dX5_posts_26 rfl (lv_at hl 2 rfl) ?_
      obtain ⟨zk1, ezk1, hw⟩ := hw
      refine z_st (st' := [.int (nI zk1), .ref q_nt]) (by rw [ezk1]) ?_
      have hPc : va_P D vwCl [(q_nt, .inr (2, [.ref q_en, .ref q_ba, .ref q_de, .int (nI n), .int (nI (prs t))])), (q_en, .inl (cI, 32, .inl ((aE t)))), (q_ba, .inl (cZ, 32, .inl (aB w))), (q_de, .inl (cI, 8, .inl ((aN (dg t)))))] zs.heap := hP.sub [1, 2, 3, 4] rfl
      have hDc : va_D A [(q_nt, .inr (2, [.ref q_en, .ref q_ba, .ref q_de, .int (nI n), .int (nI (prs t))])), (q_en, .inl (cI, 32, .inl ((aE t)))), (q_ba, .inl (cZ, 32, .inl (aB w))), (q_de, .inl (cI, 8, .inl ((aN (dg t)))))] := hD.sub [1, 2, 3, 4] (by decide) rfl
      have hFc := va_free (wc := [(q_nt, .inr (2, [.ref q_en, .ref q_ba, .ref q_de, .int (nI n), .int (nI (prs t))])), (q_en, .inl (cI, 32, .inl ((aE t)))), (q_ba, .inl (cZ, 32, .inl (aB w))), (q_de, .inl (cI, 8, .inl ((aN (dg t)))))]) hD hS hA [1, 2, 3, 4] rfl
      refine va_callv (va_runV (As := [.int (nI zk1)]) (rest := []) ⟨hx, hb, hml, hown, hts⟩ (k_X2_begin q_nt q_en q_ba q_de zs.heap.size (aE t) w (aN (dg t)) (nI n) (nI (prs t)) zk1) (cwV 1 hts gX5_posts_X2_begin rfl rfl rfl (by decide +kernel) ⟨Nat.le_of_ble_eq_true rfl, Nat.le_of_ble_eq_true rfl⟩) (zPw_V hZ hPc (hDc.weaken (fun _ _ _ _ => trivial)) 0 rfl rfl) rfl rfl hl.1 rfl (lv_room (Nat.le_of_ble_eq_true rfl)) dX5_posts_27 ⟨Nat.zero_le _, Nat.zero_le _⟩) hS (fun q _ h => hFc q h) hFc (fun zu zt H1 locs1 ht hvm hq hB hz1 hk1 hS => ?_)
      obtain ⟨hP1, hD1⟩ := hB
      rw [ht] at hP1
      obtain ⟨hP, hD⟩ := va_join (wr := [(q_x, .inr (5, [.ref q_nt, .ref q_rw, .ref q_rv, .ref q_hd, .ref q_lk, .ref q_rg]))]) (w1 := [(q_nt, .inr (2, [.ref q_en, .ref q_ba, .ref q_de, .int (nI zk1), .int (nI (prs tF))])), (q_en, .inl (cI, 32, .inl (aE tF))), (q_ba, .inl (cZ, 32, .inl (aB wF))), (q_de, .inl (cI, 8, .inl (aN (dg tF))))]) hP hD [1, 2, 3, 4] [0] rfl rfl (by decide) (by decide) hk1 hFc hP1 hD1
      have hP : va_P D vwCl [(q_x, .inr (5, [.ref q_nt, .ref q_rw, .ref q_rv, .ref q_hd, .ref q_lk, .ref q_rg])), (q_nt, .inr (2, [.ref q_en, .ref q_ba, .ref q_de, .int (nI zk1), .int (nI (prs tF))])), (q_en, .inl (cI, 32, .inl (aE tF))), (q_ba, .inl (cZ, 32, .inl (aB wF))), (q_de, .inl (cI, 8, .inl (aN (dg tF))))] H1 := hP
      have hD : va_D A [(q_x, .inr (5, [.ref q_nt, .ref q_rw, .ref q_rv, .ref q_hd, .ref q_lk, .ref q_rg])), (q_nt, .inr (2, [.ref q_en, .ref q_ba, .ref q_de, .int (nI zk1), .int (nI (prs tF))])), (q_en, .inl (cI, 32, .inl (aE tF))), (q_ba, .inl (cZ, 32, .inl (aB wF))), (q_de, .inl (cI, 8, .inl (aN (dg tF))))] := hD
      clear hP1 hD1 hk1 hz1 hFc hDc hPc ht hvm
      refine lv_iload_n hx hb dX5_posts_30 rfl (lv_at hl 0 rfl) ?_
      obtain ⟨er, ec_en, ec_ba, ec_de, ec_sz, ec_pr⟩ := hw
      have hP9 : va_P D vwCl [(q_x, .inr (5, [.ref q_nt, .ref q_rw, .ref q_rv, .ref q_hd, .ref q_lk, .ref q_rg])), (q_nt, .inr (2, [.ref q_en, .ref q_ba, .ref q_de, .int (nI zk1), .int (nI (prs tF))])), (q_en, .inl (cI, 32, .inl (aE tF))), (q_ba, .inl (cZ, 32, .inl (aB wF))), (q_de, .inl (cI, 8, .inl (aN (dg tF))))] H1 := hP.sub [0, 1, 2, 3, 4] rfl
      have hD9 : va_D A [(q_x, .inr (5, [.ref q_nt, .ref q_rw, .ref q_rv, .ref q_hd, .ref q_lk, .ref q_rg])), (q_nt, .inr (2, [.ref q_en, .ref q_ba, .ref q_de, .int (nI zk1), .int (nI (prs tF))])), (q_en, .inl (cI, 32, .inl (aE tF))), (q_ba, .inl (cZ, 32, .inl (aB wF))), (q_de, .inl (cI, 8, .inl (aN (dg tF))))] := hD.sub [0, 1, 2, 3, 4] (by decide) rfl
      have hP9 : va_P D vwCl [(q_x, .inr (5, [.ref q_nt, .ref q_rw, .ref q_rv, .ref q_hd, .ref q_lk, .ref q_rg])), (q_nt, .inr (2, [.ref q_en, .ref q_ba, .ref q_de, .int (nI zk1), .int (nI (prs tF))])), (q_en, .inl (cI, 32, .inl (aE (poT t m)))), (q_ba, .inl (cZ, 32, .inl (aB wF))), (q_de, .inl (cI, 8, .inl (aN (dg tF))))] H1 := z_arr hP9 2 rfl ec_en
      have hD9 : va_D A [(q_x, .inr (5, [.ref q_nt, .ref q_rw, .ref q_rv, .ref q_hd, .ref q_lk, .ref q_rg])), (q_nt, .inr (2, [.ref q_en, .ref q_ba, .ref q_de, .int (nI zk1), .int (nI (prs tF))])), (q_en, .inl (cI, 32, .inl (aE (poT t m)))), (q_ba, .inl (cZ, 32, .inl (aB wF))), (q_de, .inl (cI, 8, .inl (aN (dg tF))))] := hD9.set (p := 2) (e := .inl (cI, 32, .inl (aE (poT t m)))) rfl
      have hP9 : va_P D vwCl [(q_x, .inr (5, [.ref q_nt, .ref q_rw, .ref q_rv, .ref q_hd, .ref q_lk, .ref q_rg])), (q_nt, .inr (2, [.ref q_en, .ref q_ba, .ref q_de, .int (nI zk1), .int (nI (prs tF))])), (q_en, .inl (cI, 32, .inl (aE (poT t m)))), (q_ba, .inl (cZ, 32, .inl (aB (poW w m)))), (q_de, .inl (cI, 8, .inl (aN (dg tF))))] H1 := z_arr hP9 3 rfl (fun zi hi => congrArg bI (ec_ba zi hi))
      have hD9 : va_D A [(q_x, .inr (5, [.ref q_nt, .ref q_rw, .ref q_rv, .ref q_hd, .ref q_lk, .ref q_rg])), (q_nt, .inr (2, [.ref q_en, .ref q_ba, .ref q_de, .int (nI zk1), .int (nI (prs tF))])), (q_en, .inl (cI, 32, .inl (aE (poT t m)))), (q_ba, .inl (cZ, 32, .inl (aB (poW w m)))), (q_de, .inl (cI, 8, .inl (aN (dg tF))))] := hD9.set (p := 3) (e := .inl (cZ, 32, .inl (aB (poW w m)))) rfl
      have hP9 : va_P D vwCl [(q_x, .inr (5, [.ref q_nt, .ref q_rw, .ref q_rv, .ref q_hd, .ref q_lk, .ref q_rg])), (q_nt, .inr (2, [.ref q_en, .ref q_ba, .ref q_de, .int (nI zk1), .int (nI (prs tF))])), (q_en, .inl (cI, 32, .inl (aE (poT t m)))), (q_ba, .inl (cZ, 32, .inl (aB (poW w m)))), (q_de, .inl (cI, 8, .inl (aN (dg (poT t m)))))] H1 := z_arr hP9 4 rfl (fun zi hi => congrArg nI (ec_de zi hi))
      have hD9 : va_D A [(q_x, .inr (5, [.ref q_nt, .ref q_rw, .ref q_rv, .ref q_hd, .ref q_lk, .ref q_rg])), (q_nt, .inr (2, [.ref q_en, .ref q_ba, .ref q_de, .int (nI zk1), .int (nI (prs tF))])), (q_en, .inl (cI, 32, .inl (aE (poT t m)))), (q_ba, .inl (cZ, 32, .inl (aB (poW w m)))), (q_de, .inl (cI, 8, .inl (aN (dg (poT t m)))))] := hD9.set (p := 4) (e := .inl (cI, 8, .inl (aN (dg (poT t m))))) rfl
      have hP9 : va_P D vwCl [(q_x, .inr (5, [.ref q_nt, .ref q_rw, .ref q_rv, .ref q_hd, .ref q_lk, .ref q_rg])), (q_nt, .inr (2, [.ref q_en, .ref q_ba, .ref q_de, .int (nI (poN n m)), .int (nI (prs tF))])), (q_en, .inl (cI, 32, .inl (aE (poT t m)))), (q_ba, .inl (cZ, 32, .inl (aB (poW w m)))), (q_de, .inl (cI, 8, .inl (aN (dg (poT t m)))))] H1 := (congrArg (fun z9 : Nat => va_P D vwCl [(q_x, .inr (5, [.ref q_nt, .ref q_rw, .ref q_rv, .ref q_hd, .ref q_lk, .ref q_rg])), (q_nt, .inr (2, [.ref q_en, .ref q_ba, .ref q_de, .int (nI z9), .int (nI (prs tF))])), (q_en, .inl (cI, 32, .inl (aE (poT t m)))), (q_ba, .inl (cZ, 32, .inl (aB (poW w m)))), (q_de, .inl (cI, 8, .inl (aN (dg (poT t m)))))] H1) ec_sz).mp hP9
      have hD9 : va_D A [(q_x, .inr (5, [.ref q_nt, .ref q_rw, .ref q_rv, .ref q_hd, .ref q_lk, .ref q_rg])), (q_nt, .inr (2, [.ref q_en, .ref q_ba, .ref q_de, .int (nI (poN n m)), .int (nI (prs tF))])), (q_en, .inl (cI, 32, .inl (aE (poT t m)))), (q_ba, .inl (cZ, 32, .inl (aB (poW w m)))), (q_de, .inl (cI, 8, .inl (aN (dg (poT t m)))))] := (congrArg (fun z9 : Nat => va_D A [(q_x, .inr (5, [.ref q_nt, .ref q_rw, .ref q_rv, .ref q_hd, .ref q_lk, .ref q_rg])), (q_nt, .inr (2, [.ref q_en, .ref q_ba, .ref q_de, .int (nI z9), .int (nI (prs tF))])), (q_en, .inl (cI, 32, .inl (aE (poT t m)))), (q_ba, .inl (cZ, 32, .inl (aB (poW w m)))), (q_de, .inl (cI, 8, .inl (aN (dg (poT t m)))))]) ec_sz).mp hD9
      have hP9 : va_P D vwCl [(q_x, .inr (5, [.ref q_nt, .ref q_rw, .ref q_rv, .ref q_hd, .ref q_lk, .ref q_rg])), (q_nt, .inr (2, [.ref q_en, .ref q_ba, .ref q_de, .int (nI (poN n m)), .int (nI (prs (poT t m)))])), (q_en, .inl (cI, 32, .inl (aE (poT t m)))), (q_ba, .inl (cZ, 32, .inl (aB (poW w m)))), (q_de, .inl (cI, 8, .inl (aN (dg (poT t m)))))] H1 := (congrArg (fun z9 : Nat => va_P D vwCl [(q_x, .inr (5, [.ref q_nt, .ref q_rw, .ref q_rv, .ref q_hd, .ref q_lk, .ref q_rg])), (q_nt, .inr (2, [.ref q_en, .ref q_ba, .ref q_de, .int (nI (poN n m)), .int (nI z9)])), (q_en, .inl (cI, 32, .inl (aE (poT t m)))), (q_ba, .inl (cZ, 32, .inl (aB (poW w m)))), (q_de, .inl (cI, 8, .inl (aN (dg (poT t m)))))] H1) ec_pr).mp hP9
      have hD9 : va_D A [(q_x, .inr (5, [.ref q_nt, .ref q_rw, .ref q_rv, .ref q_hd, .ref q_lk, .ref q_rg])), (q_nt, .inr (2, [.ref q_en, .ref q_ba, .ref q_de, .int (nI (poN n m)), .int (nI (prs (poT t m)))])), (q_en, .inl (cI, 32, .inl (aE (poT t m)))), (q_ba, .inl (cZ, 32, .inl (aB (poW w m)))), (q_de, .inl (cI, 8, .inl (aN (dg (poT t m)))))] := (congrArg (fun z9 : Nat => va_D A [(q_x, .inr (5, [.ref q_nt, .ref q_rw, .ref q_rv, .ref q_hd, .ref q_lk, .ref q_rg])), (q_nt, .inr (2, [.ref q_en, .ref q_ba, .ref q_de, .int (nI (poN n m)), .int (nI z9)])), (q_en, .inl (cI, 32, .inl (aE (poT t m)))), (q_ba, .inl (cZ, 32, .inl (aB (poW w m)))), (q_de, .inl (cI, 8, .inl (aN (dg (poT t m)))))]) ec_pr).mp hD9
      exact W.iret (v := nI n) hx hb hr (fun t ht hW => ⟨⟨_, (), rfl, er, by rw [ht]; exact hP9, hD9⟩, hS.F ht⟩) hS.2.2 dX5_posts_31
    · replace hw := hwf cc
      refine lv_bipush (v := (-2)) hx hb dX5_posts_11 (by decide +kernel) ?_
      obtain ⟨er, ec_en, ec_ba, ec_de, ec_sz, ec_pr⟩ := hw
      have hP9 : va_P D vwCl [(q_x, .inr (5, [.ref q_nt, .ref q_rw, .ref q_rv, .ref q_hd, .ref q_lk, .ref q_rg])), (q_nt, .inr (2, [.ref q_en, .ref q_ba, .ref q_de, .int (nI n), .int (nI (prs t))])), (q_en, .inl (cI, 32, .inl (aE t))), (q_ba, .inl (cZ, 32, .inl (aB w))), (q_de, .inl (cI, 8, .inl (aN (dg t))))] zs.heap := hP.sub [0, 1, 2, 3, 4] rfl
      have hD9 : va_D A [(q_x, .inr (5, [.ref q_nt, .ref q_rw, .ref q_rv, .ref q_hd, .ref q_lk, .ref q_rg])), (q_nt, .inr (2, [.ref q_en, .ref q_ba, .ref q_de, .int (nI n), .int (nI (prs t))])), (q_en, .inl (cI, 32, .inl (aE t))), (q_ba, .inl (cZ, 32, .inl (aB w))), (q_de, .inl (cI, 8, .inl (aN (dg t))))] := hD.sub [0, 1, 2, 3, 4] (by decide) rfl
      have hP9 : va_P D vwCl [(q_x, .inr (5, [.ref q_nt, .ref q_rw, .ref q_rv, .ref q_hd, .ref q_lk, .ref q_rg])), (q_nt, .inr (2, [.ref q_en, .ref q_ba, .ref q_de, .int (nI n), .int (nI (prs t))])), (q_en, .inl (cI, 32, .inl (aE (poT t m)))), (q_ba, .inl (cZ, 32, .inl (aB w))), (q_de, .inl (cI, 8, .inl (aN (dg t))))] zs.heap := z_arr hP9 2 rfl ec_en
      have hD9 : va_D A [(q_x, .inr (5, [.ref q_nt, .ref q_rw, .ref q_rv, .ref q_hd, .ref q_lk, .ref q_rg])), (q_nt, .inr (2, [.ref q_en, .ref q_ba, .ref q_de, .int (nI n), .int (nI (prs t))])), (q_en, .inl (cI, 32, .inl (aE (poT t m)))), (q_ba, .inl (cZ, 32, .inl (aB w))), (q_de, .inl (cI, 8, .inl (aN (dg t))))] := hD9.set (p := 2) (e := .inl (cI, 32, .inl (aE (poT t m)))) rfl
      have hP9 : va_P D vwCl [(q_x, .inr (5, [.ref q_nt, .ref q_rw, .ref q_rv, .ref q_hd, .ref q_lk, .ref q_rg])), (q_nt, .inr (2, [.ref q_en, .ref q_ba, .ref q_de, .int (nI n), .int (nI (prs t))])), (q_en, .inl (cI, 32, .inl (aE (poT t m)))), (q_ba, .inl (cZ, 32, .inl (aB (poW w m)))), (q_de, .inl (cI, 8, .inl (aN (dg t))))] zs.heap := z_arr hP9 3 rfl (fun zi hi => congrArg bI (ec_ba zi hi))
      have hD9 : va_D A [(q_x, .inr (5, [.ref q_nt, .ref q_rw, .ref q_rv, .ref q_hd, .ref q_lk, .ref q_rg])), (q_nt, .inr (2, [.ref q_en, .ref q_ba, .ref q_de, .int (nI n), .int (nI (prs t))])), (q_en, .inl (cI, 32, .inl (aE (poT t m)))), (q_ba, .inl (cZ, 32, .inl (aB (poW w m)))), (q_de, .inl (cI, 8, .inl (aN (dg t))))] := hD9.set (p := 3) (e := .inl (cZ, 32, .inl (aB (poW w m)))) rfl
      have hP9 : va_P D vwCl [(q_x, .inr (5, [.ref q_nt, .ref q_rw, .ref q_rv, .ref q_hd, .ref q_lk, .ref q_rg])), (q_nt, .inr (2, [.ref q_en, .ref q_ba, .ref q_de, .int (nI n), .int (nI (prs t))])), (q_en, .inl (cI, 32, .inl (aE (poT t m)))), (q_ba, .inl (cZ, 32, .inl (aB (poW w m)))), (q_de, .inl (cI, 8, .inl (aN (dg (poT t m)))))] zs.heap := z_arr hP9 4 rfl (fun zi hi => congrArg nI (ec_de zi hi))
      have hD9 : va_D A [(q_x, .inr (5, [.ref q_nt, .ref q_rw, .ref q_rv, .ref q_hd, .ref q_lk, .ref q_rg])), (q_nt, .inr (2, [.ref q_en, .ref q_ba, .ref q_de, .int (nI n), .int (nI (prs t))])), (q_en, .inl (cI, 32, .inl (aE (poT t m)))), (q_ba, .inl (cZ, 32, .inl (aB (poW w m)))), (q_de, .inl (cI, 8, .inl (aN (dg (poT t m)))))] := hD9.set (p := 4) (e := .inl (cI, 8, .inl (aN (dg (poT t m))))) rfl
      have hP9 : va_P D vwCl [(q_x, .inr (5, [.ref q_nt, .ref q_rw, .ref q_rv, .ref q_hd, .ref q_lk, .ref q_rg])), (q_nt, .inr (2, [.ref q_en, .ref q_ba, .ref q_de, .int (nI (poN n m)), .int (nI (prs t))])), (q_en, .inl (cI, 32, .inl (aE (poT t m)))), (q_ba, .inl (cZ, 32, .inl (aB (poW w m)))), (q_de, .inl (cI, 8, .inl (aN (dg (poT t m)))))] zs.heap := (congrArg (fun z9 : Nat => va_P D vwCl [(q_x, .inr (5, [.ref q_nt, .ref q_rw, .ref q_rv, .ref q_hd, .ref q_lk, .ref q_rg])), (q_nt, .inr (2, [.ref q_en, .ref q_ba, .ref q_de, .int (nI z9), .int (nI (prs t))])), (q_en, .inl (cI, 32, .inl (aE (poT t m)))), (q_ba, .inl (cZ, 32, .inl (aB (poW w m)))), (q_de, .inl (cI, 8, .inl (aN (dg (poT t m)))))] zs.heap) ec_sz).mp hP9
      have hD9 : va_D A [(q_x, .inr (5, [.ref q_nt, .ref q_rw, .ref q_rv, .ref q_hd, .ref q_lk, .ref q_rg])), (q_nt, .inr (2, [.ref q_en, .ref q_ba, .ref q_de, .int (nI (poN n m)), .int (nI (prs t))])), (q_en, .inl (cI, 32, .inl (aE (poT t m)))), (q_ba, .inl (cZ, 32, .inl (aB (poW w m)))), (q_de, .inl (cI, 8, .inl (aN (dg (poT t m)))))] := (congrArg (fun z9 : Nat => va_D A [(q_x, .inr (5, [.ref q_nt, .ref q_rw, .ref q_rv, .ref q_hd, .ref q_lk, .ref q_rg])), (q_nt, .inr (2, [.ref q_en, .ref q_ba, .ref q_de, .int (nI z9), .int (nI (prs t))])), (q_en, .inl (cI, 32, .inl (aE (poT t m)))), (q_ba, .inl (cZ, 32, .inl (aB (poW w m)))), (q_de, .inl (cI, 8, .inl (aN (dg (poT t m)))))]) ec_sz).mp hD9
      have hP9 : va_P D vwCl [(q_x, .inr (5, [.ref q_nt, .ref q_rw, .ref q_rv, .ref q_hd, .ref q_lk, .ref q_rg])), (q_nt, .inr (2, [.ref q_en, .ref q_ba, .ref q_de, .int (nI (poN n m)), .int (nI (prs (poT t m)))])), (q_en, .inl (cI, 32, .inl (aE (poT t m)))), (q_ba, .inl (cZ, 32, .inl (aB (poW w m)))), (q_de, .inl (cI, 8, .inl (aN (dg (poT t m)))))] zs.heap := (congrArg (fun z9 : Nat => va_P D vwCl [(q_x, .inr (5, [.ref q_nt, .ref q_rw, .ref q_rv, .ref q_hd, .ref q_lk, .ref q_rg])), (q_nt, .inr (2, [.ref q_en, .ref q_ba, .ref q_de, .int (nI (poN n m)), .int (nI z9)])), (q_en, .inl (cI, 32, .inl (aE (poT t m)))), (q_ba, .inl (cZ, 32, .inl (aB (poW w m)))), (q_de, .inl (cI, 8, .inl (aN (dg (poT t m)))))] zs.heap) ec_pr).mp hP9
      have hD9 : va_D A [(q_x, .inr (5, [.ref q_nt, .ref q_rw, .ref q_rv, .ref q_hd, .ref q_lk, .ref q_rg])), (q_nt, .inr (2, [.ref q_en, .ref q_ba, .ref q_de, .int (nI (poN n m)), .int (nI (prs (poT t m)))])), (q_en, .inl (cI, 32, .inl (aE (poT t m)))), (q_ba, .inl (cZ, 32, .inl (aB (poW w m)))), (q_de, .inl (cI, 8, .inl (aN (dg (poT t m)))))] := (congrArg (fun z9 : Nat => va_D A [(q_x, .inr (5, [.ref q_nt, .ref q_rw, .ref q_rv, .ref q_hd, .ref q_lk, .ref q_rg])), (q_nt, .inr (2, [.ref q_en, .ref q_ba, .ref q_de, .int (nI (poN n m)), .int (nI z9)])), (q_en, .inl (cI, 32, .inl (aE (poT t m)))), (q_ba, .inl (cZ, 32, .inl (aB (poW w m)))), (q_de, .inl (cI, 8, .inl (aN (dg (poT t m)))))]) ec_pr).mp hD9
      exact W.iret (v := (-2)) hx hb hr (fun t ht hW => ⟨⟨_, (), rfl, er, by rw [ht]; exact hP9, hD9⟩, hS.F ht⟩) hS.2.2 dX5_posts_13
theorem m_X5_join_f10 : Cond.fieldLink RX5 10 "NetWalkers" "net" "LNetWalkers$Net;" ∈ wsX5_join := by decide +kernel
theorem i_X5_join_X5 : ∀ w ∈ wsX50, w ∈ wsX5_join := by decide +kernel
theorem m_X5_join_f73 : Cond.fieldLink RX5 73 "NetWalkers$Net" "pairs" "I" ∈ wsX5_join := by decide +kernel
theorem i_X5_join_X2 : ∀ w ∈ wsX20, w ∈ wsX5_join := by decide +kernel
set_option maxRecDepth 100000 in
set_option maxHeartbeats 4000000 in
theorem w_X5_join {l : Launch} {D : va_G} {cI cZ : ClassId} (k_X2_hasPlace : K_X2_hasPlace l D cI cZ) (k_X5_placeOf : K_X5_placeOf l D cI cZ) (k_X2_endOf : K_X2_endOf l D cI cZ) (k_X2_tie : K_X2_tie l D cI cZ) (vv : V_X5_join) : K_X5_join l D cI cZ := by
  intro q_x q_nt q_en q_ba q_de q_rw q_rv q_hd q_lk q_rg sz n t w a da b db hpre0
  have vw := vv n t w a da b db hpre0
  refine Met.ofW (cc := cX5_join) (maxL := 7) (ret := (some .int)) (by decide) rfl ?_
  intro zp ze zs zm zargs zbelow zmeth zc zs1 B hml hv
  obtain ⟨rfl, hsz, hZ, hP, hD0⟩ := hv
  have hx := B.exec
  have hb := B.bytes
  have hr := B.returns
  have hts := atoms_spec (ws := wsX5_join) B.pre
  have hown : zs.vm.findClass RX5 = some zm.cls := findClass_of_methodNamed B.named
  have hlocks := B.notSynchronized
  subst hsz
  have hD := hD0.self (sz := zs.heap.size)
  generalize hAe : va_A [(q_x, .inr (5, [.ref q_nt, .ref q_rw, .ref q_rv, .ref q_hd, .ref q_lk, .ref q_rg])), (q_nt, .inr (2, [.ref q_en, .ref q_ba, .ref q_de, .int (nI n), .int (nI (prs t))])), (q_en, .inl (cI, 32, .inl (aE t))), (q_ba, .inl (cZ, 32, .inl (aB w))), (q_de, .inl (cI, 8, .inl (aN (dg t))))] zs.heap.size = A at hD ⊢
  have hA : ∀ q : Nat, zs.heap.size ≤ q → A q := fun q h => by rw [← hAe]; exact Or.inr h
  have hS : va_S A zs.heap zs.heap [] := va_S.rf
  have hP : va_P D vwCl [(q_x, .inr (5, [.ref q_nt, .ref q_rw, .ref q_rv, .ref q_hd, .ref q_lk, .ref q_rg])), (q_nt, .inr (2, [.ref q_en, .ref q_ba, .ref q_de, .int (nI n), .int (nI (prs t))])), (q_en, .inl (cI, 32, .inl (aE t))), (q_ba, .inl (cZ, 32, .inl (aB w))), (q_de, .inl (cI, 8, .inl (aN (dg t))))] zs.heap := hP
  have hl := lv_entry ([.ref q_x, .int a, .int da, .int b, .int db]) (n := 7) (Nat.le_of_ble_eq_true rfl)
  rw [lg_entry_eq]
  generalize (lg_sl ([.ref q_x, .int a, .int da, .int b, .int db]) ++ List.replicate (7 - (lg_sl ([.ref q_x, .int a, .int da, .int b, .int db])).length) Slot.unset).toArray = ls at hl ⊢
  have hl : lv_has ls 7 [(0, .ref q_x), (1, .int a), (2, .int da), (3, .int b), (4, .int db)] := hl
  have hw := vw
  unfold B_X5_join_in at hw
  refine lv_aload_n hx hb dX5_join_0 rfl (lv_at hl 0 rfl) ?_
  refine va_get (D := D) (ci := 5) (v := .ref q_nt) (C := RX5) (T := TX5) (N := 6) hx hb hts i_X5_join_X5 hown hZ.1 hP 0 rfl rfl 0 (by decide) (hts _ m_X5_join_f10) (fun _ h9 => h9) rfl dX5_join_1 ?_
  refine lv_iload_n hx hb dX5_join_4 rfl (lv_at hl 1 rfl) ?_
  refine lv_iload_n hx hb dX5_join_5 rfl (lv_at hl 2 rfl) ?_
  have hPc : va_P D vwCl [(q_nt, .inr (2, [.ref q_en, .ref q_ba, .ref q_de, .int (nI n), .int (nI (prs t))])), (q_en, .inl (cI, 32, .inl (aE t))), (q_ba, .inl (cZ, 32, .inl (aB w))), (q_de, .inl (cI, 8, .inl (aN (dg t))))] zs.heap := hP.sub [1, 2, 3, 4] rfl
  refine z_ro (va_runV (As := [.int a, .int da]) (rest := []) ⟨hx, hb, hml, hown, hts⟩ (k_X2_hasPlace q_nt q_en q_ba q_de n t w a da) (cwV 2 hts gX5_join_X2_hasPlace rfl rfl rfl (by decide +kernel) ⟨Nat.le_of_ble_eq_true rfl, Nat.le_of_ble_eq_true rfl⟩) (zPr_V hZ hPc 0 rfl rfl) rfl rfl hl.1 rfl (lv_room (Nat.le_of_ble_eq_true rfl)) dX5_join_6 ⟨Nat.zero_le _, Nat.zero_le _⟩) (fun zr1 hzr1 => ?_)
  have ez := hzr1
  rw [ez]
  clear ez hzr1
  obtain ⟨hwt, hwf⟩ := hw
  refine z_if_eqb hx hb (tgt := 25) dX5_join_9 (by decide) (fun cc => ?_) (fun cc => ?_)
  · replace hw := hwt cc
    refine lv_iconst (v := (-1)) hx hb dX5_join_25 (by decide +kernel) ?_
    obtain ⟨er, ec_en, ec_de, ec_pr⟩ := hw
    have hP9 : va_P D vwCl [(q_x, .inr (5, [.ref q_nt, .ref q_rw, .ref q_rv, .ref q_hd, .ref q_lk, .ref q_rg])), (q_nt, .inr (2, [.ref q_en, .ref q_ba, .ref q_de, .int (nI n), .int (nI (prs t))])), (q_en, .inl (cI, 32, .inl (aE t))), (q_ba, .inl (cZ, 32, .inl (aB w))), (q_de, .inl (cI, 8, .inl (aN (dg t))))] zs.heap := hP.sub [0, 1, 2, 3, 4] rfl
    have hD9 : va_D A [(q_x, .inr (5, [.ref q_nt, .ref q_rw, .ref q_rv, .ref q_hd, .ref q_lk, .ref q_rg])), (q_nt, .inr (2, [.ref q_en, .ref q_ba, .ref q_de, .int (nI n), .int (nI (prs t))])), (q_en, .inl (cI, 32, .inl (aE t))), (q_ba, .inl (cZ, 32, .inl (aB w))), (q_de, .inl (cI, 8, .inl (aN (dg t))))] := hD.sub [0, 1, 2, 3, 4] (by decide) rfl
    have hP9 : va_P D vwCl [(q_x, .inr (5, [.ref q_nt, .ref q_rw, .ref q_rv, .ref q_hd, .ref q_lk, .ref q_rg])), (q_nt, .inr (2, [.ref q_en, .ref q_ba, .ref q_de, .int (nI n), .int (nI (prs t))])), (q_en, .inl (cI, 32, .inl (aE (joT n t a da b db)))), (q_ba, .inl (cZ, 32, .inl (aB w))), (q_de, .inl (cI, 8, .inl (aN (dg t))))] zs.heap := z_arr hP9 2 rfl ec_en
    have hD9 : va_D A [(q_x, .inr (5, [.ref q_nt, .ref q_rw, .ref q_rv, .ref q_hd, .ref q_lk, .ref q_rg])), (q_nt, .inr (2, [.ref q_en, .ref q_ba, .ref q_de, .int (nI n), .int (nI (prs t))])), (q_en, .inl (cI, 32, .inl (aE (joT n t a da b db)))), (q_ba, .inl (cZ, 32, .inl (aB w))), (q_de, .inl (cI, 8, .inl (aN (dg t))))] := hD9.set (p := 2) (e := .inl (cI, 32, .inl (aE (joT n t a da b db)))) rfl
    have hP9 : va_P D vwCl [(q_x, .inr (5, [.ref q_nt, .ref q_rw, .ref q_rv, .ref q_hd, .ref q_lk, .ref q_rg])), (q_nt, .inr (2, [.ref q_en, .ref q_ba, .ref q_de, .int (nI n), .int (nI (prs t))])), (q_en, .inl (cI, 32, .inl (aE (joT n t a da b db)))), (q_ba, .inl (cZ, 32, .inl (aB w))), (q_de, .inl (cI, 8, .inl (aN (dg (joT n t a da b db)))))] zs.heap := z_arr hP9 4 rfl (fun zi hi => congrArg nI (ec_de zi hi))
    have hD9 : va_D A [(q_x, .inr (5, [.ref q_nt, .ref q_rw, .ref q_rv, .ref q_hd, .ref q_lk, .ref q_rg])), (q_nt, .inr (2, [.ref q_en, .ref q_ba, .ref q_de, .int (nI n), .int (nI (prs t))])), (q_en, .inl (cI, 32, .inl (aE (joT n t a da b db)))), (q_ba, .inl (cZ, 32, .inl (aB w))), (q_de, .inl (cI, 8, .inl (aN (dg (joT n t a da b db)))))] := hD9.set (p := 4) (e := .inl (cI, 8, .inl (aN (dg (joT n t a da b db))))) rfl
    have hP9 : va_P D vwCl [(q_x, .inr (5, [.ref q_nt, .ref q_rw, .ref q_rv, .ref q_hd, .ref q_lk, .ref q_rg])), (q_nt, .inr (2, [.ref q_en, .ref q_ba, .ref q_de, .int (nI n), .int (nI (prs (joT n t a da b db)))])), (q_en, .inl (cI, 32, .inl (aE (joT n t a da b db)))), (q_ba, .inl (cZ, 32, .inl (aB w))), (q_de, .inl (cI, 8, .inl (aN (dg (joT n t a da b db)))))] zs.heap := (congrArg (fun z9 : Nat => va_P D vwCl [(q_x, .inr (5, [.ref q_nt, .ref q_rw, .ref q_rv, .ref q_hd, .ref q_lk, .ref q_rg])), (q_nt, .inr (2, [.ref q_en, .ref q_ba, .ref q_de, .int (nI n), .int (nI z9)])), (q_en, .inl (cI, 32, .inl (aE (joT n t a da b db)))), (q_ba, .inl (cZ, 32, .inl (aB w))), (q_de, .inl (cI, 8, .inl (aN (dg (joT n t a da b db)))))] zs.heap) ec_pr).mp hP9
    have hD9 : va_D A [(q_x, .inr (5, [.ref q_nt, .ref q_rw, .ref q_rv, .ref q_hd, .ref q_lk, .ref q_rg])), (q_nt, .inr (2, [.ref q_en, .ref q_ba, .ref q_de, .int (nI n), .int (nI (prs (joT n t a da b db)))])), (q_en, .inl (cI, 32, .inl (aE (joT n t a da b db)))), (q_ba, .inl (cZ, 32, .inl (aB w))), (q_de, .inl (cI, 8, .inl (aN (dg (joT n t a da b db)))))] := (congrArg (fun z9 : Nat => va_D A [(q_x, .inr (5, [.ref q_nt, .ref q_rw, .ref q_rv, .ref q_hd, .ref q_lk, .ref q_rg])), (q_nt, .inr (2, [.ref q_en, .ref q_ba, .ref q_de, .int (nI n), .int (nI z9)])), (q_en, .inl (cI, 32, .inl (aE (joT n t a da b db)))), (q_ba, .inl (cZ, 32, .inl (aB w))), (q_de, .inl (cI, 8, .inl (aN (dg (joT n t a da b db)))))]) ec_pr).mp hD9
    exact W.iret (v := (-1)) hx hb hr (fun t ht hW => ⟨⟨_, (), rfl, er, by rw [ht]; exact hP9, hD9⟩, hS.F ht⟩) hS.2.2 dX5_join_26
  · replace hw := hwf cc
    refine lv_aload_n hx hb dX5_join_12 rfl (lv_at hl 0 rfl) ?_
    refine va_get (D := D) (ci := 5) (v := .ref q_nt) (C := RX5) (T := TX5) (N := 6) hx hb hts i_X5_join_X5 hown hZ.1 hP 0 rfl rfl 0 (by decide) (hts _ m_X5_join_f10) (fun _ h9 => h9) rfl dX5_join_13 ?_
    refine lv_iload_n hx hb dX5_join_16 rfl (lv_at hl 3 rfl) ?_
    refine lv_iload hx hb dX5_join_17 (lv_at hl 4 rfl) ?_
    have hPc : va_P D vwCl [(q_nt, .inr (2, [.ref q_en, .ref q_ba, .ref q_de, .int (nI n), .int (nI (prs t))])), (q_en, .inl (cI, 32, .inl (aE t))), (q_ba, .inl (cZ, 32, .inl (aB w))), (q_de, .inl (cI, 8, .inl (aN (dg t))))] zs.heap := hP.sub [1, 2, 3, 4] rfl
    refine z_ro (va_runV (As := [.int b, .int db]) (rest := []) ⟨hx, hb, hml, hown, hts⟩ (k_X2_hasPlace q_nt q_en q_ba q_de n t w b db) (cwV 2 hts gX5_join_X2_hasPlace rfl rfl rfl (by decide +kernel) ⟨Nat.le_of_ble_eq_true rfl, Nat.le_of_ble_eq_true rfl⟩) (zPr_V hZ hPc 0 rfl rfl) rfl rfl hl.1 rfl (lv_room (Nat.le_of_ble_eq_true rfl)) dX5_join_19 ⟨Nat.zero_le _, Nat.zero_le _⟩) (fun zr2 hzr2 => ?_)
    have ez := hzr2
    rw [ez]
    clear ez hzr2
    obtain ⟨hwt, hwf⟩ := hw
    refine z_if_neb hx hb (tgt := 27) dX5_join_22 (by decide) (fun cc => ?_) (fun cc => ?_)
    · replace hw := hwt cc
      refine lv_iload_n hx hb dX5_join_27 rfl (lv_at hl 1 rfl) ?_
      refine lv_iload_n hx hb dX5_join_28 rfl (lv_at hl 2 rfl) ?_
      obtain ⟨zk3, ezk3, hw⟩ := hw
      refine z_st (st' := [.int da, .int (nI zk3)]) (by rw [ezk3]) ?_
      obtain ⟨zk4, ezk4, hw⟩ := hw
      refine z_st (st' := [.int (nI zk4), .int (nI zk3)]) (by rw [ezk4]) ?_
      have hPc : va_P D vwCl [] zs.heap := hP.sub [] rfl
      refine z_ro (va_runS (As := [.int (nI zk3), .int (nI zk4)]) (rest := []) ⟨hx, hb, hml, hown, hts⟩ (k_X5_placeOf zk3 zk4) (va_cwS 2 hts gX5_join_X5_placeOf rfl rfl rfl (by decide +kernel) ⟨Nat.le_of_ble_eq_true rfl, Nat.le_of_ble_eq_true rfl⟩) (zPr_S hZ hPc) rfl rfl hl.1 rfl (lv_room (Nat.le_of_ble_eq_true rfl)) dX5_join_29 ⟨Nat.zero_le _, Nat.zero_le _⟩) (fun zr5 hzr5 => ?_)
      have ez := hzr5
      rw [ez]
      clear ez hzr5
      obtain ⟨zx6, ezx6⟩ : ∃ zx6 : Nat, zx6 = 4 * zk3 + zk4 := ⟨_, rfl⟩
      replace hw := hw zx6 ezx6
      refine z_st (st' := [.int (nI zx6)]) (by rw [ezx6]) ?_
      refine lv_istore (lv' := [(5, .int (nI zx6)), (0, .ref q_x), (1, .int a), (2, .int da), (3, .int b), (4, .int db)]) hx hb dX5_join_32 hl (by decide) rfl (fun ls hl => ?_)
      refine lv_iload_n hx hb dX5_join_34 rfl (lv_at hl 4 rfl) ?_
      refine lv_iload hx hb dX5_join_35 (lv_at hl 5 rfl) ?_
      obtain ⟨zk7, ezk7, hw⟩ := hw
      refine z_st (st' := [.int db, .int (nI zk7)]) (by rw [ezk7]) ?_
      obtain ⟨zk8, ezk8, hw⟩ := hw
      refine z_st (st' := [.int (nI zk8), .int (nI zk7)]) (by rw [ezk8]) ?_
      have hPc : va_P D vwCl [] zs.heap := hP.sub [] rfl
      refine z_ro (va_runS (As := [.int (nI zk7), .int (nI zk8)]) (rest := []) ⟨hx, hb, hml, hown, hts⟩ (k_X5_placeOf zk7 zk8) (va_cwS 2 hts gX5_join_X5_placeOf rfl rfl rfl (by decide +kernel) ⟨Nat.le_of_ble_eq_true rfl, Nat.le_of_ble_eq_true rfl⟩) (zPr_S hZ hPc) rfl rfl hl.1 rfl (lv_room (Nat.le_of_ble_eq_true rfl)) dX5_join_37 ⟨Nat.zero_le _, Nat.zero_le _⟩) (fun zr9 hzr9 => ?_)
      have ez := hzr9
      rw [ez]
      clear ez hzr9
      obtain ⟨zx10, ezx10⟩ : ∃ zx10 : Nat, zx10 = 4 * zk7 + zk8 := ⟨_, rfl⟩
      replace hw := hw zx10 ezx10
      refine z_st (st' := [.int (nI zx10)]) (by rw [ezx10]) ?_
      refine lv_istore (lv' := [(6, .int (nI zx10)), (5, .int (nI zx6)), (0, .ref q_x), (1, .int a), (2, .int da), (3, .int b), (4, .int db)]) hx hb dX5_join_40 hl (by decide) rfl (fun ls hl => ?_)
      refine lv_iload hx hb dX5_join_42 (lv_at hl 1 rfl) ?_
      refine lv_iload hx hb dX5_join_44 (lv_at hl 0 rfl) ?_
      obtain ⟨zh11, hw⟩ := hw
      obtain ⟨zh12, hw⟩ := hw
      obtain ⟨hwt, hwf⟩ := hw
      refine z_icmp_eq hx hb zh11 zh12 (tgt := 75) dX5_join_46 (by decide) (fun cc => ?_) (fun cc => ?_)
      · replace hw := hwt cc
        refine lv_bipush (v := (-5)) hx hb dX5_join_75 (by decide +kernel) ?_
        obtain ⟨er, ec_en, ec_de, ec_pr⟩ := hw
        have hP9 : va_P D vwCl [(q_x, .inr (5, [.ref q_nt, .ref q_rw, .ref q_rv, .ref q_hd, .ref q_lk, .ref q_rg])), (q_nt, .inr (2, [.ref q_en, .ref q_ba, .ref q_de, .int (nI n), .int (nI (prs t))])), (q_en, .inl (cI, 32, .inl (aE t))), (q_ba, .inl (cZ, 32, .inl (aB w))), (q_de, .inl (cI, 8, .inl (aN (dg t))))] zs.heap := hP.sub [0, 1, 2, 3, 4] rfl
        have hD9 : va_D A [(q_x, .inr (5, [.ref q_nt, .ref q_rw, .ref q_rv, .ref q_hd, .ref q_lk, .ref q_rg])), (q_nt, .inr (2, [.ref q_en, .ref q_ba, .ref q_de, .int (nI n), .int (nI (prs t))])), (q_en, .inl (cI, 32, .inl (aE t))), (q_ba, .inl (cZ, 32, .inl (aB w))), (q_de, .inl (cI, 8, .inl (aN (dg t))))] := hD.sub [0, 1, 2, 3, 4] (by decide) rfl
        have hP9 : va_P D vwCl [(q_x, .inr (5, [.ref q_nt, .ref q_rw, .ref q_rv, .ref q_hd, .ref q_lk, .ref q_rg])), (q_nt, .inr (2, [.ref q_en, .ref q_ba, .ref q_de, .int (nI n), .int (nI (prs t))])), (q_en, .inl (cI, 32, .inl (aE (joT n t a da b db)))), (q_ba, .inl (cZ, 32, .inl (aB w))), (q_de, .inl (cI, 8, .inl (aN (dg t))))] zs.heap := z_arr hP9 2 rfl ec_en
        have hD9 : va_D A [(q_x, .inr (5, [.ref q_nt, .ref q_rw, .ref q_rv, .ref q_hd, .ref q_lk, .ref q_rg])), (q_nt, .inr (2, [.ref q_en, .ref q_ba, .ref q_de, .int (nI n), .int (nI (prs t))])), (q_en, .inl (cI, 32, .inl (aE (joT n t a da b db)))), (q_ba, .inl (cZ, 32, .inl (aB w))), (q_de, .inl (cI, 8, .inl (aN (dg t))))] := hD9.set (p := 2) (e := .inl (cI, 32, .inl (aE (joT n t a da b db)))) rfl
        have hP9 : va_P D vwCl [(q_x, .inr (5, [.ref q_nt, .ref q_rw, .ref q_rv, .ref q_hd, .ref q_lk, .ref q_rg])), (q_nt, .inr (2, [.ref q_en, .ref q_ba, .ref q_de, .int (nI n), .int (nI (prs t))])), (q_en, .inl (cI, 32, .inl (aE (joT n t a da b db)))), (q_ba, .inl (cZ, 32, .inl (aB w))), (q_de, .inl (cI, 8, .inl (aN (dg (joT n t a da b db)))))] zs.heap := z_arr hP9 4 rfl (fun zi hi => congrArg nI (ec_de zi hi))
        have hD9 : va_D A [(q_x, .inr (5, [.ref q_nt, .ref q_rw, .ref q_rv, .ref q_hd, .ref q_lk, .ref q_rg])), (q_nt, .inr (2, [.ref q_en, .ref q_ba, .ref q_de, .int (nI n), .int (nI (prs t))])), (q_en, .inl (cI, 32, .inl (aE (joT n t a da b db)))), (q_ba, .inl (cZ, 32, .inl (aB w))), (q_de, .inl (cI, 8, .inl (aN (dg (joT n t a da b db)))))] := hD9.set (p := 4) (e := .inl (cI, 8, .inl (aN (dg (joT n t a da b db))))) rfl
        have hP9 : va_P D vwCl [(q_x, .inr (5, [.ref q_nt, .ref q_rw, .ref q_rv, .ref q_hd, .ref q_lk, .ref q_rg])), (q_nt, .inr (2, [.ref q_en, .ref q_ba, .ref q_de, .int (nI n), .int (nI (prs (joT n t a da b db)))])), (q_en, .inl (cI, 32, .inl (aE (joT n t a da b db)))), (q_ba, .inl (cZ, 32, .inl (aB w))), (q_de, .inl (cI, 8, .inl (aN (dg (joT n t a da b db)))))] zs.heap := (congrArg (fun z9 : Nat => va_P D vwCl [(q_x, .inr (5, [.ref q_nt, .ref q_rw, .ref q_rv, .ref q_hd, .ref q_lk, .ref q_rg])), (q_nt, .inr (2, [.ref q_en, .ref q_ba, .ref q_de, .int (nI n), .int (nI z9)])), (q_en, .inl (cI, 32, .inl (aE (joT n t a da b db)))), (q_ba, .inl (cZ, 32, .inl (aB w))), (q_de, .inl (cI, 8, .inl (aN (dg (joT n t a da b db)))))] zs.heap) ec_pr).mp hP9
        have hD9 : va_D A [(q_x, .inr (5, [.ref q_nt, .ref q_rw, .ref q_rv, .ref q_hd, .ref q_lk, .ref q_rg])), (q_nt, .inr (2, [.ref q_en, .ref q_ba, .ref q_de, .int (nI n), .int (nI (prs (joT n t a da b db)))])), (q_en, .inl (cI, 32, .inl (aE (joT n t a da b db)))), (q_ba, .inl (cZ, 32, .inl (aB w))), (q_de, .inl (cI, 8, .inl (aN (dg (joT n t a da b db)))))] := (congrArg (fun z9 : Nat => va_D A [(q_x, .inr (5, [.ref q_nt, .ref q_rw, .ref q_rv, .ref q_hd, .ref q_lk, .ref q_rg])), (q_nt, .inr (2, [.ref q_en, .ref q_ba, .ref q_de, .int (nI n), .int (nI z9)])), (q_en, .inl (cI, 32, .inl (aE (joT n t a da b db)))), (q_ba, .inl (cZ, 32, .inl (aB w))), (q_de, .inl (cI, 8, .inl (aN (dg (joT n t a da b db)))))]) ec_pr).mp hD9
        exact W.iret (v := (-5)) hx hb hr (fun t ht hW => ⟨⟨_, (), rfl, er, by rw [ht]; exact hP9, hD9⟩, hS.F ht⟩) hS.2.2 dX5_join_77
      · replace hw := hwf cc
        refine lv_aload_n hx hb dX5_join_49 rfl (lv_at hl 2 rfl) ?_
        refine va_get (D := D) (ci := 5) (v := .ref q_nt) (C := RX5) (T := TX5) (N := 6) hx hb hts i_X5_join_X5 hown hZ.1 hP 0 rfl rfl 0 (by decide) (hts _ m_X5_join_f10) (fun _ h9 => h9) rfl dX5_join_50 ?_
        refine lv_iload hx hb dX5_join_53 (lv_at hl 1 rfl) ?_
        obtain ⟨zh13, hw⟩ := hw
        have hPc : va_P D vwCl [(q_nt, .inr (2, [.ref q_en, .ref q_ba, .ref q_de, .int (nI n), .int (nI (prs t))])), (q_en, .inl (cI, 32, .inl (aE t))), (q_ba, .inl (cZ, 32, .inl (aB w))), (q_de, .inl (cI, 8, .inl (aN (dg t))))] zs.heap := hP.sub [1, 2, 3, 4] rfl
        refine z_ro (va_runV (As := [.int (nI zx6)]) (rest := []) ⟨hx, hb, hml, hown, hts⟩ (k_X2_endOf q_nt q_en q_ba q_de n t w zx6 zh13) (cwV 1 hts gX5_join_X2_endOf rfl rfl rfl (by decide +kernel) ⟨Nat.le_of_ble_eq_true rfl, Nat.le_of_ble_eq_true rfl⟩) (zPr_V hZ hPc 0 rfl rfl) rfl rfl hl.1 rfl (lv_room (Nat.le_of_ble_eq_true rfl)) dX5_join_55 ⟨Nat.zero_le _, Nat.zero_le _⟩) (fun zr14 hzr14 => ?_)
        have ez := hzr14
        rw [ez]
        clear ez hzr14
        refine lv_iconst (v := (-1)) hx hb dX5_join_58 (by decide +kernel) ?_
        obtain ⟨hwt, hwf⟩ := hw
        refine lv_icmp_ne hx hb (tgt := 75) dX5_join_59 (by decide) (fun cc => ?_) (fun cc => ?_)
        · replace hw := hwt cc
          refine lv_bipush (v := (-5)) hx hb dX5_join_75 (by decide +kernel) ?_
          obtain ⟨er, ec_en, ec_de, ec_pr⟩ := hw
          have hP9 : va_P D vwCl [(q_x, .inr (5, [.ref q_nt, .ref q_rw, .ref q_rv, .ref q_hd, .ref q_lk, .ref q_rg])), (q_nt, .inr (2, [.ref q_en, .ref q_ba, .ref q_de, .int (nI n), .int (nI (prs t))])), (q_en, .inl (cI, 32, .inl (aE t))), (q_ba, .inl (cZ, 32, .inl (aB w))), (q_de, .inl (cI, 8, .inl (aN (dg t))))] zs.heap := hP.sub [0, 1, 2, 3, 4] rfl
          have hD9 : va_D A [(q_x, .inr (5, [.ref q_nt, .ref q_rw, .ref q_rv, .ref q_hd, .ref q_lk, .ref q_rg])), (q_nt, .inr (2, [.ref q_en, .ref q_ba, .ref q_de, .int (nI n), .int (nI (prs t))])), (q_en, .inl (cI, 32, .inl (aE t))), (q_ba, .inl (cZ, 32, .inl (aB w))), (q_de, .inl (cI, 8, .inl (aN (dg t))))] := hD.sub [0, 1, 2, 3, 4] (by decide) rfl
          have hP9 : va_P D vwCl [(q_x, .inr (5, [.ref q_nt, .ref q_rw, .ref q_rv, .ref q_hd, .ref q_lk, .ref q_rg])), (q_nt, .inr (2, [.ref q_en, .ref q_ba, .ref q_de, .int (nI n), .int (nI (prs t))])), (q_en, .inl (cI, 32, .inl (aE (joT n t a da b db)))), (q_ba, .inl (cZ, 32, .inl (aB w))), (q_de, .inl (cI, 8, .inl (aN (dg t))))] zs.heap := z_arr hP9 2 rfl ec_en
          have hD9 : va_D A [(q_x, .inr (5, [.ref q_nt, .ref q_rw, .ref q_rv, .ref q_hd, .ref q_lk, .ref q_rg])), (q_nt, .inr (2, [.ref q_en, .ref q_ba, .ref q_de, .int (nI n), .int (nI (prs t))])), (q_en, .inl (cI, 32, .inl (aE (joT n t a da b db)))), (q_ba, .inl (cZ, 32, .inl (aB w))), (q_de, .inl (cI, 8, .inl (aN (dg t))))] := hD9.set (p := 2) (e := .inl (cI, 32, .inl (aE (joT n t a da b db)))) rfl
          have hP9 : va_P D vwCl [(q_x, .inr (5, [.ref q_nt, .ref q_rw, .ref q_rv, .ref q_hd, .ref q_lk, .ref q_rg])), (q_nt, .inr (2, [.ref q_en, .ref q_ba, .ref q_de, .int (nI n), .int (nI (prs t))])), (q_en, .inl (cI, 32, .inl (aE (joT n t a da b db)))), (q_ba, .inl (cZ, 32, .inl (aB w))), (q_de, .inl (cI, 8, .inl (aN (dg (joT n t a da b db)))))] zs.heap := z_arr hP9 4 rfl (fun zi hi => congrArg nI (ec_de zi hi))
          have hD9 : va_D A [(q_x, .inr (5, [.ref q_nt, .ref q_rw, .ref q_rv, .ref q_hd, .ref q_lk, .ref q_rg])), (q_nt, .inr (2, [.ref q_en, .ref q_ba, .ref q_de, .int (nI n), .int (nI (prs t))])), (q_en, .inl (cI, 32, .inl (aE (joT n t a da b db)))), (q_ba, .inl (cZ, 32, .inl (aB w))), (q_de, .inl (cI, 8, .inl (aN (dg (joT n t a da b db)))))] := hD9.set (p := 4) (e := .inl (cI, 8, .inl (aN (dg (joT n t a da b db))))) rfl
          have hP9 : va_P D vwCl [(q_x, .inr (5, [.ref q_nt, .ref q_rw, .ref q_rv, .ref q_hd, .ref q_lk, .ref q_rg])), (q_nt, .inr (2, [.ref q_en, .ref q_ba, .ref q_de, .int (nI n), .int (nI (prs (joT n t a da b db)))])), (q_en, .inl (cI, 32, .inl (aE (joT n t a da b db)))), (q_ba, .inl (cZ, 32, .inl (aB w))), (q_de, .inl (cI, 8, .inl (aN (dg (joT n t a da b db)))))] zs.heap := (congrArg (fun z9 : Nat => va_P D vwCl [(q_x, .inr (5, [.ref q_nt, .ref q_rw, .ref q_rv, .ref q_hd, .ref q_lk, .ref q_rg])), (q_nt, .inr (2, [.ref q_en, .ref q_ba, .ref q_de, .int (nI n), .int (nI z9)])), (q_en, .inl (cI, 32, .inl (aE (joT n t a da b db)))), (q_ba, .inl (cZ, 32, .inl (aB w))), (q_de, .inl (cI, 8, .inl (aN (dg (joT n t a da b db)))))] zs.heap) ec_pr).mp hP9
          have hD9 : va_D A [(q_x, .inr (5, [.ref q_nt, .ref q_rw, .ref q_rv, .ref q_hd, .ref q_lk, .ref q_rg])), (q_nt, .inr (2, [.ref q_en, .ref q_ba, .ref q_de, .int (nI n), .int (nI (prs (joT n t a da b db)))])), (q_en, .inl (cI, 32, .inl (aE (joT n t a da b db)))), (q_ba, .inl (cZ, 32, .inl (aB w))), (q_de, .inl (cI, 8, .inl (aN (dg (joT n t a da b db)))))] := (congrArg (fun z9 : Nat => va_D A [(q_x, .inr (5, [.ref q_nt, .ref q_rw, .ref q_rv, .ref q_hd, .ref q_lk, .ref q_rg])), (q_nt, .inr (2, [.ref q_en, .ref q_ba, .ref q_de, .int (nI n), .int (nI z9)])), (q_en, .inl (cI, 32, .inl (aE (joT n t a da b db)))), (q_ba, .inl (cZ, 32, .inl (aB w))), (q_de, .inl (cI, 8, .inl (aN (dg (joT n t a da b db)))))]) ec_pr).mp hD9
          exact W.iret (v := (-5)) hx hb hr (fun t ht hW => ⟨⟨_, (), rfl, er, by rw [ht]; exact hP9, hD9⟩, hS.F ht⟩) hS.2.2 dX5_join_77
        · replace hw := hwf cc
          refine lv_aload_n hx hb dX5_join_62 rfl (lv_at hl 2 rfl) ?_
          refine va_get (D := D) (ci := 5) (v := .ref q_nt) (C := RX5) (T := TX5) (N := 6) hx hb hts i_X5_join_X5 hown hZ.1 hP 0 rfl rfl 0 (by decide) (hts _ m_X5_join_f10) (fun _ h9 => h9) rfl dX5_join_63 ?_
          refine lv_iload hx hb dX5_join_66 (lv_at hl 0 rfl) ?_
          obtain ⟨zh15, hw⟩ := hw
          have hPc : va_P D vwCl [(q_nt, .inr (2, [.ref q_en, .ref q_ba, .ref q_de, .int (nI n), .int (nI (prs t))])), (q_en, .inl (cI, 32, .inl (aE t))), (q_ba, .inl (cZ, 32, .inl (aB w))), (q_de, .inl (cI, 8, .inl (aN (dg t))))] zs.heap := hP.sub [1, 2, 3, 4] rfl
          refine z_ro (va_runV (As := [.int (nI zx10)]) (rest := []) ⟨hx, hb, hml, hown, hts⟩ (k_X2_endOf q_nt q_en q_ba q_de n t w zx10 zh15) (cwV 1 hts gX5_join_X2_endOf rfl rfl rfl (by decide +kernel) ⟨Nat.le_of_ble_eq_true rfl, Nat.le_of_ble_eq_true rfl⟩) (zPr_V hZ hPc 0 rfl rfl) rfl rfl hl.1 rfl (lv_room (Nat.le_of_ble_eq_true rfl)) dX5_join_68 ⟨Nat.zero_le _, Nat.zero_le _⟩) (fun zr16 hzr16 => ?_)
          have ez := hzr16
          rw [ez]
          clear ez hzr16
          refine lv_iconst (v := (-1)) hx hb dX5_join_71 (by decide +kernel) ?_
          obtain ⟨hwt, hwf⟩ := hw
          refine lv_icmp_eq hx hb (tgt := 78) dX5_join_72 (by decide) (fun cc => ?_) (fun cc => ?_)
          · replace hw := hwt cc
            refine lv_aload_n hx hb dX5_join_78 rfl (lv_at hl 2 rfl) ?_
            refine va_get (D := D) (ci := 5) (v := .ref q_nt) (C := RX5) (T := TX5) (N := 6) hx hb hts i_X5_join_X5 hown hZ.1 hP 0 rfl rfl 0 (by decide) (hts _ m_X5_join_f10) (fun _ h9 => h9) rfl dX5_join_79 ?_
            refine lv_iload hx hb dX5_join_82 (lv_at hl 1 rfl) ?_
            refine lv_iload hx hb dX5_join_84 (lv_at hl 0 rfl) ?_
            obtain ⟨zh17, hw⟩ := hw
            obtain ⟨zh18, hw⟩ := hw
            obtain ⟨zh19, hw⟩ := hw
            obtain ⟨zh20, hw⟩ := hw
            obtain ⟨zh21, hw⟩ := hw
            obtain ⟨zh22, hw⟩ := hw
            have hPc : va_P D vwCl [(q_nt, .inr (2, [.ref q_en, .ref q_ba, .ref q_de, .int (nI n), .int (nI (prs t))])), (q_en, .inl (cI, 32, .inl (aE t))), (q_ba, .inl (cZ, 32, .inl (aB w))), (q_de, .inl (cI, 8, .inl (aN (dg t))))] zs.heap := hP.sub [1, 2, 3, 4] rfl
            have hDc : va_D A [(q_nt, .inr (2, [.ref q_en, .ref q_ba, .ref q_de, .int (nI n), .int (nI (prs t))])), (q_en, .inl (cI, 32, .inl (aE t))), (q_ba, .inl (cZ, 32, .inl (aB w))), (q_de, .inl (cI, 8, .inl (aN (dg t))))] := hD.sub [1, 2, 3, 4] (by decide) rfl
            have hFc := va_free (wc := [(q_nt, .inr (2, [.ref q_en, .ref q_ba, .ref q_de, .int (nI n), .int (nI (prs t))])), (q_en, .inl (cI, 32, .inl (aE t))), (q_ba, .inl (cZ, 32, .inl (aB w))), (q_de, .inl (cI, 8, .inl (aN (dg t))))]) hD hS hA [1, 2, 3, 4] rfl
            refine va_callv (va_runV (As := [.int (nI zx6), .int (nI zx10)]) (rest := []) ⟨hx, hb, hml, hown, hts⟩ (k_X2_tie q_nt q_en q_ba q_de zs.heap.size n t w zx6 zx10 zh17 zh18 zh19 zh20 zh21 zh22) (cwV 2 hts gX5_join_X2_tie rfl rfl rfl (by decide +kernel) ⟨Nat.le_of_ble_eq_true rfl, Nat.le_of_ble_eq_true rfl⟩) (zPw_V hZ hPc (hDc.weaken (fun _ _ _ _ => trivial)) 0 rfl rfl) rfl rfl hl.1 rfl (lv_room (Nat.le_of_ble_eq_true rfl)) dX5_join_86 ⟨Nat.zero_le _, Nat.zero_le _⟩) hS (fun q _ h => hFc q h) hFc (fun zu zt H1 locs1 ht hvm hq hB hz1 hk1 hS => ?_)
            obtain ⟨hP1, hD1⟩ := hB
            rw [ht] at hP1
            obtain ⟨hP, hD⟩ := va_join (wr := [(q_x, .inr (5, [.ref q_nt, .ref q_rw, .ref q_rv, .ref q_hd, .ref q_lk, .ref q_rg]))]) (w1 := [(q_nt, .inr (2, [.ref q_en, .ref q_ba, .ref q_de, .int (nI n), .int (nI (prs (tie t zx6 zx10)))])), (q_en, .inl (cI, 32, .inl (aE (tie t zx6 zx10)))), (q_ba, .inl (cZ, 32, .inl (aB w))), (q_de, .inl (cI, 8, .inl (aN (dg (tie t zx6 zx10)))))]) hP hD [1, 2, 3, 4] [0] rfl rfl (by decide) (by decide) hk1 hFc hP1 hD1
            have hP : va_P D vwCl [(q_x, .inr (5, [.ref q_nt, .ref q_rw, .ref q_rv, .ref q_hd, .ref q_lk, .ref q_rg])), (q_nt, .inr (2, [.ref q_en, .ref q_ba, .ref q_de, .int (nI n), .int (nI (prs (tie t zx6 zx10)))])), (q_en, .inl (cI, 32, .inl (aE (tie t zx6 zx10)))), (q_ba, .inl (cZ, 32, .inl (aB w))), (q_de, .inl (cI, 8, .inl (aN (dg (tie t zx6 zx10)))))] H1 := hP
            have hD : va_D A [(q_x, .inr (5, [.ref q_nt, .ref q_rw, .ref q_rv, .ref q_hd, .ref q_lk, .ref q_rg])), (q_nt, .inr (2, [.ref q_en, .ref q_ba, .ref q_de, .int (nI n), .int (nI (prs (tie t zx6 zx10)))])), (q_en, .inl (cI, 32, .inl (aE (tie t zx6 zx10)))), (q_ba, .inl (cZ, 32, .inl (aB w))), (q_de, .inl (cI, 8, .inl (aN (dg (tie t zx6 zx10)))))] := hD
            clear hP1 hD1 hk1 hz1 hFc hDc hPc ht hvm
            refine lv_aload_n hx hb dX5_join_89 rfl (lv_at hl 2 rfl) ?_
            refine va_get (D := D) (ci := 5) (v := .ref q_nt) (C := RX5) (T := TX5) (N := 6) hx hb hts i_X5_join_X5 hown hZ.1 hP 0 rfl rfl 0 (by decide) (hts _ m_X5_join_f10) (fun _ h9 => h9) rfl dX5_join_90 ?_
            refine va_get (D := D) (ci := 2) (v := .int (nI (prs (tie t zx6 zx10)))) (C := RX2) (T := TX2) (N := 5) hx hb hts i_X5_join_X2 hown hZ.1 hP 1 rfl rfl 4 (by decide) (hts _ m_X5_join_f73) (fun _ h9 => h9) rfl dX5_join_93 ?_
            obtain ⟨er, ec_en, ec_de, ec_pr⟩ := hw
            have hP9 : va_P D vwCl [(q_x, .inr (5, [.ref q_nt, .ref q_rw, .ref q_rv, .ref q_hd, .ref q_lk, .ref q_rg])), (q_nt, .inr (2, [.ref q_en, .ref q_ba, .ref q_de, .int (nI n), .int (nI (prs (tie t zx6 zx10)))])), (q_en, .inl (cI, 32, .inl (aE (tie t zx6 zx10)))), (q_ba, .inl (cZ, 32, .inl (aB w))), (q_de, .inl (cI, 8, .inl (aN (dg (tie t zx6 zx10)))))] H1 := hP.sub [0, 1, 2, 3, 4] rfl
            have hD9 : va_D A [(q_x, .inr (5, [.ref q_nt, .ref q_rw, .ref q_rv, .ref q_hd, .ref q_lk, .ref q_rg])), (q_nt, .inr (2, [.ref q_en, .ref q_ba, .ref q_de, .int (nI n), .int (nI (prs (tie t zx6 zx10)))])), (q_en, .inl (cI, 32, .inl (aE (tie t zx6 zx10)))), (q_ba, .inl (cZ, 32, .inl (aB w))), (q_de, .inl (cI, 8, .inl (aN (dg (tie t zx6 zx10)))))] := hD.sub [0, 1, 2, 3, 4] (by decide) rfl
            have hP9 : va_P D vwCl [(q_x, .inr (5, [.ref q_nt, .ref q_rw, .ref q_rv, .ref q_hd, .ref q_lk, .ref q_rg])), (q_nt, .inr (2, [.ref q_en, .ref q_ba, .ref q_de, .int (nI n), .int (nI (prs (tie t zx6 zx10)))])), (q_en, .inl (cI, 32, .inl (aE (joT n t a da b db)))), (q_ba, .inl (cZ, 32, .inl (aB w))), (q_de, .inl (cI, 8, .inl (aN (dg (tie t zx6 zx10)))))] H1 := z_arr hP9 2 rfl ec_en
            have hD9 : va_D A [(q_x, .inr (5, [.ref q_nt, .ref q_rw, .ref q_rv, .ref q_hd, .ref q_lk, .ref q_rg])), (q_nt, .inr (2, [.ref q_en, .ref q_ba, .ref q_de, .int (nI n), .int (nI (prs (tie t zx6 zx10)))])), (q_en, .inl (cI, 32, .inl (aE (joT n t a da b db)))), (q_ba, .inl (cZ, 32, .inl (aB w))), (q_de, .inl (cI, 8, .inl (aN (dg (tie t zx6 zx10)))))] := hD9.set (p := 2) (e := .inl (cI, 32, .inl (aE (joT n t a da b db)))) rfl
            have hP9 : va_P D vwCl [(q_x, .inr (5, [.ref q_nt, .ref q_rw, .ref q_rv, .ref q_hd, .ref q_lk, .ref q_rg])), (q_nt, .inr (2, [.ref q_en, .ref q_ba, .ref q_de, .int (nI n), .int (nI (prs (tie t zx6 zx10)))])), (q_en, .inl (cI, 32, .inl (aE (joT n t a da b db)))), (q_ba, .inl (cZ, 32, .inl (aB w))), (q_de, .inl (cI, 8, .inl (aN (dg (joT n t a da b db)))))] H1 := z_arr hP9 4 rfl (fun zi hi => congrArg nI (ec_de zi hi))
            have hD9 : va_D A [(q_x, .inr (5, [.ref q_nt, .ref q_rw, .ref q_rv, .ref q_hd, .ref q_lk, .ref q_rg])), (q_nt, .inr (2, [.ref q_en, .ref q_ba, .ref q_de, .int (nI n), .int (nI (prs (tie t zx6 zx10)))])), (q_en, .inl (cI, 32, .inl (aE (joT n t a da b db)))), (q_ba, .inl (cZ, 32, .inl (aB w))), (q_de, .inl (cI, 8, .inl (aN (dg (joT n t a da b db)))))] := hD9.set (p := 4) (e := .inl (cI, 8, .inl (aN (dg (joT n t a da b db))))) rfl
            have hP9 : va_P D vwCl [(q_x, .inr (5, [.ref q_nt, .ref q_rw, .ref q_rv, .ref q_hd, .ref q_lk, .ref q_rg])), (q_nt, .inr (2, [.ref q_en, .ref q_ba, .ref q_de, .int (nI n), .int (nI (prs (joT n t a da b db)))])), (q_en, .inl (cI, 32, .inl (aE (joT n t a da b db)))), (q_ba, .inl (cZ, 32, .inl (aB w))), (q_de, .inl (cI, 8, .inl (aN (dg (joT n t a da b db)))))] H1 := (congrArg (fun z9 : Nat => va_P D vwCl [(q_x, .inr (5, [.ref q_nt, .ref q_rw, .ref q_rv, .ref q_hd, .ref q_lk, .ref q_rg])), (q_nt, .inr (2, [.ref q_en, .ref q_ba, .ref q_de, .int (nI n), .int (nI z9)])), (q_en, .inl (cI, 32, .inl (aE (joT n t a da b db)))), (q_ba, .inl (cZ, 32, .inl (aB w))), (q_de, .inl (cI, 8, .inl (aN (dg (joT n t a da b db)))))] H1) ec_pr).mp hP9
            have hD9 : va_D A [(q_x, .inr (5, [.ref q_nt, .ref q_rw, .ref q_rv, .ref q_hd, .ref q_lk, .ref q_rg])), (q_nt, .inr (2, [.ref q_en, .ref q_ba, .ref q_de, .int (nI n), .int (nI (prs (joT n t a da b db)))])), (q_en, .inl (cI, 32, .inl (aE (joT n t a da b db)))), (q_ba, .inl (cZ, 32, .inl (aB w))), (q_de, .inl (cI, 8, .inl (aN (dg (joT n t a da b db)))))] := (congrArg (fun z9 : Nat => va_D A [(q_x, .inr (5, [.ref q_nt, .ref q_rw, .ref q_rv, .ref q_hd, .ref q_lk, .ref q_rg])), (q_nt, .inr (2, [.ref q_en, .ref q_ba, .ref q_de, .int (nI n), .int (nI z9)])), (q_en, .inl (cI, 32, .inl (aE (joT n t a da b db)))), (q_ba, .inl (cZ, 32, .inl (aB w))), (q_de, .inl (cI, 8, .inl (aN (dg (joT n t a da b db)))))]) ec_pr).mp hD9
            exact W.iret (v := nI (prs (tie t zx6 zx10))) hx hb hr (fun t ht hW => ⟨⟨_, (), rfl, er, by rw [ht]; exact hP9, hD9⟩, hS.F ht⟩) hS.2.2 dX5_join_96
          · replace hw := hwf cc
            refine lv_bipush (v := (-5)) hx hb dX5_join_75 (by decide +kernel) ?_
            obtain ⟨er, ec_en, ec_de, ec_pr⟩ := hw
            have hP9 : va_P D vwCl [(q_x, .inr (5, [.ref q_nt, .ref q_rw, .ref q_rv, .ref q_hd, .ref q_lk, .ref q_rg])), (q_nt, .inr (2, [.ref q_en, .ref q_ba, .ref q_de, .int (nI n), .int (nI (prs t))])), (q_en, .inl (cI, 32, .inl (aE t))), (q_ba, .inl (cZ, 32, .inl (aB w))), (q_de, .inl (cI, 8, .inl (aN (dg t))))] zs.heap := hP.sub [0, 1, 2, 3, 4] rfl
            have hD9 : va_D A [(q_x, .inr (5, [.ref q_nt, .ref q_rw, .ref q_rv, .ref q_hd, .ref q_lk, .ref q_rg])), (q_nt, .inr (2, [.ref q_en, .ref q_ba, .ref q_de, .int (nI n), .int (nI (prs t))])), (q_en, .inl (cI, 32, .inl (aE t))), (q_ba, .inl (cZ, 32, .inl (aB w))), (q_de, .inl (cI, 8, .inl (aN (dg t))))] := hD.sub [0, 1, 2, 3, 4] (by decide) rfl
            have hP9 : va_P D vwCl [(q_x, .inr (5, [.ref q_nt, .ref q_rw, .ref q_rv, .ref q_hd, .ref q_lk, .ref q_rg])), (q_nt, .inr (2, [.ref q_en, .ref q_ba, .ref q_de, .int (nI n), .int (nI (prs t))])), (q_en, .inl (cI, 32, .inl (aE (joT n t a da b db)))), (q_ba, .inl (cZ, 32, .inl (aB w))), (q_de, .inl (cI, 8, .inl (aN (dg t))))] zs.heap := z_arr hP9 2 rfl ec_en
            have hD9 : va_D A [(q_x, .inr (5, [.ref q_nt, .ref q_rw, .ref q_rv, .ref q_hd, .ref q_lk, .ref q_rg])), (q_nt, .inr (2, [.ref q_en, .ref q_ba, .ref q_de, .int (nI n), .int (nI (prs t))])), (q_en, .inl (cI, 32, .inl (aE (joT n t a da b db)))), (q_ba, .inl (cZ, 32, .inl (aB w))), (q_de, .inl (cI, 8, .inl (aN (dg t))))] := hD9.set (p := 2) (e := .inl (cI, 32, .inl (aE (joT n t a da b db)))) rfl
            have hP9 : va_P D vwCl [(q_x, .inr (5, [.ref q_nt, .ref q_rw, .ref q_rv, .ref q_hd, .ref q_lk, .ref q_rg])), (q_nt, .inr (2, [.ref q_en, .ref q_ba, .ref q_de, .int (nI n), .int (nI (prs t))])), (q_en, .inl (cI, 32, .inl (aE (joT n t a da b db)))), (q_ba, .inl (cZ, 32, .inl (aB w))), (q_de, .inl (cI, 8, .inl (aN (dg (joT n t a da b db)))))] zs.heap := z_arr hP9 4 rfl (fun zi hi => congrArg nI (ec_de zi hi))
            have hD9 : va_D A [(q_x, .inr (5, [.ref q_nt, .ref q_rw, .ref q_rv, .ref q_hd, .ref q_lk, .ref q_rg])), (q_nt, .inr (2, [.ref q_en, .ref q_ba, .ref q_de, .int (nI n), .int (nI (prs t))])), (q_en, .inl (cI, 32, .inl (aE (joT n t a da b db)))), (q_ba, .inl (cZ, 32, .inl (aB w))), (q_de, .inl (cI, 8, .inl (aN (dg (joT n t a da b db)))))] := hD9.set (p := 4) (e := .inl (cI, 8, .inl (aN (dg (joT n t a da b db))))) rfl
            have hP9 : va_P D vwCl [(q_x, .inr (5, [.ref q_nt, .ref q_rw, .ref q_rv, .ref q_hd, .ref q_lk, .ref q_rg])), (q_nt, .inr (2, [.ref q_en, .ref q_ba, .ref q_de, .int (nI n), .int (nI (prs (joT n t a da b db)))])), (q_en, .inl (cI, 32, .inl (aE (joT n t a da b db)))), (q_ba, .inl (cZ, 32, .inl (aB w))), (q_de, .inl (cI, 8, .inl (aN (dg (joT n t a da b db)))))] zs.heap := (congrArg (fun z9 : Nat => va_P D vwCl [(q_x, .inr (5, [.ref q_nt, .ref q_rw, .ref q_rv, .ref q_hd, .ref q_lk, .ref q_rg])), (q_nt, .inr (2, [.ref q_en, .ref q_ba, .ref q_de, .int (nI n), .int (nI z9)])), (q_en, .inl (cI, 32, .inl (aE (joT n t a da b db)))), (q_ba, .inl (cZ, 32, .inl (aB w))), (q_de, .inl (cI, 8, .inl (aN (dg (joT n t a da b db)))))] zs.heap) ec_pr).mp hP9
            have hD9 : va_D A [(q_x, .inr (5, [.ref q_nt, .ref q_rw, .ref q_rv, .ref q_hd, .ref q_lk, .ref q_rg])), (q_nt, .inr (2, [.ref q_en, .ref q_ba, .ref q_de, .int (nI n), .int (nI (prs (joT n t a da b db)))])), (q_en, .inl (cI, 32, .inl (aE (joT n t a da b db)))), (q_ba, .inl (cZ, 32, .inl (aB w))), (q_de, .inl (cI, 8, .inl (aN (dg (joT n t a da b db)))))] := (congrArg (fun z9 : Nat => va_D A [(q_x, .inr (5, [.ref q_nt, .ref q_rw, .ref q_rv, .ref q_hd, .ref q_lk, .ref q_rg])), (q_nt, .inr (2, [.ref q_en, .ref q_ba, .ref q_de, .int (nI n), .int (nI z9)])), (q_en, .inl (cI, 32, .inl (aE (joT n t a da b db)))), (q_ba, .inl (cZ, 32, .inl (aB w))), (q_de, .inl (cI, 8, .inl (aN (dg (joT n t a da b db)))))]) ec_pr).mp hD9
            exact W.iret (v := (-5)) hx hb hr (fun t ht hW => ⟨⟨_, (), rfl, er, by rw [ht]; exact hP9, hD9⟩, hS.F ht⟩) hS.2.2 dX5_join_77
    · replace hw := hwf cc
      refine lv_iconst (v := (-1)) hx hb dX5_join_25 (by decide +kernel) ?_
      obtain ⟨er, ec_en, ec_de, ec_pr⟩ := hw
      have hP9 : va_P D vwCl [(q_x, .inr (5, [.ref q_nt, .ref q_rw, .ref q_rv, .ref q_hd, .ref q_lk, .ref q_rg])), (q_nt, .inr (2, [.ref q_en, .ref q_ba, .ref q_de, .int (nI n), .int (nI (prs t))])), (q_en, .inl (cI, 32, .inl (aE t))), (q_ba, .inl (cZ, 32, .inl (aB w))), (q_de, .inl (cI, 8, .inl (aN (dg t))))] zs.heap := hP.sub [0, 1, 2, 3, 4] rfl
      have hD9 : va_D A [(q_x, .inr (5, [.ref q_nt, .ref q_rw, .ref q_rv, .ref q_hd, .ref q_lk, .ref q_rg])), (q_nt, .inr (2, [.ref q_en, .ref q_ba, .ref q_de, .int (nI n), .int (nI (prs t))])), (q_en, .inl (cI, 32, .inl (aE t))), (q_ba, .inl (cZ, 32, .inl (aB w))), (q_de, .inl (cI, 8, .inl (aN (dg t))))] := hD.sub [0, 1, 2, 3, 4] (by decide) rfl
      have hP9 : va_P D vwCl [(q_x, .inr (5, [.ref q_nt, .ref q_rw, .ref q_rv, .ref q_hd, .ref q_lk, .ref q_rg])), (q_nt, .inr (2, [.ref q_en, .ref q_ba, .ref q_de, .int (nI n), .int (nI (prs t))])), (q_en, .inl (cI, 32, .inl (aE (joT n t a da b db)))), (q_ba, .inl (cZ, 32, .inl (aB w))), (q_de, .inl (cI, 8, .inl (aN (dg t))))] zs.heap := z_arr hP9 2 rfl ec_en
      have hD9 : va_D A [(q_x, .inr (5, [.ref q_nt, .ref q_rw, .ref q_rv, .ref q_hd, .ref q_lk, .ref q_rg])), (q_nt, .inr (2, [.ref q_en, .ref q_ba, .ref q_de, .int (nI n), .int (nI (prs t))])), (q_en, .inl (cI, 32, .inl (aE (joT n t a da b db)))), (q_ba, .inl (cZ, 32, .inl (aB w))), (q_de, .inl (cI, 8, .inl (aN (dg t))))] := hD9.set (p := 2) (e := .inl (cI, 32, .inl (aE (joT n t a da b db)))) rfl
      have hP9 : va_P D vwCl [(q_x, .inr (5, [.ref q_nt, .ref q_rw, .ref q_rv, .ref q_hd, .ref q_lk, .ref q_rg])), (q_nt, .inr (2, [.ref q_en, .ref q_ba, .ref q_de, .int (nI n), .int (nI (prs t))])), (q_en, .inl (cI, 32, .inl (aE (joT n t a da b db)))), (q_ba, .inl (cZ, 32, .inl (aB w))), (q_de, .inl (cI, 8, .inl (aN (dg (joT n t a da b db)))))] zs.heap := z_arr hP9 4 rfl (fun zi hi => congrArg nI (ec_de zi hi))
      have hD9 : va_D A [(q_x, .inr (5, [.ref q_nt, .ref q_rw, .ref q_rv, .ref q_hd, .ref q_lk, .ref q_rg])), (q_nt, .inr (2, [.ref q_en, .ref q_ba, .ref q_de, .int (nI n), .int (nI (prs t))])), (q_en, .inl (cI, 32, .inl (aE (joT n t a da b db)))), (q_ba, .inl (cZ, 32, .inl (aB w))), (q_de, .inl (cI, 8, .inl (aN (dg (joT n t a da b db)))))] := hD9.set (p := 4) (e := .inl (cI, 8, .inl (aN (dg (joT n t a da b db))))) rfl
      have hP9 : va_P D vwCl [(q_x, .inr (5, [.ref q_nt, .ref q_rw, .ref q_rv, .ref q_hd, .ref q_lk, .ref q_rg])), (q_nt, .inr (2, [.ref q_en, .ref q_ba, .ref q_de, .int (nI n), .int (nI (prs (joT n t a da b db)))])), (q_en, .inl (cI, 32, .inl (aE (joT n t a da b db)))), (q_ba, .inl (cZ, 32, .inl (aB w))), (q_de, .inl (cI, 8, .inl (aN (dg (joT n t a da b db)))))] zs.heap := (congrArg (fun z9 : Nat => va_P D vwCl [(q_x, .inr (5, [.ref q_nt, .ref q_rw, .ref q_rv, .ref q_hd, .ref q_lk, .ref q_rg])), (q_nt, .inr (2, [.ref q_en, .ref q_ba, .ref q_de, .int (nI n), .int (nI z9)])), (q_en, .inl (cI, 32, .inl (aE (joT n t a da b db)))), (q_ba, .inl (cZ, 32, .inl (aB w))), (q_de, .inl (cI, 8, .inl (aN (dg (joT n t a da b db)))))] zs.heap) ec_pr).mp hP9
      have hD9 : va_D A [(q_x, .inr (5, [.ref q_nt, .ref q_rw, .ref q_rv, .ref q_hd, .ref q_lk, .ref q_rg])), (q_nt, .inr (2, [.ref q_en, .ref q_ba, .ref q_de, .int (nI n), .int (nI (prs (joT n t a da b db)))])), (q_en, .inl (cI, 32, .inl (aE (joT n t a da b db)))), (q_ba, .inl (cZ, 32, .inl (aB w))), (q_de, .inl (cI, 8, .inl (aN (dg (joT n t a da b db)))))] := (congrArg (fun z9 : Nat => va_D A [(q_x, .inr (5, [.ref q_nt, .ref q_rw, .ref q_rv, .ref q_hd, .ref q_lk, .ref q_rg])), (q_nt, .inr (2, [.ref q_en, .ref q_ba, .ref q_de, .int (nI n), .int (nI z9)])), (q_en, .inl (cI, 32, .inl (aE (joT n t a da b db)))), (q_ba, .inl (cZ, 32, .inl (aB w))), (q_de, .inl (cI, 8, .inl (aN (dg (joT n t a da b db)))))]) ec_pr).mp hD9
      exact W.iret (v := (-1)) hx hb hr (fun t ht hW => ⟨⟨_, (), rfl, er, by rw [ht]; exact hP9, hD9⟩, hS.F ht⟩) hS.2.2 dX5_join_26
theorem m_X5_part_f10 : Cond.fieldLink RX5 10 "NetWalkers" "net" "LNetWalkers$Net;" ∈ wsX5_part := by decide +kernel
theorem i_X5_part_X5 : ∀ w ∈ wsX50, w ∈ wsX5_part := by decide +kernel
set_option maxRecDepth 100000 in
set_option maxHeartbeats 4000000 in
theorem w_X5_part {l : Launch} {D : va_G} {cI cZ : ClassId} (k_X2_hasPlace : K_X2_hasPlace l D cI cZ) (k_X5_placeOf : K_X5_placeOf l D cI cZ) (k_X2_endOf : K_X2_endOf l D cI cZ) (k_X2_untie : K_X2_untie l D cI cZ) (k_X5_asTold : K_X5_asTold l D cI cZ) (vv : V_X5_part) : K_X5_part l D cI cZ := by
  intro q_x q_nt q_en q_ba q_de q_rw q_rv q_hd q_lk q_rg sz n t w p d hpre0
  have vw := vv n t w p d hpre0
  refine Met.ofW (cc := cX5_part) (maxL := 5) (ret := (some .int)) (by decide) rfl ?_
  intro zp ze zs zm zargs zbelow zmeth zc zs1 B hml hv
  obtain ⟨rfl, hsz, hZ, hP, hD0⟩ := hv
  have hx := B.exec
  have hb := B.bytes
  have hr := B.returns
  have hts := atoms_spec (ws := wsX5_part) B.pre
  have hown : zs.vm.findClass RX5 = some zm.cls := findClass_of_methodNamed B.named
  have hlocks := B.notSynchronized
  subst hsz
  have hD := hD0.self (sz := zs.heap.size)
  generalize hAe : va_A [(q_x, .inr (5, [.ref q_nt, .ref q_rw, .ref q_rv, .ref q_hd, .ref q_lk, .ref q_rg])), (q_nt, .inr (2, [.ref q_en, .ref q_ba, .ref q_de, .int (nI n), .int (nI (prs t))])), (q_en, .inl (cI, 32, .inl (aE t))), (q_ba, .inl (cZ, 32, .inl (aB w))), (q_de, .inl (cI, 8, .inl (aN (dg t))))] zs.heap.size = A at hD ⊢
  have hA : ∀ q : Nat, zs.heap.size ≤ q → A q := fun q h => by rw [← hAe]; exact Or.inr h
  have hS : va_S A zs.heap zs.heap [] := va_S.rf
  have hP : va_P D vwCl [(q_x, .inr (5, [.ref q_nt, .ref q_rw, .ref q_rv, .ref q_hd, .ref q_lk, .ref q_rg])), (q_nt, .inr (2, [.ref q_en, .ref q_ba, .ref q_de, .int (nI n), .int (nI (prs t))])), (q_en, .inl (cI, 32, .inl (aE t))), (q_ba, .inl (cZ, 32, .inl (aB w))), (q_de, .inl (cI, 8, .inl (aN (dg t))))] zs.heap := hP
  have hl := lv_entry ([.ref q_x, .int p, .int d]) (n := 5) (Nat.le_of_ble_eq_true rfl)
  rw [lg_entry_eq]
  generalize (lg_sl ([.ref q_x, .int p, .int d]) ++ List.replicate (5 - (lg_sl ([.ref q_x, .int p, .int d])).length) Slot.unset).toArray = ls at hl ⊢
  have hl : lv_has ls 5 [(0, .ref q_x), (1, .int p), (2, .int d)] := hl
  have hw := vw
  unfold B_X5_part_in at hw
  refine lv_aload_n hx hb dX5_part_0 rfl (lv_at hl 0 rfl) ?_
  refine va_get (D := D) (ci := 5) (v := .ref q_nt) (C := RX5) (T := TX5) (N := 6) hx hb hts i_X5_part_X5 hown hZ.1 hP 0 rfl rfl 0 (by decide) (hts _ m_X5_part_f10) (fun _ h9 => h9) rfl dX5_part_1 ?_
  refine lv_iload_n hx hb dX5_part_4 rfl (lv_at hl 1 rfl) ?_
  refine lv_iload_n hx hb dX5_part_5 rfl (lv_at hl 2 rfl) ?_
  have hPc : va_P D vwCl [(q_nt, .inr (2, [.ref q_en, .ref q_ba, .ref q_de, .int (nI n), .int (nI (prs t))])), (q_en, .inl (cI, 32, .inl (aE t))), (q_ba, .inl (cZ, 32, .inl (aB w))), (q_de, .inl (cI, 8, .inl (aN (dg t))))] zs.heap := hP.sub [1, 2, 3, 4] rfl
  refine z_ro (va_runV (As := [.int p, .int d]) (rest := []) ⟨hx, hb, hml, hown, hts⟩ (k_X2_hasPlace q_nt q_en q_ba q_de n t w p d) (cwV 2 hts gX5_part_X2_hasPlace rfl rfl rfl (by decide +kernel) ⟨Nat.le_of_ble_eq_true rfl, Nat.le_of_ble_eq_true rfl⟩) (zPr_V hZ hPc 0 rfl rfl) rfl rfl hl.1 rfl (lv_room (Nat.le_of_ble_eq_true rfl)) dX5_part_6 ⟨Nat.zero_le _, Nat.zero_le _⟩) (fun zr1 hzr1 => ?_)
  have ez := hzr1
  rw [ez]
  clear ez hzr1
  obtain ⟨hwt, hwf⟩ := hw
  refine z_if_neb hx hb (tgt := 14) dX5_part_9 (by decide) (fun cc => ?_) (fun cc => ?_)
  · replace hw := hwt cc
    refine lv_iload_n hx hb dX5_part_14 rfl (lv_at hl 1 rfl) ?_
    refine lv_iload_n hx hb dX5_part_15 rfl (lv_at hl 2 rfl) ?_
    obtain ⟨zk2, ezk2, hw⟩ := hw
    refine z_st (st' := [.int d, .int (nI zk2)]) (by rw [ezk2]) ?_
    obtain ⟨zk3, ezk3, hw⟩ := hw
    refine z_st (st' := [.int (nI zk3), .int (nI zk2)]) (by rw [ezk3]) ?_
    have hPc : va_P D vwCl [] zs.heap := hP.sub [] rfl
    refine z_ro (va_runS (As := [.int (nI zk2), .int (nI zk3)]) (rest := []) ⟨hx, hb, hml, hown, hts⟩ (k_X5_placeOf zk2 zk3) (va_cwS 2 hts gX5_part_X5_placeOf rfl rfl rfl (by decide +kernel) ⟨Nat.le_of_ble_eq_true rfl, Nat.le_of_ble_eq_true rfl⟩) (zPr_S hZ hPc) rfl rfl hl.1 rfl (lv_room (Nat.le_of_ble_eq_true rfl)) dX5_part_16 ⟨Nat.zero_le _, Nat.zero_le _⟩) (fun zr4 hzr4 => ?_)
    have ez := hzr4
    rw [ez]
    clear ez hzr4
    obtain ⟨zx5, ezx5⟩ : ∃ zx5 : Nat, zx5 = 4 * zk2 + zk3 := ⟨_, rfl⟩
    replace hw := hw zx5 ezx5
    refine z_st (st' := [.int (nI zx5)]) (by rw [ezx5]) ?_
    refine lv_istore_n (lv' := [(3, .int (nI zx5)), (0, .ref q_x), (1, .int p), (2, .int d)]) hx hb dX5_part_19 rfl hl (by decide) rfl (fun ls hl => ?_)
    refine lv_aload_n hx hb dX5_part_20 rfl (lv_at hl 1 rfl) ?_
    refine va_get (D := D) (ci := 5) (v := .ref q_nt) (C := RX5) (T := TX5) (N := 6) hx hb hts i_X5_part_X5 hown hZ.1 hP 0 rfl rfl 0 (by decide) (hts _ m_X5_part_f10) (fun _ h9 => h9) rfl dX5_part_21 ?_
    refine lv_iload_n hx hb dX5_part_24 rfl (lv_at hl 0 rfl) ?_
    obtain ⟨zh6, hw⟩ := hw
    have hPc : va_P D vwCl [(q_nt, .inr (2, [.ref q_en, .ref q_ba, .ref q_de, .int (nI n), .int (nI (prs t))])), (q_en, .inl (cI, 32, .inl (aE t))), (q_ba, .inl (cZ, 32, .inl (aB w))), (q_de, .inl (cI, 8, .inl (aN (dg t))))] zs.heap := hP.sub [1, 2, 3, 4] rfl
    refine z_ro (va_runV (As := [.int (nI zx5)]) (rest := []) ⟨hx, hb, hml, hown, hts⟩ (k_X2_endOf q_nt q_en q_ba q_de n t w zx5 zh6) (cwV 1 hts gX5_part_X2_endOf rfl rfl rfl (by decide +kernel) ⟨Nat.le_of_ble_eq_true rfl, Nat.le_of_ble_eq_true rfl⟩) (zPr_V hZ hPc 0 rfl rfl) rfl rfl hl.1 rfl (lv_room (Nat.le_of_ble_eq_true rfl)) dX5_part_25 ⟨Nat.zero_le _, Nat.zero_le _⟩) (fun zr7 hzr7 => ?_)
    have ez := hzr7
    rw [ez]
    clear ez hzr7
    obtain ⟨zx8, ezx8⟩ : ∃ zx8 : Int32, zx8 = aE t zx5 := ⟨_, rfl⟩
    replace hw := hw zx8 ezx8
    refine z_st (st' := [.int zx8]) (by rw [ezx8]) ?_
    refine lv_istore (lv' := [(4, .int zx8), (3, .int (nI zx5)), (0, .ref q_x), (1, .int p), (2, .int d)]) hx hb dX5_part_28 hl (by decide) rfl (fun ls hl => ?_)
    refine lv_iload hx hb dX5_part_30 (lv_at hl 0 rfl) ?_
    refine lv_iconst (v := (-1)) hx hb dX5_part_32 (by decide +kernel) ?_
    obtain ⟨hwt, hwf⟩ := hw
    refine lv_icmp_ne hx hb (tgt := 39) dX5_part_33 (by decide) (fun cc => ?_) (fun cc => ?_)
    · replace hw := hwt cc
      refine lv_aload_n hx hb dX5_part_39 rfl (lv_at hl 2 rfl) ?_
      refine va_get (D := D) (ci := 5) (v := .ref q_nt) (C := RX5) (T := TX5) (N := 6) hx hb hts i_X5_part_X5 hown hZ.1 hP 0 rfl rfl 0 (by decide) (hts _ m_X5_part_f10) (fun _ h9 => h9) rfl dX5_part_40 ?_
      refine lv_iload_n hx hb dX5_part_43 rfl (lv_at hl 1 rfl) ?_
      refine lv_iload hx hb dX5_part_44 (lv_at hl 0 rfl) ?_
      obtain ⟨zk9, ezk9, hw⟩ := hw
      refine z_st (st' := [.int (nI zk9), .int (nI zx5), .ref q_nt]) (by rw [ezk9]) ?_
      obtain ⟨zh10, hw⟩ := hw
      obtain ⟨zh11, hw⟩ := hw
      obtain ⟨zh12, hw⟩ := hw
      obtain ⟨zh13, hw⟩ := hw
      have hPc : va_P D vwCl [(q_nt, .inr (2, [.ref q_en, .ref q_ba, .ref q_de, .int (nI n), .int (nI (prs t))])), (q_en, .inl (cI, 32, .inl (aE t))), (q_ba, .inl (cZ, 32, .inl (aB w))), (q_de, .inl (cI, 8, .inl (aN (dg t))))] zs.heap := hP.sub [1, 2, 3, 4] rfl
      have hDc : va_D A [(q_nt, .inr (2, [.ref q_en, .ref q_ba, .ref q_de, .int (nI n), .int (nI (prs t))])), (q_en, .inl (cI, 32, .inl (aE t))), (q_ba, .inl (cZ, 32, .inl (aB w))), (q_de, .inl (cI, 8, .inl (aN (dg t))))] := hD.sub [1, 2, 3, 4] (by decide) rfl
      have hFc := va_free (wc := [(q_nt, .inr (2, [.ref q_en, .ref q_ba, .ref q_de, .int (nI n), .int (nI (prs t))])), (q_en, .inl (cI, 32, .inl (aE t))), (q_ba, .inl (cZ, 32, .inl (aB w))), (q_de, .inl (cI, 8, .inl (aN (dg t))))]) hD hS hA [1, 2, 3, 4] rfl
      refine va_callv (va_runV (As := [.int (nI zx5), .int (nI zk9)]) (rest := []) ⟨hx, hb, hml, hown, hts⟩ (k_X2_untie q_nt q_en q_ba q_de zs.heap.size n t w zx5 zk9 zh10 zh11 zh12 zh13) (cwV 2 hts gX5_part_X2_untie rfl rfl rfl (by decide +kernel) ⟨Nat.le_of_ble_eq_true rfl, Nat.le_of_ble_eq_true rfl⟩) (zPw_V hZ hPc (hDc.weaken (fun _ _ _ _ => trivial)) 0 rfl rfl) rfl rfl hl.1 rfl (lv_room (Nat.le_of_ble_eq_true rfl)) dX5_part_46 ⟨Nat.zero_le _, Nat.zero_le _⟩) hS (fun q _ h => hFc q h) hFc (fun zu zt H1 locs1 ht hvm hq hB hz1 hk1 hS => ?_)
      obtain ⟨hP1, hD1⟩ := hB
      rw [ht] at hP1
      obtain ⟨hP, hD⟩ := va_join (wr := [(q_x, .inr (5, [.ref q_nt, .ref q_rw, .ref q_rv, .ref q_hd, .ref q_lk, .ref q_rg]))]) (w1 := [(q_nt, .inr (2, [.ref q_en, .ref q_ba, .ref q_de, .int (nI n), .int (nI (prs (unt t zx5 zk9)))])), (q_en, .inl (cI, 32, .inl (aE (unt t zx5 zk9)))), (q_ba, .inl (cZ, 32, .inl (aB w))), (q_de, .inl (cI, 8, .inl (aN (dg (unt t zx5 zk9)))))]) hP hD [1, 2, 3, 4] [0] rfl rfl (by decide) (by decide) hk1 hFc hP1 hD1
      have hP : va_P D vwCl [(q_x, .inr (5, [.ref q_nt, .ref q_rw, .ref q_rv, .ref q_hd, .ref q_lk, .ref q_rg])), (q_nt, .inr (2, [.ref q_en, .ref q_ba, .ref q_de, .int (nI n), .int (nI (prs (unt t zx5 zk9)))])), (q_en, .inl (cI, 32, .inl (aE (unt t zx5 zk9)))), (q_ba, .inl (cZ, 32, .inl (aB w))), (q_de, .inl (cI, 8, .inl (aN (dg (unt t zx5 zk9)))))] H1 := hP
      have hD : va_D A [(q_x, .inr (5, [.ref q_nt, .ref q_rw, .ref q_rv, .ref q_hd, .ref q_lk, .ref q_rg])), (q_nt, .inr (2, [.ref q_en, .ref q_ba, .ref q_de, .int (nI n), .int (nI (prs (unt t zx5 zk9)))])), (q_en, .inl (cI, 32, .inl (aE (unt t zx5 zk9)))), (q_ba, .inl (cZ, 32, .inl (aB w))), (q_de, .inl (cI, 8, .inl (aN (dg (unt t zx5 zk9)))))] := hD
      clear hP1 hD1 hk1 hz1 hFc hDc hPc ht hvm
      refine lv_iload hx hb dX5_part_49 (lv_at hl 0 rfl) ?_
      obtain ⟨zk15, ezk15, hw⟩ := hw
      refine z_st (st' := [.int (nI zk15)]) (by rw [ezk15]) ?_
      obtain ⟨zh16, hw⟩ := hw
      have hPc : va_P D vwCl [] H1 := hP.sub [] rfl
      refine z_ro (va_runS (As := [.int (nI zk15)]) (rest := []) ⟨hx, hb, hml, hown, hts⟩ (k_X5_asTold zk15 zh16) (va_cwS 1 hts gX5_part_X5_asTold rfl rfl rfl (by decide +kernel) ⟨Nat.le_of_ble_eq_true rfl, Nat.le_of_ble_eq_true rfl⟩) (zPr_S hZ hPc) rfl rfl hl.1 rfl (lv_room (Nat.le_of_ble_eq_true rfl)) dX5_part_51 ⟨Nat.zero_le _, Nat.zero_le _⟩) (fun zr17 hzr17 => ?_)
      have ez := hzr17
      rw [ez]
      clear ez hzr17
      obtain ⟨er, ec_en, ec_de, ec_pr⟩ := hw
      have hP9 : va_P D vwCl [(q_x, .inr (5, [.ref q_nt, .ref q_rw, .ref q_rv, .ref q_hd, .ref q_lk, .ref q_rg])), (q_nt, .inr (2, [.ref q_en, .ref q_ba, .ref q_de, .int (nI n), .int (nI (prs (unt t zx5 zk9)))])), (q_en, .inl (cI, 32, .inl (aE (unt t zx5 zk9)))), (q_ba, .inl (cZ, 32, .inl (aB w))), (q_de, .inl (cI, 8, .inl (aN (dg (unt t zx5 zk9)))))] H1 := hP.sub [0, 1, 2, 3, 4] rfl
      have hD9 : va_D A [(q_x, .inr (5, [.ref q_nt, .ref q_rw, .ref q_rv, .ref q_hd, .ref q_lk, .ref q_rg])), (q_nt, .inr (2, [.ref q_en, .ref q_ba, .ref q_de, .int (nI n), .int (nI (prs (unt t zx5 zk9)))])), (q_en, .inl (cI, 32, .inl (aE (unt t zx5 zk9)))), (q_ba, .inl (cZ, 32, .inl (aB w))), (q_de, .inl (cI, 8, .inl (aN (dg (unt t zx5 zk9)))))] := hD.sub [0, 1, 2, 3, 4] (by decide) rfl
      have hP9 : va_P D vwCl [(q_x, .inr (5, [.ref q_nt, .ref q_rw, .ref q_rv, .ref q_hd, .ref q_lk, .ref q_rg])), (q_nt, .inr (2, [.ref q_en, .ref q_ba, .ref q_de, .int (nI n), .int (nI (prs (unt t zx5 zk9)))])), (q_en, .inl (cI, 32, .inl (aE (paT n t p d)))), (q_ba, .inl (cZ, 32, .inl (aB w))), (q_de, .inl (cI, 8, .inl (aN (dg (unt t zx5 zk9)))))] H1 := z_arr hP9 2 rfl ec_en
      have hD9 : va_D A [(q_x, .inr (5, [.ref q_nt, .ref q_rw, .ref q_rv, .ref q_hd, .ref q_lk, .ref q_rg])), (q_nt, .inr (2, [.ref q_en, .ref q_ba, .ref q_de, .int (nI n), .int (nI (prs (unt t zx5 zk9)))])), (q_en, .inl (cI, 32, .inl (aE (paT n t p d)))), (q_ba, .inl (cZ, 32, .inl (aB w))), (q_de, .inl (cI, 8, .inl (aN (dg (unt t zx5 zk9)))))] := hD9.set (p := 2) (e := .inl (cI, 32, .inl (aE (paT n t p d)))) rfl
      have hP9 : va_P D vwCl [(q_x, .inr (5, [.ref q_nt, .ref q_rw, .ref q_rv, .ref q_hd, .ref q_lk, .ref q_rg])), (q_nt, .inr (2, [.ref q_en, .ref q_ba, .ref q_de, .int (nI n), .int (nI (prs (unt t zx5 zk9)))])), (q_en, .inl (cI, 32, .inl (aE (paT n t p d)))), (q_ba, .inl (cZ, 32, .inl (aB w))), (q_de, .inl (cI, 8, .inl (aN (dg (paT n t p d)))))] H1 := z_arr hP9 4 rfl (fun zi hi => congrArg nI (ec_de zi hi))
      have hD9 : va_D A [(q_x, .inr (5, [.ref q_nt, .ref q_rw, .ref q_rv, .ref q_hd, .ref q_lk, .ref q_rg])), (q_nt, .inr (2, [.ref q_en, .ref q_ba, .ref q_de, .int (nI n), .int (nI (prs (unt t zx5 zk9)))])), (q_en, .inl (cI, 32, .inl (aE (paT n t p d)))), (q_ba, .inl (cZ, 32, .inl (aB w))), (q_de, .inl (cI, 8, .inl (aN (dg (paT n t p d)))))] := hD9.set (p := 4) (e := .inl (cI, 8, .inl (aN (dg (paT n t p d))))) rfl
      have hP9 : va_P D vwCl [(q_x, .inr (5, [.ref q_nt, .ref q_rw, .ref q_rv, .ref q_hd, .ref q_lk, .ref q_rg])), (q_nt, .inr (2, [.ref q_en, .ref q_ba, .ref q_de, .int (nI n), .int (nI (prs (paT n t p d)))])), (q_en, .inl (cI, 32, .inl (aE (paT n t p d)))), (q_ba, .inl (cZ, 32, .inl (aB w))), (q_de, .inl (cI, 8, .inl (aN (dg (paT n t p d)))))] H1 := (congrArg (fun z9 : Nat => va_P D vwCl [(q_x, .inr (5, [.ref q_nt, .ref q_rw, .ref q_rv, .ref q_hd, .ref q_lk, .ref q_rg])), (q_nt, .inr (2, [.ref q_en, .ref q_ba, .ref q_de, .int (nI n), .int (nI z9)])), (q_en, .inl (cI, 32, .inl (aE (paT n t p d)))), (q_ba, .inl (cZ, 32, .inl (aB w))), (q_de, .inl (cI, 8, .inl (aN (dg (paT n t p d)))))] H1) ec_pr).mp hP9
      have hD9 : va_D A [(q_x, .inr (5, [.ref q_nt, .ref q_rw, .ref q_rv, .ref q_hd, .ref q_lk, .ref q_rg])), (q_nt, .inr (2, [.ref q_en, .ref q_ba, .ref q_de, .int (nI n), .int (nI (prs (paT n t p d)))])), (q_en, .inl (cI, 32, .inl (aE (paT n t p d)))), (q_ba, .inl (cZ, 32, .inl (aB w))), (q_de, .inl (cI, 8, .inl (aN (dg (paT n t p d)))))] := (congrArg (fun z9 : Nat => va_D A [(q_x, .inr (5, [.ref q_nt, .ref q_rw, .ref q_rv, .ref q_hd, .ref q_lk, .ref q_rg])), (q_nt, .inr (2, [.ref q_en, .ref q_ba, .ref q_de, .int (nI n), .int (nI z9)])), (q_en, .inl (cI, 32, .inl (aE (paT n t p d)))), (q_ba, .inl (cZ, 32, .inl (aB w))), (q_de, .inl (cI, 8, .inl (aN (dg (paT n t p d)))))]) ec_pr).mp hD9
      exact W.iret (v := nI (10 * (zk15 / 4) + zk15 % 4)) hx hb hr (fun t ht hW => ⟨⟨_, (), rfl, er, by rw [ht]; exact hP9, hD9⟩, hS.F ht⟩) hS.2.2 dX5_part_54
    · replace hw := hwf cc
      refine lv_bipush (v := (-6)) hx hb dX5_part_36 (by decide +kernel) ?_
      obtain ⟨er, ec_en, ec_de, ec_pr⟩ := hw
      have hP9 : va_P D vwCl [(q_x, .inr (5, [.ref q_nt, .ref q_rw, .ref q_rv, .ref q_hd, .ref q_lk, .ref q_rg])), (q_nt, .inr (2, [.ref q_en, .ref q_ba, .ref q_de, .int (nI n), .int (nI (prs t))])), (q_en, .inl (cI, 32, .inl (aE t))), (q_ba, .inl (cZ, 32, .inl (aB w))), (q_de, .inl (cI, 8, .inl (aN (dg t))))] zs.heap := hP.sub [0, 1, 2, 3, 4] rfl
      have hD9 : va_D A [(q_x, .inr (5, [.ref q_nt, .ref q_rw, .ref q_rv, .ref q_hd, .ref q_lk, .ref q_rg])), (q_nt, .inr (2, [.ref q_en, .ref q_ba, .ref q_de, .int (nI n), .int (nI (prs t))])), (q_en, .inl (cI, 32, .inl (aE t))), (q_ba, .inl (cZ, 32, .inl (aB w))), (q_de, .inl (cI, 8, .inl (aN (dg t))))] := hD.sub [0, 1, 2, 3, 4] (by decide) rfl
      have hP9 : va_P D vwCl [(q_x, .inr (5, [.ref q_nt, .ref q_rw, .ref q_rv, .ref q_hd, .ref q_lk, .ref q_rg])), (q_nt, .inr (2, [.ref q_en, .ref q_ba, .ref q_de, .int (nI n), .int (nI (prs t))])), (q_en, .inl (cI, 32, .inl (aE (paT n t p d)))), (q_ba, .inl (cZ, 32, .inl (aB w))), (q_de, .inl (cI, 8, .inl (aN (dg t))))] zs.heap := z_arr hP9 2 rfl ec_en
      have hD9 : va_D A [(q_x, .inr (5, [.ref q_nt, .ref q_rw, .ref q_rv, .ref q_hd, .ref q_lk, .ref q_rg])), (q_nt, .inr (2, [.ref q_en, .ref q_ba, .ref q_de, .int (nI n), .int (nI (prs t))])), (q_en, .inl (cI, 32, .inl (aE (paT n t p d)))), (q_ba, .inl (cZ, 32, .inl (aB w))), (q_de, .inl (cI, 8, .inl (aN (dg t))))] := hD9.set (p := 2) (e := .inl (cI, 32, .inl (aE (paT n t p d)))) rfl
      have hP9 : va_P D vwCl [(q_x, .inr (5, [.ref q_nt, .ref q_rw, .ref q_rv, .ref q_hd, .ref q_lk, .ref q_rg])), (q_nt, .inr (2, [.ref q_en, .ref q_ba, .ref q_de, .int (nI n), .int (nI (prs t))])), (q_en, .inl (cI, 32, .inl (aE (paT n t p d)))), (q_ba, .inl (cZ, 32, .inl (aB w))), (q_de, .inl (cI, 8, .inl (aN (dg (paT n t p d)))))] zs.heap := z_arr hP9 4 rfl (fun zi hi => congrArg nI (ec_de zi hi))
      have hD9 : va_D A [(q_x, .inr (5, [.ref q_nt, .ref q_rw, .ref q_rv, .ref q_hd, .ref q_lk, .ref q_rg])), (q_nt, .inr (2, [.ref q_en, .ref q_ba, .ref q_de, .int (nI n), .int (nI (prs t))])), (q_en, .inl (cI, 32, .inl (aE (paT n t p d)))), (q_ba, .inl (cZ, 32, .inl (aB w))), (q_de, .inl (cI, 8, .inl (aN (dg (paT n t p d)))))] := hD9.set (p := 4) (e := .inl (cI, 8, .inl (aN (dg (paT n t p d))))) rfl
      have hP9 : va_P D vwCl [(q_x, .inr (5, [.ref q_nt, .ref q_rw, .ref q_rv, .ref q_hd, .ref q_lk, .ref q_rg])), (q_nt, .inr (2, [.ref q_en, .ref q_ba, .ref q_de, .int (nI n), .int (nI (prs (paT n t p d)))])), (q_en, .inl (cI, 32, .inl (aE (paT n t p d)))), (q_ba, .inl (cZ, 32, .inl (aB w))), (q_de, .inl (cI, 8, .inl (aN (dg (paT n t p d)))))] zs.heap := (congrArg (fun z9 : Nat => va_P D vwCl [(q_x, .inr (5, [.ref q_nt, .ref q_rw, .ref q_rv, .ref q_hd, .ref q_lk, .ref q_rg])), (q_nt, .inr (2, [.ref q_en, .ref q_ba, .ref q_de, .int (nI n), .int (nI z9)])), (q_en, .inl (cI, 32, .inl (aE (paT n t p d)))), (q_ba, .inl (cZ, 32, .inl (aB w))), (q_de, .inl (cI, 8, .inl (aN (dg (paT n t p d)))))] zs.heap) ec_pr).mp hP9
      have hD9 : va_D A [(q_x, .inr (5, [.ref q_nt, .ref q_rw, .ref q_rv, .ref q_hd, .ref q_lk, .ref q_rg])), (q_nt, .inr (2, [.ref q_en, .ref q_ba, .ref q_de, .int (nI n), .int (nI (prs (paT n t p d)))])), (q_en, .inl (cI, 32, .inl (aE (paT n t p d)))), (q_ba, .inl (cZ, 32, .inl (aB w))), (q_de, .inl (cI, 8, .inl (aN (dg (paT n t p d)))))] := (congrArg (fun z9 : Nat => va_D A [(q_x, .inr (5, [.ref q_nt, .ref q_rw, .ref q_rv, .ref q_hd, .ref q_lk, .ref q_rg])), (q_nt, .inr (2, [.ref q_en, .ref q_ba, .ref q_de, .int (nI n), .int (nI z9)])), (q_en, .inl (cI, 32, .inl (aE (paT n t p d)))), (q_ba, .inl (cZ, 32, .inl (aB w))), (q_de, .inl (cI, 8, .inl (aN (dg (paT n t p d)))))]) ec_pr).mp hD9
      exact W.iret (v := (-6)) hx hb hr (fun t ht hW => ⟨⟨_, (), rfl, er, by rw [ht]; exact hP9, hD9⟩, hS.F ht⟩) hS.2.2 dX5_part_38
  · replace hw := hwf cc
    refine lv_iconst (v := (-1)) hx hb dX5_part_12 (by decide +kernel) ?_
    obtain ⟨er, ec_en, ec_de, ec_pr⟩ := hw
    have hP9 : va_P D vwCl [(q_x, .inr (5, [.ref q_nt, .ref q_rw, .ref q_rv, .ref q_hd, .ref q_lk, .ref q_rg])), (q_nt, .inr (2, [.ref q_en, .ref q_ba, .ref q_de, .int (nI n), .int (nI (prs t))])), (q_en, .inl (cI, 32, .inl (aE t))), (q_ba, .inl (cZ, 32, .inl (aB w))), (q_de, .inl (cI, 8, .inl (aN (dg t))))] zs.heap := hP.sub [0, 1, 2, 3, 4] rfl
    have hD9 : va_D A [(q_x, .inr (5, [.ref q_nt, .ref q_rw, .ref q_rv, .ref q_hd, .ref q_lk, .ref q_rg])), (q_nt, .inr (2, [.ref q_en, .ref q_ba, .ref q_de, .int (nI n), .int (nI (prs t))])), (q_en, .inl (cI, 32, .inl (aE t))), (q_ba, .inl (cZ, 32, .inl (aB w))), (q_de, .inl (cI, 8, .inl (aN (dg t))))] := hD.sub [0, 1, 2, 3, 4] (by decide) rfl
    have hP9 : va_P D vwCl [(q_x, .inr (5, [.ref q_nt, .ref q_rw, .ref q_rv, .ref q_hd, .ref q_lk, .ref q_rg])), (q_nt, .inr (2, [.ref q_en, .ref q_ba, .ref q_de, .int (nI n), .int (nI (prs t))])), (q_en, .inl (cI, 32, .inl (aE (paT n t p d)))), (q_ba, .inl (cZ, 32, .inl (aB w))), (q_de, .inl (cI, 8, .inl (aN (dg t))))] zs.heap := z_arr hP9 2 rfl ec_en
    have hD9 : va_D A [(q_x, .inr (5, [.ref q_nt, .ref q_rw, .ref q_rv, .ref q_hd, .ref q_lk, .ref q_rg])), (q_nt, .inr (2, [.ref q_en, .ref q_ba, .ref q_de, .int (nI n), .int (nI (prs t))])), (q_en, .inl (cI, 32, .inl (aE (paT n t p d)))), (q_ba, .inl (cZ, 32, .inl (aB w))), (q_de, .inl (cI, 8, .inl (aN (dg t))))] := hD9.set (p := 2) (e := .inl (cI, 32, .inl (aE (paT n t p d)))) rfl
    have hP9 : va_P D vwCl [(q_x, .inr (5, [.ref q_nt, .ref q_rw, .ref q_rv, .ref q_hd, .ref q_lk, .ref q_rg])), (q_nt, .inr (2, [.ref q_en, .ref q_ba, .ref q_de, .int (nI n), .int (nI (prs t))])), (q_en, .inl (cI, 32, .inl (aE (paT n t p d)))), (q_ba, .inl (cZ, 32, .inl (aB w))), (q_de, .inl (cI, 8, .inl (aN (dg (paT n t p d)))))] zs.heap := z_arr hP9 4 rfl (fun zi hi => congrArg nI (ec_de zi hi))
    have hD9 : va_D A [(q_x, .inr (5, [.ref q_nt, .ref q_rw, .ref q_rv, .ref q_hd, .ref q_lk, .ref q_rg])), (q_nt, .inr (2, [.ref q_en, .ref q_ba, .ref q_de, .int (nI n), .int (nI (prs t))])), (q_en, .inl (cI, 32, .inl (aE (paT n t p d)))), (q_ba, .inl (cZ, 32, .inl (aB w))), (q_de, .inl (cI, 8, .inl (aN (dg (paT n t p d)))))] := hD9.set (p := 4) (e := .inl (cI, 8, .inl (aN (dg (paT n t p d))))) rfl
    have hP9 : va_P D vwCl [(q_x, .inr (5, [.ref q_nt, .ref q_rw, .ref q_rv, .ref q_hd, .ref q_lk, .ref q_rg])), (q_nt, .inr (2, [.ref q_en, .ref q_ba, .ref q_de, .int (nI n), .int (nI (prs (paT n t p d)))])), (q_en, .inl (cI, 32, .inl (aE (paT n t p d)))), (q_ba, .inl (cZ, 32, .inl (aB w))), (q_de, .inl (cI, 8, .inl (aN (dg (paT n t p d)))))] zs.heap := (congrArg (fun z9 : Nat => va_P D vwCl [(q_x, .inr (5, [.ref q_nt, .ref q_rw, .ref q_rv, .ref q_hd, .ref q_lk, .ref q_rg])), (q_nt, .inr (2, [.ref q_en, .ref q_ba, .ref q_de, .int (nI n), .int (nI z9)])), (q_en, .inl (cI, 32, .inl (aE (paT n t p d)))), (q_ba, .inl (cZ, 32, .inl (aB w))), (q_de, .inl (cI, 8, .inl (aN (dg (paT n t p d)))))] zs.heap) ec_pr).mp hP9
    have hD9 : va_D A [(q_x, .inr (5, [.ref q_nt, .ref q_rw, .ref q_rv, .ref q_hd, .ref q_lk, .ref q_rg])), (q_nt, .inr (2, [.ref q_en, .ref q_ba, .ref q_de, .int (nI n), .int (nI (prs (paT n t p d)))])), (q_en, .inl (cI, 32, .inl (aE (paT n t p d)))), (q_ba, .inl (cZ, 32, .inl (aB w))), (q_de, .inl (cI, 8, .inl (aN (dg (paT n t p d)))))] := (congrArg (fun z9 : Nat => va_D A [(q_x, .inr (5, [.ref q_nt, .ref q_rw, .ref q_rv, .ref q_hd, .ref q_lk, .ref q_rg])), (q_nt, .inr (2, [.ref q_en, .ref q_ba, .ref q_de, .int (nI n), .int (nI z9)])), (q_en, .inl (cI, 32, .inl (aE (paT n t p d)))), (q_ba, .inl (cZ, 32, .inl (aB w))), (q_de, .inl (cI, 8, .inl (aN (dg (paT n t p d)))))]) ec_pr).mp hD9
    exact W.iret (v := (-1)) hx hb hr (fun t ht hW => ⟨⟨_, (), rfl, er, by rw [ht]; exact hP9, hD9⟩, hS.F ht⟩) hS.2.2 dX5_part_13
theorem m_X5_bad_f10 : Cond.fieldLink RX5 10 "NetWalkers" "net" "LNetWalkers$Net;" ∈ wsX5_bad := by decide +kernel
theorem i_X5_bad_X5 : ∀ w ∈ wsX50, w ∈ wsX5_bad := by decide +kernel
set_option maxRecDepth 100000 in
set_option maxHeartbeats 4000000 in
theorem w_X5_bad {l : Launch} {D : va_G} {cI cZ : ClassId} (k_X2_hasPlace : K_X2_hasPlace l D cI cZ) (k_X5_placeOf : K_X5_placeOf l D cI cZ) (k_X2_isBad : K_X2_isBad l D cI cZ) (k_X2_setBad : K_X2_setBad l D cI cZ) (vv : V_X5_bad) : K_X5_bad l D cI cZ := by
  intro q_x q_nt q_en q_ba q_de q_rw q_rv q_hd q_lk q_rg sz n t w p d x hpre0
  have vw := vv n t w p d x hpre0
  refine Met.ofW (cc := cX5_bad) (maxL := 6) (ret := (some .int)) (by decide) rfl ?_
  intro zp ze zs zm zargs zbelow zmeth zc zs1 B hml hv
  obtain ⟨rfl, hsz, hZ, hP, hD0⟩ := hv
  have hx := B.exec
  have hb := B.bytes
  have hr := B.returns
  have hts := atoms_spec (ws := wsX5_bad) B.pre
  have hown : zs.vm.findClass RX5 = some zm.cls := findClass_of_methodNamed B.named
  have hlocks := B.notSynchronized
  subst hsz
  have hD := hD0.self (sz := zs.heap.size)
  generalize hAe : va_A [(q_x, .inr (5, [.ref q_nt, .ref q_rw, .ref q_rv, .ref q_hd, .ref q_lk, .ref q_rg])), (q_nt, .inr (2, [.ref q_en, .ref q_ba, .ref q_de, .int (nI n), .int (nI (prs t))])), (q_en, .inl (cI, 32, .inl (aE t))), (q_ba, .inl (cZ, 32, .inl (aB w))), (q_de, .inl (cI, 8, .inl (aN (dg t))))] zs.heap.size = A at hD ⊢
  have hA : ∀ q : Nat, zs.heap.size ≤ q → A q := fun q h => by rw [← hAe]; exact Or.inr h
  have hS : va_S A zs.heap zs.heap [] := va_S.rf
  have hP : va_P D vwCl [(q_x, .inr (5, [.ref q_nt, .ref q_rw, .ref q_rv, .ref q_hd, .ref q_lk, .ref q_rg])), (q_nt, .inr (2, [.ref q_en, .ref q_ba, .ref q_de, .int (nI n), .int (nI (prs t))])), (q_en, .inl (cI, 32, .inl (aE t))), (q_ba, .inl (cZ, 32, .inl (aB w))), (q_de, .inl (cI, 8, .inl (aN (dg t))))] zs.heap := hP
  have hl := lv_entry ([.ref q_x, .int p, .int d, .int (bI x)]) (n := 6) (Nat.le_of_ble_eq_true rfl)
  rw [lg_entry_eq]
  generalize (lg_sl ([.ref q_x, .int p, .int d, .int (bI x)]) ++ List.replicate (6 - (lg_sl ([.ref q_x, .int p, .int d, .int (bI x)])).length) Slot.unset).toArray = ls at hl ⊢
  have hl : lv_has ls 6 [(0, .ref q_x), (1, .int p), (2, .int d), (3, .int (bI x))] := hl
  have hw := vw
  unfold B_X5_bad_in at hw
  refine lv_aload_n hx hb dX5_bad_0 rfl (lv_at hl 0 rfl) ?_
  refine va_get (D := D) (ci := 5) (v := .ref q_nt) (C := RX5) (T := TX5) (N := 6) hx hb hts i_X5_bad_X5 hown hZ.1 hP 0 rfl rfl 0 (by decide) (hts _ m_X5_bad_f10) (fun _ h9 => h9) rfl dX5_bad_1 ?_
  refine lv_iload_n hx hb dX5_bad_4 rfl (lv_at hl 1 rfl) ?_
  refine lv_iload_n hx hb dX5_bad_5 rfl (lv_at hl 2 rfl) ?_
  have hPc : va_P D vwCl [(q_nt, .inr (2, [.ref q_en, .ref q_ba, .ref q_de, .int (nI n), .int (nI (prs t))])), (q_en, .inl (cI, 32, .inl (aE t))), (q_ba, .inl (cZ, 32, .inl (aB w))), (q_de, .inl (cI, 8, .inl (aN (dg t))))] zs.heap := hP.sub [1, 2, 3, 4] rfl
  refine z_ro (va_runV (As := [.int p, .int d]) (rest := []) ⟨hx, hb, hml, hown, hts⟩ (k_X2_hasPlace q_nt q_en q_ba q_de n t w p d) (cwV 2 hts gX5_bad_X2_hasPlace rfl rfl rfl (by decide +kernel) ⟨Nat.le_of_ble_eq_true rfl, Nat.le_of_ble_eq_true rfl⟩) (zPr_V hZ hPc 0 rfl rfl) rfl rfl hl.1 rfl (lv_room (Nat.le_of_ble_eq_true rfl)) dX5_bad_6 ⟨Nat.zero_le _, Nat.zero_le _⟩) (fun zr1 hzr1 => ?_)
  have ez := hzr1
  rw [ez]
  clear ez hzr1
  obtain ⟨hwt, hwf⟩ := hw
  refine z_if_neb hx hb (tgt := 14) dX5_bad_9 (by decide) (fun cc => ?_) (fun cc => ?_)
  · replace hw := hwt cc
    refine lv_iload_n hx hb dX5_bad_14 rfl (lv_at hl 1 rfl) ?_
    refine lv_iload_n hx hb dX5_bad_15 rfl (lv_at hl 2 rfl) ?_
    obtain ⟨zk2, ezk2, hw⟩ := hw
    refine z_st (st' := [.int d, .int (nI zk2)]) (by rw [ezk2]) ?_
    obtain ⟨zk3, ezk3, hw⟩ := hw
    refine z_st (st' := [.int (nI zk3), .int (nI zk2)]) (by rw [ezk3]) ?_
    have hPc : va_P D vwCl [] zs.heap := hP.sub [] rfl
    refine z_ro (va_runS (As := [.int (nI zk2), .int (nI zk3)]) (rest := []) ⟨hx, hb, hml, hown, hts⟩ (k_X5_placeOf zk2 zk3) (va_cwS 2 hts gX5_bad_X5_placeOf rfl rfl rfl (by decide +kernel) ⟨Nat.le_of_ble_eq_true rfl, Nat.le_of_ble_eq_true rfl⟩) (zPr_S hZ hPc) rfl rfl hl.1 rfl (lv_room (Nat.le_of_ble_eq_true rfl)) dX5_bad_16 ⟨Nat.zero_le _, Nat.zero_le _⟩) (fun zr4 hzr4 => ?_)
    have ez := hzr4
    rw [ez]
    clear ez hzr4
    obtain ⟨zx5, ezx5⟩ : ∃ zx5 : Nat, zx5 = 4 * zk2 + zk3 := ⟨_, rfl⟩
    replace hw := hw zx5 ezx5
    refine z_st (st' := [.int (nI zx5)]) (by rw [ezx5]) ?_
    refine lv_istore (lv' := [(4, .int (nI zx5)), (0, .ref q_x), (1, .int p), (2, .int d), (3, .int (bI x))]) hx hb dX5_bad_19 hl (by decide) rfl (fun ls hl => ?_)
    refine lv_aload_n hx hb dX5_bad_21 rfl (lv_at hl 1 rfl) ?_
    refine va_get (D := D) (ci := 5) (v := .ref q_nt) (C := RX5) (T := TX5) (N := 6) hx hb hts i_X5_bad_X5 hown hZ.1 hP 0 rfl rfl 0 (by decide) (hts _ m_X5_bad_f10) (fun _ h9 => h9) rfl dX5_bad_22 ?_
    refine lv_iload hx hb dX5_bad_25 (lv_at hl 0 rfl) ?_
    obtain ⟨zh6, hw⟩ := hw
    have hPc : va_P D vwCl [(q_nt, .inr (2, [.ref q_en, .ref q_ba, .ref q_de, .int (nI n), .int (nI (prs t))])), (q_en, .inl (cI, 32, .inl (aE t))), (q_ba, .inl (cZ, 32, .inl (aB w))), (q_de, .inl (cI, 8, .inl (aN (dg t))))] zs.heap := hP.sub [1, 2, 3, 4] rfl
    refine z_ro (va_runV (As := [.int (nI zx5)]) (rest := []) ⟨hx, hb, hml, hown, hts⟩ (k_X2_isBad q_nt q_en q_ba q_de n t w zx5 zh6) (cwV 1 hts gX5_bad_X2_isBad rfl rfl rfl (by decide +kernel) ⟨Nat.le_of_ble_eq_true rfl, Nat.le_of_ble_eq_true rfl⟩) (zPr_V hZ hPc 0 rfl rfl) rfl rfl hl.1 rfl (lv_room (Nat.le_of_ble_eq_true rfl)) dX5_bad_27 ⟨Nat.zero_le _, Nat.zero_le _⟩) (fun zr7 hzr7 => ?_)
    have ez := hzr7
    rw [ez]
    clear ez hzr7
    obtain ⟨zx8, ezx8⟩ : ∃ zx8 : Bool, zx8 = w zx5 := ⟨_, rfl⟩
    replace hw := hw zx8 ezx8
    refine z_st (st' := [.int (bI zx8)]) (by rw [ezx8]) ?_
    refine lv_istore (lv' := [(5, .int (bI zx8)), (4, .int (nI zx5)), (0, .ref q_x), (1, .int p), (2, .int d), (3, .int (bI x))]) hx hb dX5_bad_30 hl (by decide) rfl (fun ls hl => ?_)
    refine lv_aload_n hx hb dX5_bad_32 rfl (lv_at hl 2 rfl) ?_
    refine va_get (D := D) (ci := 5) (v := .ref q_nt) (C := RX5) (T := TX5) (N := 6) hx hb hts i_X5_bad_X5 hown hZ.1 hP 0 rfl rfl 0 (by decide) (hts _ m_X5_bad_f10) (fun _ h9 => h9) rfl dX5_bad_33 ?_
    refine lv_iload hx hb dX5_bad_36 (lv_at hl 1 rfl) ?_
    refine lv_iload_n hx hb dX5_bad_38 rfl (lv_at hl 5 rfl) ?_
    obtain ⟨zh9, hw⟩ := hw
    have hPc : va_P D vwCl [(q_nt, .inr (2, [.ref q_en, .ref q_ba, .ref q_de, .int (nI n), .int (nI (prs t))])), (q_en, .inl (cI, 32, .inl ((aE t)))), (q_ba, .inl (cZ, 32, .inl (aB w))), (q_de, .inl (cI, 8, .inl ((aN (dg t)))))] zs.heap := hP.sub [1, 2, 3, 4] rfl
    have hDc : va_D A [(q_nt, .inr (2, [.ref q_en, .ref q_ba, .ref q_de, .int (nI n), .int (nI (prs t))])), (q_en, .inl (cI, 32, .inl ((aE t)))), (q_ba, .inl (cZ, 32, .inl (aB w))), (q_de, .inl (cI, 8, .inl ((aN (dg t)))))] := hD.sub [1, 2, 3, 4] (by decide) rfl
    have hFc := va_free (wc := [(q_nt, .inr (2, [.ref q_en, .ref q_ba, .ref q_de, .int (nI n), .int (nI (prs t))])), (q_en, .inl (cI, 32, .inl ((aE t)))), (q_ba, .inl (cZ, 32, .inl (aB w))), (q_de, .inl (cI, 8, .inl ((aN (dg t)))))]) hD hS hA [1, 2, 3, 4] rfl
    refine va_callv (va_runV (As := [.int (nI zx5), .int (bI x)]) (rest := []) ⟨hx, hb, hml, hown, hts⟩ (k_X2_setBad q_nt q_en q_ba q_de zs.heap.size (aE t) w (aN (dg t)) (nI n) (nI (prs t)) zx5 x zh9) (cwV 2 hts gX5_bad_X2_setBad rfl rfl rfl (by decide +kernel) ⟨Nat.le_of_ble_eq_true rfl, Nat.le_of_ble_eq_true rfl⟩) (zPw_V hZ hPc (hDc.weaken (fun _ _ _ _ => trivial)) 0 rfl rfl) rfl rfl hl.1 rfl (lv_room (Nat.le_of_ble_eq_true rfl)) dX5_bad_39 ⟨Nat.zero_le _, Nat.zero_le _⟩) hS (fun q _ h => hFc q h) hFc (fun zu zt H1 locs1 ht hvm hq hB hz1 hk1 hS => ?_)
    obtain ⟨hP1, hD1⟩ := hB
    rw [ht] at hP1
    obtain ⟨hP, hD⟩ := va_join (wr := [(q_x, .inr (5, [.ref q_nt, .ref q_rw, .ref q_rv, .ref q_hd, .ref q_lk, .ref q_rg]))]) (w1 := [(q_nt, .inr (2, [.ref q_en, .ref q_ba, .ref q_de, .int (nI n), .int (nI (prs t))])), (q_en, .inl (cI, 32, .inl (aE t))), (q_ba, .inl (cZ, 32, .inl (aB (upB w zx5 x)))), (q_de, .inl (cI, 8, .inl (aN (dg t))))]) hP hD [1, 2, 3, 4] [0] rfl rfl (by decide) (by decide) hk1 hFc hP1 hD1
    have hP : va_P D vwCl [(q_x, .inr (5, [.ref q_nt, .ref q_rw, .ref q_rv, .ref q_hd, .ref q_lk, .ref q_rg])), (q_nt, .inr (2, [.ref q_en, .ref q_ba, .ref q_de, .int (nI n), .int (nI (prs t))])), (q_en, .inl (cI, 32, .inl (aE t))), (q_ba, .inl (cZ, 32, .inl (aB (upB w zx5 x)))), (q_de, .inl (cI, 8, .inl (aN (dg t))))] H1 := hP
    have hD : va_D A [(q_x, .inr (5, [.ref q_nt, .ref q_rw, .ref q_rv, .ref q_hd, .ref q_lk, .ref q_rg])), (q_nt, .inr (2, [.ref q_en, .ref q_ba, .ref q_de, .int (nI n), .int (nI (prs t))])), (q_en, .inl (cI, 32, .inl (aE t))), (q_ba, .inl (cZ, 32, .inl (aB (upB w zx5 x)))), (q_de, .inl (cI, 8, .inl (aN (dg t))))] := hD
    clear hP1 hD1 hk1 hz1 hFc hDc hPc ht hvm
    refine lv_iload hx hb dX5_bad_42 (lv_at hl 0 rfl) ?_
    obtain ⟨hwt, hwf⟩ := hw
    refine z_if_eqb hx hb (tgt := 51) dX5_bad_44 (by decide) (fun cc => ?_) (fun cc => ?_)
    · replace hw := hwt cc
      refine lv_iconst (v := nI 0) hx hb dX5_bad_51 (by decide +kernel) ?_
      obtain ⟨er, ec_ba⟩ := hw
      have hP9 : va_P D vwCl [(q_x, .inr (5, [.ref q_nt, .ref q_rw, .ref q_rv, .ref q_hd, .ref q_lk, .ref q_rg])), (q_nt, .inr (2, [.ref q_en, .ref q_ba, .ref q_de, .int (nI n), .int (nI (prs t))])), (q_en, .inl (cI, 32, .inl (aE t))), (q_ba, .inl (cZ, 32, .inl (aB (upB w zx5 x)))), (q_de, .inl (cI, 8, .inl (aN (dg t))))] H1 := hP.sub [0, 1, 2, 3, 4] rfl
      have hD9 : va_D A [(q_x, .inr (5, [.ref q_nt, .ref q_rw, .ref q_rv, .ref q_hd, .ref q_lk, .ref q_rg])), (q_nt, .inr (2, [.ref q_en, .ref q_ba, .ref q_de, .int (nI n), .int (nI (prs t))])), (q_en, .inl (cI, 32, .inl (aE t))), (q_ba, .inl (cZ, 32, .inl (aB (upB w zx5 x)))), (q_de, .inl (cI, 8, .inl (aN (dg t))))] := hD.sub [0, 1, 2, 3, 4] (by decide) rfl
      have hP9 : va_P D vwCl [(q_x, .inr (5, [.ref q_nt, .ref q_rw, .ref q_rv, .ref q_hd, .ref q_lk, .ref q_rg])), (q_nt, .inr (2, [.ref q_en, .ref q_ba, .ref q_de, .int (nI n), .int (nI (prs t))])), (q_en, .inl (cI, 32, .inl (aE t))), (q_ba, .inl (cZ, 32, .inl (aB (baW n w p d x)))), (q_de, .inl (cI, 8, .inl (aN (dg t))))] H1 := z_arr hP9 3 rfl (fun zi hi => congrArg bI (ec_ba zi hi))
      have hD9 : va_D A [(q_x, .inr (5, [.ref q_nt, .ref q_rw, .ref q_rv, .ref q_hd, .ref q_lk, .ref q_rg])), (q_nt, .inr (2, [.ref q_en, .ref q_ba, .ref q_de, .int (nI n), .int (nI (prs t))])), (q_en, .inl (cI, 32, .inl (aE t))), (q_ba, .inl (cZ, 32, .inl (aB (baW n w p d x)))), (q_de, .inl (cI, 8, .inl (aN (dg t))))] := hD9.set (p := 3) (e := .inl (cZ, 32, .inl (aB (baW n w p d x)))) rfl
      exact W.iret (v := nI 0) hx hb hr (fun t ht hW => ⟨⟨_, (), rfl, er, by rw [ht]; exact hP9, hD9⟩, hS.F ht⟩) hS.2.2 dX5_bad_52
    · replace hw := hwf cc
      refine lv_iconst (v := nI 1) hx hb dX5_bad_47 (by decide +kernel) ?_
      refine lv_goto (tgt := 52) hx hb dX5_bad_48 (by decide) ?_
      obtain ⟨er, ec_ba⟩ := hw
      have hP9 : va_P D vwCl [(q_x, .inr (5, [.ref q_nt, .ref q_rw, .ref q_rv, .ref q_hd, .ref q_lk, .ref q_rg])), (q_nt, .inr (2, [.ref q_en, .ref q_ba, .ref q_de, .int (nI n), .int (nI (prs t))])), (q_en, .inl (cI, 32, .inl (aE t))), (q_ba, .inl (cZ, 32, .inl (aB (upB w zx5 x)))), (q_de, .inl (cI, 8, .inl (aN (dg t))))] H1 := hP.sub [0, 1, 2, 3, 4] rfl
      have hD9 : va_D A [(q_x, .inr (5, [.ref q_nt, .ref q_rw, .ref q_rv, .ref q_hd, .ref q_lk, .ref q_rg])), (q_nt, .inr (2, [.ref q_en, .ref q_ba, .ref q_de, .int (nI n), .int (nI (prs t))])), (q_en, .inl (cI, 32, .inl (aE t))), (q_ba, .inl (cZ, 32, .inl (aB (upB w zx5 x)))), (q_de, .inl (cI, 8, .inl (aN (dg t))))] := hD.sub [0, 1, 2, 3, 4] (by decide) rfl
      have hP9 : va_P D vwCl [(q_x, .inr (5, [.ref q_nt, .ref q_rw, .ref q_rv, .ref q_hd, .ref q_lk, .ref q_rg])), (q_nt, .inr (2, [.ref q_en, .ref q_ba, .ref q_de, .int (nI n), .int (nI (prs t))])), (q_en, .inl (cI, 32, .inl (aE t))), (q_ba, .inl (cZ, 32, .inl (aB (baW n w p d x)))), (q_de, .inl (cI, 8, .inl (aN (dg t))))] H1 := z_arr hP9 3 rfl (fun zi hi => congrArg bI (ec_ba zi hi))
      have hD9 : va_D A [(q_x, .inr (5, [.ref q_nt, .ref q_rw, .ref q_rv, .ref q_hd, .ref q_lk, .ref q_rg])), (q_nt, .inr (2, [.ref q_en, .ref q_ba, .ref q_de, .int (nI n), .int (nI (prs t))])), (q_en, .inl (cI, 32, .inl (aE t))), (q_ba, .inl (cZ, 32, .inl (aB (baW n w p d x)))), (q_de, .inl (cI, 8, .inl (aN (dg t))))] := hD9.set (p := 3) (e := .inl (cZ, 32, .inl (aB (baW n w p d x)))) rfl
      exact W.iret (v := nI 1) hx hb hr (fun t ht hW => ⟨⟨_, (), rfl, er, by rw [ht]; exact hP9, hD9⟩, hS.F ht⟩) hS.2.2 dX5_bad_52
  · replace hw := hwf cc
    refine lv_iconst (v := (-1)) hx hb dX5_bad_12 (by decide +kernel) ?_
    obtain ⟨er, ec_ba⟩ := hw
    have hP9 : va_P D vwCl [(q_x, .inr (5, [.ref q_nt, .ref q_rw, .ref q_rv, .ref q_hd, .ref q_lk, .ref q_rg])), (q_nt, .inr (2, [.ref q_en, .ref q_ba, .ref q_de, .int (nI n), .int (nI (prs t))])), (q_en, .inl (cI, 32, .inl (aE t))), (q_ba, .inl (cZ, 32, .inl (aB w))), (q_de, .inl (cI, 8, .inl (aN (dg t))))] zs.heap := hP.sub [0, 1, 2, 3, 4] rfl
    have hD9 : va_D A [(q_x, .inr (5, [.ref q_nt, .ref q_rw, .ref q_rv, .ref q_hd, .ref q_lk, .ref q_rg])), (q_nt, .inr (2, [.ref q_en, .ref q_ba, .ref q_de, .int (nI n), .int (nI (prs t))])), (q_en, .inl (cI, 32, .inl (aE t))), (q_ba, .inl (cZ, 32, .inl (aB w))), (q_de, .inl (cI, 8, .inl (aN (dg t))))] := hD.sub [0, 1, 2, 3, 4] (by decide) rfl
    have hP9 : va_P D vwCl [(q_x, .inr (5, [.ref q_nt, .ref q_rw, .ref q_rv, .ref q_hd, .ref q_lk, .ref q_rg])), (q_nt, .inr (2, [.ref q_en, .ref q_ba, .ref q_de, .int (nI n), .int (nI (prs t))])), (q_en, .inl (cI, 32, .inl (aE t))), (q_ba, .inl (cZ, 32, .inl (aB (baW n w p d x)))), (q_de, .inl (cI, 8, .inl (aN (dg t))))] zs.heap := z_arr hP9 3 rfl (fun zi hi => congrArg bI (ec_ba zi hi))
    have hD9 : va_D A [(q_x, .inr (5, [.ref q_nt, .ref q_rw, .ref q_rv, .ref q_hd, .ref q_lk, .ref q_rg])), (q_nt, .inr (2, [.ref q_en, .ref q_ba, .ref q_de, .int (nI n), .int (nI (prs t))])), (q_en, .inl (cI, 32, .inl (aE t))), (q_ba, .inl (cZ, 32, .inl (aB (baW n w p d x)))), (q_de, .inl (cI, 8, .inl (aN (dg t))))] := hD9.set (p := 3) (e := .inl (cZ, 32, .inl (aB (baW n w p d x)))) rfl
    exact W.iret (v := (-1)) hx hb hr (fun t ht hW => ⟨⟨_, (), rfl, er, by rw [ht]; exact hP9, hD9⟩, hS.F ht⟩) hS.2.2 dX5_bad_13
theorem m_X5_leads_f10 : Cond.fieldLink RX5 10 "NetWalkers" "net" "LNetWalkers$Net;" ∈ wsX5_leads := by decide +kernel
theorem i_X5_leads_X5 : ∀ w ∈ wsX50, w ∈ wsX5_leads := by decide +kernel
set_option maxRecDepth 100000 in
set_option maxHeartbeats 4000000 in
theorem w_X5_leads {l : Launch} {D : va_G} {cI cZ : ClassId} (k_X2_hasPlace : K_X2_hasPlace l D cI cZ) (k_X5_placeOf : K_X5_placeOf l D cI cZ) (k_X2_endOf : K_X2_endOf l D cI cZ) (k_X2_through : K_X2_through l D cI cZ) (k_X5_asTold : K_X5_asTold l D cI cZ) (vv : V_X5_leads) : K_X5_leads l D cI cZ := by
  intro q_x q_nt q_en q_ba q_de q_rw q_rv q_hd q_lk q_rg n t w p d hpre0
  have vw := vv n t w p d hpre0
  refine Met.ofW (cc := cX5_leads) (maxL := 4) (ret := (some .int)) (by decide) rfl ?_
  intro zp ze zs zm zargs zbelow zmeth zc zs1 B hml hv
  obtain ⟨rfl, hZ, hP⟩ := hv
  have hx := B.exec
  have hb := B.bytes
  have hr := B.returns
  have hts := atoms_spec (ws := wsX5_leads) B.pre
  have hown : zs.vm.findClass RX5 = some zm.cls := findClass_of_methodNamed B.named
  have hlocks := B.notSynchronized
  have hP : va_P D vwCl [(q_x, .inr (5, [.ref q_nt, .ref q_rw, .ref q_rv, .ref q_hd, .ref q_lk, .ref q_rg])), (q_nt, .inr (2, [.ref q_en, .ref q_ba, .ref q_de, .int (nI n), .int (nI (prs t))])), (q_en, .inl (cI, 32, .inl (aE t))), (q_ba, .inl (cZ, 32, .inl (aB w))), (q_de, .inl (cI, 8, .inl (aN (dg t))))] zs.heap := hP
  have hl := lv_entry ([.ref q_x, .int p, .int d]) (n := 4) (Nat.le_of_ble_eq_true rfl)
  rw [lg_entry_eq]
  generalize (lg_sl ([.ref q_x, .int p, .int d]) ++ List.replicate (4 - (lg_sl ([.ref q_x, .int p, .int d])).length) Slot.unset).toArray = ls at hl ⊢
  have hl : lv_has ls 4 [(0, .ref q_x), (1, .int p), (2, .int d)] := hl
  have hw := vw
  unfold B_X5_leads_in at hw
  refine lv_aload_n hx hb dX5_leads_0 rfl (lv_at hl 0 rfl) ?_
  refine va_get (D := D) (ci := 5) (v := .ref q_nt) (C := RX5) (T := TX5) (N := 6) hx hb hts i_X5_leads_X5 hown hZ.1 hP 0 rfl rfl 0 (by decide) (hts _ m_X5_leads_f10) (fun _ h9 => h9) rfl dX5_leads_1 ?_
  refine lv_iload_n hx hb dX5_leads_4 rfl (lv_at hl 1 rfl) ?_
  refine lv_iload_n hx hb dX5_leads_5 rfl (lv_at hl 2 rfl) ?_
  have hPc : va_P D vwCl [(q_nt, .inr (2, [.ref q_en, .ref q_ba, .ref q_de, .int (nI n), .int (nI (prs t))])), (q_en, .inl (cI, 32, .inl (aE t))), (q_ba, .inl (cZ, 32, .inl (aB w))), (q_de, .inl (cI, 8, .inl (aN (dg t))))] zs.heap := hP.sub [1, 2, 3, 4] rfl
  refine z_ro (va_runV (As := [.int p, .int d]) (rest := []) ⟨hx, hb, hml, hown, hts⟩ (k_X2_hasPlace q_nt q_en q_ba q_de n t w p d) (cwV 2 hts gX5_leads_X2_hasPlace rfl rfl rfl (by decide +kernel) ⟨Nat.le_of_ble_eq_true rfl, Nat.le_of_ble_eq_true rfl⟩) (zPr_V hZ hPc 0 rfl rfl) rfl rfl hl.1 rfl (lv_room (Nat.le_of_ble_eq_true rfl)) dX5_leads_6 ⟨Nat.zero_le _, Nat.zero_le _⟩) (fun zr1 hzr1 => ?_)
  have ez := hzr1
  rw [ez]
  clear ez hzr1
  obtain ⟨hwt, hwf⟩ := hw
  refine z_if_neb hx hb (tgt := 14) dX5_leads_9 (by decide) (fun cc => ?_) (fun cc => ?_)
  · replace hw := hwt cc
    refine lv_iload_n hx hb dX5_leads_14 rfl (lv_at hl 1 rfl) ?_
    refine lv_iload_n hx hb dX5_leads_15 rfl (lv_at hl 2 rfl) ?_
    obtain ⟨zk2, ezk2, hw⟩ := hw
    refine z_st (st' := [.int d, .int (nI zk2)]) (by rw [ezk2]) ?_
    obtain ⟨zk3, ezk3, hw⟩ := hw
    refine z_st (st' := [.int (nI zk3), .int (nI zk2)]) (by rw [ezk3]) ?_
    have hPc : va_P D vwCl [] zs.heap := hP.sub [] rfl
    refine z_ro (va_runS (As := [.int (nI zk2), .int (nI zk3)]) (rest := []) ⟨hx, hb, hml, hown, hts⟩ (k_X5_placeOf zk2 zk3) (va_cwS 2 hts gX5_leads_X5_placeOf rfl rfl rfl (by decide +kernel) ⟨Nat.le_of_ble_eq_true rfl, Nat.le_of_ble_eq_true rfl⟩) (zPr_S hZ hPc) rfl rfl hl.1 rfl (lv_room (Nat.le_of_ble_eq_true rfl)) dX5_leads_16 ⟨Nat.zero_le _, Nat.zero_le _⟩) (fun zr4 hzr4 => ?_)
    have ez := hzr4
    rw [ez]
    clear ez hzr4
    obtain ⟨zx5, ezx5⟩ : ∃ zx5 : Nat, zx5 = 4 * zk2 + zk3 := ⟨_, rfl⟩
    replace hw := hw zx5 ezx5
    refine z_st (st' := [.int (nI zx5)]) (by rw [ezx5]) ?_
    refine lv_istore_n (lv' := [(3, .int (nI zx5)), (0, .ref q_x), (1, .int p), (2, .int d)]) hx hb dX5_leads_19 rfl hl (by decide) rfl (fun ls hl => ?_)
    refine lv_aload_n hx hb dX5_leads_20 rfl (lv_at hl 1 rfl) ?_
    refine va_get (D := D) (ci := 5) (v := .ref q_nt) (C := RX5) (T := TX5) (N := 6) hx hb hts i_X5_leads_X5 hown hZ.1 hP 0 rfl rfl 0 (by decide) (hts _ m_X5_leads_f10) (fun _ h9 => h9) rfl dX5_leads_21 ?_
    refine lv_iload_n hx hb dX5_leads_24 rfl (lv_at hl 0 rfl) ?_
    obtain ⟨zh6, hw⟩ := hw
    have hPc : va_P D vwCl [(q_nt, .inr (2, [.ref q_en, .ref q_ba, .ref q_de, .int (nI n), .int (nI (prs t))])), (q_en, .inl (cI, 32, .inl (aE t))), (q_ba, .inl (cZ, 32, .inl (aB w))), (q_de, .inl (cI, 8, .inl (aN (dg t))))] zs.heap := hP.sub [1, 2, 3, 4] rfl
    refine z_ro (va_runV (As := [.int (nI zx5)]) (rest := []) ⟨hx, hb, hml, hown, hts⟩ (k_X2_endOf q_nt q_en q_ba q_de n t w zx5 zh6) (cwV 1 hts gX5_leads_X2_endOf rfl rfl rfl (by decide +kernel) ⟨Nat.le_of_ble_eq_true rfl, Nat.le_of_ble_eq_true rfl⟩) (zPr_V hZ hPc 0 rfl rfl) rfl rfl hl.1 rfl (lv_room (Nat.le_of_ble_eq_true rfl)) dX5_leads_25 ⟨Nat.zero_le _, Nat.zero_le _⟩) (fun zr7 hzr7 => ?_)
    have ez := hzr7
    rw [ez]
    clear ez hzr7
    refine lv_iconst (v := (-1)) hx hb dX5_leads_28 (by decide +kernel) ?_
    obtain ⟨hwt, hwf⟩ := hw
    refine lv_icmp_ne hx hb (tgt := 37) dX5_leads_29 (by decide) (fun cc => ?_) (fun cc => ?_)
    · replace hw := hwt cc
      refine lv_aload_n hx hb dX5_leads_37 rfl (lv_at hl 1 rfl) ?_
      refine va_get (D := D) (ci := 5) (v := .ref q_nt) (C := RX5) (T := TX5) (N := 6) hx hb hts i_X5_leads_X5 hown hZ.1 hP 0 rfl rfl 0 (by decide) (hts _ m_X5_leads_f10) (fun _ h9 => h9) rfl dX5_leads_38 ?_
      refine lv_iload_n hx hb dX5_leads_41 rfl (lv_at hl 0 rfl) ?_
      obtain ⟨zh8, hw⟩ := hw
      have hPc : va_P D vwCl [(q_nt, .inr (2, [.ref q_en, .ref q_ba, .ref q_de, .int (nI n), .int (nI (prs t))])), (q_en, .inl (cI, 32, .inl (aE t))), (q_ba, .inl (cZ, 32, .inl (aB w))), (q_de, .inl (cI, 8, .inl (aN (dg t))))] zs.heap := hP.sub [1, 2, 3, 4] rfl
      refine z_ro (va_runV (As := [.int (nI zx5)]) (rest := []) ⟨hx, hb, hml, hown, hts⟩ (k_X2_through q_nt q_en q_ba q_de n t w zx5 zh8) (cwV 1 hts gX5_leads_X2_through rfl rfl rfl (by decide +kernel) ⟨Nat.le_of_ble_eq_true rfl, Nat.le_of_ble_eq_true rfl⟩) (zPr_V hZ hPc 0 rfl rfl) rfl rfl hl.1 rfl (lv_room (Nat.le_of_ble_eq_true rfl)) dX5_leads_42 ⟨Nat.zero_le _, Nat.zero_le _⟩) (fun zr9 hzr9 => ?_)
      have ez := hzr9
      rw [ez]
      clear ez hzr9
      obtain ⟨zh10, hw⟩ := hw
      have hPc : va_P D vwCl [] zs.heap := hP.sub [] rfl
      refine z_ro (va_runS (As := [.int (nI (thr t w zx5))]) (rest := []) ⟨hx, hb, hml, hown, hts⟩ (k_X5_asTold (thr t w zx5) zh10) (va_cwS 1 hts gX5_leads_X5_asTold rfl rfl rfl (by decide +kernel) ⟨Nat.le_of_ble_eq_true rfl, Nat.le_of_ble_eq_true rfl⟩) (zPr_S hZ hPc) rfl rfl hl.1 rfl (lv_room (Nat.le_of_ble_eq_true rfl)) dX5_leads_45 ⟨Nat.zero_le _, Nat.zero_le _⟩) (fun zr11 hzr11 => ?_)
      have ez := hzr11
      rw [ez]
      clear ez hzr11
      have er := hw
      exact W.iret (v := nI (10 * ((thr t w zx5) / 4) + (thr t w zx5) % 4)) hx hb hr (fun t ht hW => ⟨_, rfl, er, ht⟩) (fun _ h => by cases h) dX5_leads_48
    · replace hw := hwf cc
      refine lv_bipush (v := (-6)) hx hb dX5_leads_32 (by decide +kernel) ?_
      refine lv_goto (tgt := 48) hx hb dX5_leads_34 (by decide) ?_
      have er := hw
      exact W.iret (v := (-6)) hx hb hr (fun t ht hW => ⟨_, rfl, er, ht⟩) (fun _ h => by cases h) dX5_leads_48
  · replace hw := hwf cc
    refine lv_iconst (v := (-1)) hx hb dX5_leads_12 (by decide +kernel) ?_
    have er := hw
    exact W.iret (v := (-1)) hx hb hr (fun t ht hW => ⟨_, rfl, er, ht⟩) (fun _ h => by cases h) dX5_leads_13
theorem m_X5_ready_f10 : Cond.fieldLink RX5 10 "NetWalkers" "net" "LNetWalkers$Net;" ∈ wsX5_ready := by decide +kernel
theorem i_X5_ready_X5 : ∀ w ∈ wsX50, w ∈ wsX5_ready := by decide +kernel
set_option maxRecDepth 100000 in
set_option maxHeartbeats 4000000 in
theorem w_X5_ready {l : Launch} {D : va_G} {cI cZ : ClassId} (k_X2_isReady : K_X2_isReady l D cI cZ) (vv : V_X5_ready) : K_X5_ready l D cI cZ := by
  intro q_x q_nt q_en q_ba q_de q_rw q_rv q_hd q_lk q_rg n t w hpre0
  have vw := vv n t w hpre0
  refine Met.ofW (cc := cX5_ready) (maxL := 1) (ret := (some .int)) (by decide) rfl ?_
  intro zp ze zs zm zargs zbelow zmeth zc zs1 B hml hv
  obtain ⟨rfl, hZ, hP⟩ := hv
  have hx := B.exec
  have hb := B.bytes
  have hr := B.returns
  have hts := atoms_spec (ws := wsX5_ready) B.pre
  have hown : zs.vm.findClass RX5 = some zm.cls := findClass_of_methodNamed B.named
  have hlocks := B.notSynchronized
  have hP : va_P D vwCl [(q_x, .inr (5, [.ref q_nt, .ref q_rw, .ref q_rv, .ref q_hd, .ref q_lk, .ref q_rg])), (q_nt, .inr (2, [.ref q_en, .ref q_ba, .ref q_de, .int (nI n), .int (nI (prs t))])), (q_en, .inl (cI, 32, .inl (aE t))), (q_ba, .inl (cZ, 32, .inl (aB w))), (q_de, .inl (cI, 8, .inl (aN (dg t))))] zs.heap := hP
  have hl := lv_entry ([.ref q_x]) (n := 1) (Nat.le_of_ble_eq_true rfl)
  rw [lg_entry_eq]
  generalize (lg_sl ([.ref q_x]) ++ List.replicate (1 - (lg_sl ([.ref q_x])).length) Slot.unset).toArray = ls at hl ⊢
  have hl : lv_has ls 1 [(0, .ref q_x)] := hl
  have hw := vw
  unfold B_X5_ready_in at hw
  refine lv_aload_n hx hb dX5_ready_0 rfl (lv_at hl 0 rfl) ?_
  refine va_get (D := D) (ci := 5) (v := .ref q_nt) (C := RX5) (T := TX5) (N := 6) hx hb hts i_X5_ready_X5 hown hZ.1 hP 0 rfl rfl 0 (by decide) (hts _ m_X5_ready_f10) (fun _ h9 => h9) rfl dX5_ready_1 ?_
  obtain ⟨zh1, hw⟩ := hw
  have hPc : va_P D vwCl [(q_nt, .inr (2, [.ref q_en, .ref q_ba, .ref q_de, .int (nI n), .int (nI (prs t))])), (q_en, .inl (cI, 32, .inl (aE t))), (q_ba, .inl (cZ, 32, .inl (aB w))), (q_de, .inl (cI, 8, .inl (aN (dg t))))] zs.heap := hP.sub [1, 2, 3, 4] rfl
  refine z_ro (va_runV (As := []) (rest := []) ⟨hx, hb, hml, hown, hts⟩ (k_X2_isReady q_nt q_en q_ba q_de n t w zh1) (cwV 0 hts gX5_ready_X2_isReady rfl rfl rfl (by decide +kernel) ⟨Nat.le_of_ble_eq_true rfl, Nat.le_of_ble_eq_true rfl⟩) (zPr_V hZ hPc 0 rfl rfl) rfl rfl hl.1 rfl (lv_room (Nat.le_of_ble_eq_true rfl)) dX5_ready_4 ⟨Nat.zero_le _, Nat.zero_le _⟩) (fun zr2 hzr2 => ?_)
  have ez := hzr2
  rw [ez]
  clear ez hzr2
  obtain ⟨hwt, hwf⟩ := hw
  refine z_if_eqb hx hb (tgt := 14) dX5_ready_7 (by decide) (fun cc => ?_) (fun cc => ?_)
  · replace hw := hwt cc
    refine lv_iconst (v := nI 0) hx hb dX5_ready_14 (by decide +kernel) ?_
    have er := hw
    exact W.iret (v := nI 0) hx hb hr (fun t ht hW => ⟨_, rfl, er, ht⟩) (fun _ h => by cases h) dX5_ready_15
  · replace hw := hwf cc
    refine lv_iconst (v := nI 1) hx hb dX5_ready_10 (by decide +kernel) ?_
    refine lv_goto (tgt := 15) hx hb dX5_ready_11 (by decide) ?_
    have er := hw
    exact W.iret (v := nI 1) hx hb hr (fun t ht hW => ⟨_, rfl, er, ht⟩) (fun _ h => by cases h) dX5_ready_15
theorem m_X5_degree_f10 : Cond.fieldLink RX5 10 "NetWalkers" "net" "LNetWalkers$Net;" ∈ wsX5_degree := by decide +kernel
theorem i_X5_degree_X5 : ∀ w ∈ wsX50, w ∈ wsX5_degree := by decide +kernel
set_option maxRecDepth 100000 in
set_option maxHeartbeats 4000000 in
theorem w_X5_degree {l : Launch} {D : va_G} {cI cZ : ClassId} (k_X2_hasPost : K_X2_hasPost l D cI cZ) (k_X2_degreeOf : K_X2_degreeOf l D cI cZ) (vv : V_X5_degree) : K_X5_degree l D cI cZ := by
  intro q_x q_nt q_en q_ba q_de q_rw q_rv q_hd q_lk q_rg n t w p hpre0
  have vw := vv n t w p hpre0
  refine Met.ofW (cc := cX5_degree) (maxL := 2) (ret := (some .int)) (by decide) rfl ?_
  intro zp ze zs zm zargs zbelow zmeth zc zs1 B hml hv
  obtain ⟨rfl, hZ, hP⟩ := hv
  have hx := B.exec
  have hb := B.bytes
  have hr := B.returns
  have hts := atoms_spec (ws := wsX5_degree) B.pre
  have hown : zs.vm.findClass RX5 = some zm.cls := findClass_of_methodNamed B.named
  have hlocks := B.notSynchronized
  have hP : va_P D vwCl [(q_x, .inr (5, [.ref q_nt, .ref q_rw, .ref q_rv, .ref q_hd, .ref q_lk, .ref q_rg])), (q_nt, .inr (2, [.ref q_en, .ref q_ba, .ref q_de, .int (nI n), .int (nI (prs t))])), (q_en, .inl (cI, 32, .inl (aE t))), (q_ba, .inl (cZ, 32, .inl (aB w))), (q_de, .inl (cI, 8, .inl (aN (dg t))))] zs.heap := hP
  have hl := lv_entry ([.ref q_x, .int p]) (n := 2) (Nat.le_of_ble_eq_true rfl)
  rw [lg_entry_eq]
  generalize (lg_sl ([.ref q_x, .int p]) ++ List.replicate (2 - (lg_sl ([.ref q_x, .int p])).length) Slot.unset).toArray = ls at hl ⊢
  have hl : lv_has ls 2 [(0, .ref q_x), (1, .int p)] := hl
  have hw := vw
  unfold B_X5_degree_in at hw
  refine lv_aload_n hx hb dX5_degree_0 rfl (lv_at hl 0 rfl) ?_
  refine va_get (D := D) (ci := 5) (v := .ref q_nt) (C := RX5) (T := TX5) (N := 6) hx hb hts i_X5_degree_X5 hown hZ.1 hP 0 rfl rfl 0 (by decide) (hts _ m_X5_degree_f10) (fun _ h9 => h9) rfl dX5_degree_1 ?_
  refine lv_iload_n hx hb dX5_degree_4 rfl (lv_at hl 1 rfl) ?_
  have hPc : va_P D vwCl [(q_nt, .inr (2, [.ref q_en, .ref q_ba, .ref q_de, .int (nI n), .int (nI (prs t))])), (q_en, .inl (cI, 32, .inl (aE t))), (q_ba, .inl (cZ, 32, .inl (aB w))), (q_de, .inl (cI, 8, .inl (aN (dg t))))] zs.heap := hP.sub [1, 2, 3, 4] rfl
  refine z_ro (va_runV (As := [.int p]) (rest := []) ⟨hx, hb, hml, hown, hts⟩ (k_X2_hasPost q_nt q_en q_ba q_de n t w p) (cwV 1 hts gX5_degree_X2_hasPost rfl rfl rfl (by decide +kernel) ⟨Nat.le_of_ble_eq_true rfl, Nat.le_of_ble_eq_true rfl⟩) (zPr_V hZ hPc 0 rfl rfl) rfl rfl hl.1 rfl (lv_room (Nat.le_of_ble_eq_true rfl)) dX5_degree_5 ⟨Nat.zero_le _, Nat.zero_le _⟩) (fun zr1 hzr1 => ?_)
  have ez := hzr1
  rw [ez]
  clear ez hzr1
  obtain ⟨hwt, hwf⟩ := hw
  refine z_if_eqb hx hb (tgt := 22) dX5_degree_8 (by decide) (fun cc => ?_) (fun cc => ?_)
  · replace hw := hwt cc
    refine lv_iconst (v := (-1)) hx hb dX5_degree_22 (by decide +kernel) ?_
    have er := hw
    exact W.iret (v := (-1)) hx hb hr (fun t ht hW => ⟨_, rfl, er, ht⟩) (fun _ h => by cases h) dX5_degree_23
  · replace hw := hwf cc
    refine lv_aload_n hx hb dX5_degree_11 rfl (lv_at hl 0 rfl) ?_
    refine va_get (D := D) (ci := 5) (v := .ref q_nt) (C := RX5) (T := TX5) (N := 6) hx hb hts i_X5_degree_X5 hown hZ.1 hP 0 rfl rfl 0 (by decide) (hts _ m_X5_degree_f10) (fun _ h9 => h9) rfl dX5_degree_12 ?_
    refine lv_iload_n hx hb dX5_degree_15 rfl (lv_at hl 1 rfl) ?_
    obtain ⟨zk2, ezk2, hw⟩ := hw
    refine z_st (st' := [.int (nI zk2), .ref q_nt]) (by rw [ezk2]) ?_
    obtain ⟨zh3, hw⟩ := hw
    have hPc : va_P D vwCl [(q_nt, .inr (2, [.ref q_en, .ref q_ba, .ref q_de, .int (nI n), .int (nI (prs t))])), (q_en, .inl (cI, 32, .inl (aE t))), (q_ba, .inl (cZ, 32, .inl (aB w))), (q_de, .inl (cI, 8, .inl (aN (dg t))))] zs.heap := hP.sub [1, 2, 3, 4] rfl
    refine z_ro (va_runV (As := [.int (nI zk2)]) (rest := []) ⟨hx, hb, hml, hown, hts⟩ (k_X2_degreeOf q_nt q_en q_ba q_de n t w zk2 zh3) (cwV 1 hts gX5_degree_X2_degreeOf rfl rfl rfl (by decide +kernel) ⟨Nat.le_of_ble_eq_true rfl, Nat.le_of_ble_eq_true rfl⟩) (zPr_V hZ hPc 0 rfl rfl) rfl rfl hl.1 rfl (lv_room (Nat.le_of_ble_eq_true rfl)) dX5_degree_16 ⟨Nat.zero_le _, Nat.zero_le _⟩) (fun zr4 hzr4 => ?_)
    have ez := hzr4
    rw [ez]
    clear ez hzr4
    refine lv_goto (tgt := 23) hx hb dX5_degree_19 (by decide) ?_
    have er := hw
    exact W.iret (v := nI (dg t zk2)) hx hb hr (fun t ht hW => ⟨_, rfl, er, ht⟩) (fun _ h => by cases h) dX5_degree_23
theorem m_X5_add_f116 : Cond.fieldLink RX5 116 "NetWalkers$Row" "length" "I" ∈ wsX5_add := by decide +kernel
theorem i_X5_add_X4 : ∀ w ∈ wsX40, w ∈ wsX5_add := by decide +kernel
set_option maxRecDepth 100000 in
set_option maxHeartbeats 4000000 in
theorem w_X5_add {l : Launch} {D : va_G} {cI cZ : ClassId} (k_X5_isWhich : K_X5_isWhich l D cI cZ) (k_X5_rowOf_f : K_X5_rowOf_f l D cI cZ) (k_X4_isFull : K_X4_isFull l D cI cZ) (k_X4_append : K_X4_append l D cI cZ) (k_X5_rowOf_t : K_X5_rowOf_t l D cI cZ) (vv : V_X5_add) : K_X5_add l D cI cZ := by
  intro q_x q_rw q_nm q_rv q_nv q_nt q_hd q_lk q_rg sz r L r2 L2 wh x hpre0 hpre1
  have vw := vv r L r2 L2 wh x hpre0 hpre1
  refine Met.ofW (cc := cX5_add) (maxL := 4) (ret := (some .int)) (by decide) rfl ?_
  intro zp ze zs zm zargs zbelow zmeth zc zs1 B hml hv
  obtain ⟨rfl, hsz, hZ, hP, hD0⟩ := hv
  have hx := B.exec
  have hb := B.bytes
  have hr := B.returns
  have hts := atoms_spec (ws := wsX5_add) B.pre
  have hown : zs.vm.findClass RX5 = some zm.cls := findClass_of_methodNamed B.named
  have hlocks := B.notSynchronized
  subst hsz
  have hD := hD0.self (sz := zs.heap.size)
  generalize hAe : va_A [(q_x, .inr (5, [.ref q_nt, .ref q_rw, .ref q_rv, .ref q_hd, .ref q_lk, .ref q_rg])), (q_rw, .inr (4, [.ref q_nm, .int (nI L)])), (q_nm, .inl (cI, 40, .inl (aN r))), (q_rv, .inr (4, [.ref q_nv, .int (nI L2)])), (q_nv, .inl (cI, 40, .inl (aN r2)))] zs.heap.size = A at hD ⊢
  have hA : ∀ q : Nat, zs.heap.size ≤ q → A q := fun q h => by rw [← hAe]; exact Or.inr h
  have hS : va_S A zs.heap zs.heap [] := va_S.rf
  have hP : va_P D vwCl [(q_x, .inr (5, [.ref q_nt, .ref q_rw, .ref q_rv, .ref q_hd, .ref q_lk, .ref q_rg])), (q_rw, .inr (4, [.ref q_nm, .int (nI L)])), (q_nm, .inl (cI, 40, .inl (aN r))), (q_rv, .inr (4, [.ref q_nv, .int (nI L2)])), (q_nv, .inl (cI, 40, .inl (aN r2)))] zs.heap := hP
  have hl := lv_entry ([.ref q_x, .int wh, .int x]) (n := 4) (Nat.le_of_ble_eq_true rfl)
  rw [lg_entry_eq]
  generalize (lg_sl ([.ref q_x, .int wh, .int x]) ++ List.replicate (4 - (lg_sl ([.ref q_x, .int wh, .int x])).length) Slot.unset).toArray = ls at hl ⊢
  have hl : lv_has ls 4 [(0, .ref q_x), (1, .int wh), (2, .int x)] := hl
  have hw := vw
  unfold B_X5_add_in at hw
  refine lv_iload_n hx hb dX5_add_0 rfl (lv_at hl 1 rfl) ?_
  have hPc : va_P D vwCl [] zs.heap := hP.sub [] rfl
  refine z_ro (va_runS (As := [.int wh]) (rest := []) ⟨hx, hb, hml, hown, hts⟩ (k_X5_isWhich wh) (va_cwS 1 hts gX5_add_X5_isWhich rfl rfl rfl (by decide +kernel) ⟨Nat.le_of_ble_eq_true rfl, Nat.le_of_ble_eq_true rfl⟩) (zPr_S hZ hPc) rfl rfl hl.1 rfl (lv_room (Nat.le_of_ble_eq_true rfl)) dX5_add_1 ⟨Nat.zero_le _, Nat.zero_le _⟩) (fun zr1 hzr1 => ?_)
  have ez := hzr1
  rw [ez]
  clear ez hzr1
  obtain ⟨hwt, hwf⟩ := hw
  refine z_if_eqb hx hb (tgt := 17) dX5_add_4 (by decide) (fun cc => ?_) (fun cc => ?_)
  · replace hw := hwt cc
    refine lv_bipush (v := (-2)) hx hb dX5_add_17 (by decide +kernel) ?_
    obtain ⟨er, ec_nm, ec_len, ec_nv, ec_len2⟩ := hw
    have hP9 : va_P D vwCl [(q_x, .inr (5, [.ref q_nt, .ref q_rw, .ref q_rv, .ref q_hd, .ref q_lk, .ref q_rg])), (q_rw, .inr (4, [.ref q_nm, .int (nI L)])), (q_nm, .inl (cI, 40, .inl (aN r))), (q_rv, .inr (4, [.ref q_nv, .int (nI L2)])), (q_nv, .inl (cI, 40, .inl (aN r2)))] zs.heap := hP.sub [0, 1, 2, 3, 4] rfl
    have hD9 : va_D A [(q_x, .inr (5, [.ref q_nt, .ref q_rw, .ref q_rv, .ref q_hd, .ref q_lk, .ref q_rg])), (q_rw, .inr (4, [.ref q_nm, .int (nI L)])), (q_nm, .inl (cI, 40, .inl (aN r))), (q_rv, .inr (4, [.ref q_nv, .int (nI L2)])), (q_nv, .inl (cI, 40, .inl (aN r2)))] := hD.sub [0, 1, 2, 3, 4] (by decide) rfl
    have hP9 : va_P D vwCl [(q_x, .inr (5, [.ref q_nt, .ref q_rw, .ref q_rv, .ref q_hd, .ref q_lk, .ref q_rg])), (q_rw, .inr (4, [.ref q_nm, .int (nI L)])), (q_nm, .inl (cI, 40, .inl (aN (adR r L wh x (nI 0))))), (q_rv, .inr (4, [.ref q_nv, .int (nI L2)])), (q_nv, .inl (cI, 40, .inl (aN r2)))] zs.heap := z_arr hP9 2 rfl (fun zi hi => congrArg nI (ec_nm zi hi))
    have hD9 : va_D A [(q_x, .inr (5, [.ref q_nt, .ref q_rw, .ref q_rv, .ref q_hd, .ref q_lk, .ref q_rg])), (q_rw, .inr (4, [.ref q_nm, .int (nI L)])), (q_nm, .inl (cI, 40, .inl (aN (adR r L wh x (nI 0))))), (q_rv, .inr (4, [.ref q_nv, .int (nI L2)])), (q_nv, .inl (cI, 40, .inl (aN r2)))] := hD9.set (p := 2) (e := .inl (cI, 40, .inl (aN (adR r L wh x (nI 0))))) rfl
    have hP9 : va_P D vwCl [(q_x, .inr (5, [.ref q_nt, .ref q_rw, .ref q_rv, .ref q_hd, .ref q_lk, .ref q_rg])), (q_rw, .inr (4, [.ref q_nm, .int (nI (adL L wh x (nI 0)))])), (q_nm, .inl (cI, 40, .inl (aN (adR r L wh x (nI 0))))), (q_rv, .inr (4, [.ref q_nv, .int (nI L2)])), (q_nv, .inl (cI, 40, .inl (aN r2)))] zs.heap := (congrArg (fun z9 : Nat => va_P D vwCl [(q_x, .inr (5, [.ref q_nt, .ref q_rw, .ref q_rv, .ref q_hd, .ref q_lk, .ref q_rg])), (q_rw, .inr (4, [.ref q_nm, .int (nI z9)])), (q_nm, .inl (cI, 40, .inl (aN (adR r L wh x (nI 0))))), (q_rv, .inr (4, [.ref q_nv, .int (nI L2)])), (q_nv, .inl (cI, 40, .inl (aN r2)))] zs.heap) ec_len).mp hP9
    have hD9 : va_D A [(q_x, .inr (5, [.ref q_nt, .ref q_rw, .ref q_rv, .ref q_hd, .ref q_lk, .ref q_rg])), (q_rw, .inr (4, [.ref q_nm, .int (nI (adL L wh x (nI 0)))])), (q_nm, .inl (cI, 40, .inl (aN (adR r L wh x (nI 0))))), (q_rv, .inr (4, [.ref q_nv, .int (nI L2)])), (q_nv, .inl (cI, 40, .inl (aN r2)))] := (congrArg (fun z9 : Nat => va_D A [(q_x, .inr (5, [.ref q_nt, .ref q_rw, .ref q_rv, .ref q_hd, .ref q_lk, .ref q_rg])), (q_rw, .inr (4, [.ref q_nm, .int (nI z9)])), (q_nm, .inl (cI, 40, .inl (aN (adR r L wh x (nI 0))))), (q_rv, .inr (4, [.ref q_nv, .int (nI L2)])), (q_nv, .inl (cI, 40, .inl (aN r2)))]) ec_len).mp hD9
    have hP9 : va_P D vwCl [(q_x, .inr (5, [.ref q_nt, .ref q_rw, .ref q_rv, .ref q_hd, .ref q_lk, .ref q_rg])), (q_rw, .inr (4, [.ref q_nm, .int (nI (adL L wh x (nI 0)))])), (q_nm, .inl (cI, 40, .inl (aN (adR r L wh x (nI 0))))), (q_rv, .inr (4, [.ref q_nv, .int (nI L2)])), (q_nv, .inl (cI, 40, .inl (aN (adR r2 L2 wh x (nI 1)))))] zs.heap := z_arr hP9 4 rfl (fun zi hi => congrArg nI (ec_nv zi hi))
    have hD9 : va_D A [(q_x, .inr (5, [.ref q_nt, .ref q_rw, .ref q_rv, .ref q_hd, .ref q_lk, .ref q_rg])), (q_rw, .inr (4, [.ref q_nm, .int (nI (adL L wh x (nI 0)))])), (q_nm, .inl (cI, 40, .inl (aN (adR r L wh x (nI 0))))), (q_rv, .inr (4, [.ref q_nv, .int (nI L2)])), (q_nv, .inl (cI, 40, .inl (aN (adR r2 L2 wh x (nI 1)))))] := hD9.set (p := 4) (e := .inl (cI, 40, .inl (aN (adR r2 L2 wh x (nI 1))))) rfl
    have hP9 : va_P D vwCl [(q_x, .inr (5, [.ref q_nt, .ref q_rw, .ref q_rv, .ref q_hd, .ref q_lk, .ref q_rg])), (q_rw, .inr (4, [.ref q_nm, .int (nI (adL L wh x (nI 0)))])), (q_nm, .inl (cI, 40, .inl (aN (adR r L wh x (nI 0))))), (q_rv, .inr (4, [.ref q_nv, .int (nI (adL L2 wh x (nI 1)))])), (q_nv, .inl (cI, 40, .inl (aN (adR r2 L2 wh x (nI 1)))))] zs.heap := (congrArg (fun z9 : Nat => va_P D vwCl [(q_x, .inr (5, [.ref q_nt, .ref q_rw, .ref q_rv, .ref q_hd, .ref q_lk, .ref q_rg])), (q_rw, .inr (4, [.ref q_nm, .int (nI (adL L wh x (nI 0)))])), (q_nm, .inl (cI, 40, .inl (aN (adR r L wh x (nI 0))))), (q_rv, .inr (4, [.ref q_nv, .int (nI z9)])), (q_nv, .inl (cI, 40, .inl (aN (adR r2 L2 wh x (nI 1)))))] zs.heap) ec_len2).mp hP9
    have hD9 : va_D A [(q_x, .inr (5, [.ref q_nt, .ref q_rw, .ref q_rv, .ref q_hd, .ref q_lk, .ref q_rg])), (q_rw, .inr (4, [.ref q_nm, .int (nI (adL L wh x (nI 0)))])), (q_nm, .inl (cI, 40, .inl (aN (adR r L wh x (nI 0))))), (q_rv, .inr (4, [.ref q_nv, .int (nI (adL L2 wh x (nI 1)))])), (q_nv, .inl (cI, 40, .inl (aN (adR r2 L2 wh x (nI 1)))))] := (congrArg (fun z9 : Nat => va_D A [(q_x, .inr (5, [.ref q_nt, .ref q_rw, .ref q_rv, .ref q_hd, .ref q_lk, .ref q_rg])), (q_rw, .inr (4, [.ref q_nm, .int (nI (adL L wh x (nI 0)))])), (q_nm, .inl (cI, 40, .inl (aN (adR r L wh x (nI 0))))), (q_rv, .inr (4, [.ref q_nv, .int (nI z9)])), (q_nv, .inl (cI, 40, .inl (aN (adR r2 L2 wh x (nI 1)))))]) ec_len2).mp hD9
    exact W.iret (v := (-2)) hx hb hr (fun t ht hW => ⟨⟨_, (), rfl, er, by rw [ht]; exact hP9, hD9⟩, hS.F ht⟩) hS.2.2 dX5_add_19
  · replace hw := hwf cc
    refine lv_iload_n hx hb dX5_add_7 rfl (lv_at hl 2 rfl) ?_
    obtain ⟨hwt, hwf⟩ := hw
    refine lv_if_lt hx hb (tgt := 17) dX5_add_8 (by decide) (fun cc => ?_) (fun cc => ?_)
    · replace hw := hwt cc
      refine lv_bipush (v := (-2)) hx hb dX5_add_17 (by decide +kernel) ?_
      obtain ⟨er, ec_nm, ec_len, ec_nv, ec_len2⟩ := hw
      have hP9 : va_P D vwCl [(q_x, .inr (5, [.ref q_nt, .ref q_rw, .ref q_rv, .ref q_hd, .ref q_lk, .ref q_rg])), (q_rw, .inr (4, [.ref q_nm, .int (nI L)])), (q_nm, .inl (cI, 40, .inl (aN r))), (q_rv, .inr (4, [.ref q_nv, .int (nI L2)])), (q_nv, .inl (cI, 40, .inl (aN r2)))] zs.heap := hP.sub [0, 1, 2, 3, 4] rfl
      have hD9 : va_D A [(q_x, .inr (5, [.ref q_nt, .ref q_rw, .ref q_rv, .ref q_hd, .ref q_lk, .ref q_rg])), (q_rw, .inr (4, [.ref q_nm, .int (nI L)])), (q_nm, .inl (cI, 40, .inl (aN r))), (q_rv, .inr (4, [.ref q_nv, .int (nI L2)])), (q_nv, .inl (cI, 40, .inl (aN r2)))] := hD.sub [0, 1, 2, 3, 4] (by decide) rfl
      have hP9 : va_P D vwCl [(q_x, .inr (5, [.ref q_nt, .ref q_rw, .ref q_rv, .ref q_hd, .ref q_lk, .ref q_rg])), (q_rw, .inr (4, [.ref q_nm, .int (nI L)])), (q_nm, .inl (cI, 40, .inl (aN (adR r L wh x (nI 0))))), (q_rv, .inr (4, [.ref q_nv, .int (nI L2)])), (q_nv, .inl (cI, 40, .inl (aN r2)))] zs.heap := z_arr hP9 2 rfl (fun zi hi => congrArg nI (ec_nm zi hi))
      have hD9 : va_D A [(q_x, .inr (5, [.ref q_nt, .ref q_rw, .ref q_rv, .ref q_hd, .ref q_lk, .ref q_rg])), (q_rw, .inr (4, [.ref q_nm, .int (nI L)])), (q_nm, .inl (cI, 40, .inl (aN (adR r L wh x (nI 0))))), (q_rv, .inr (4, [.ref q_nv, .int (nI L2)])), (q_nv, .inl (cI, 40, .inl (aN r2)))] := hD9.set (p := 2) (e := .inl (cI, 40, .inl (aN (adR r L wh x (nI 0))))) rfl
      have hP9 : va_P D vwCl [(q_x, .inr (5, [.ref q_nt, .ref q_rw, .ref q_rv, .ref q_hd, .ref q_lk, .ref q_rg])), (q_rw, .inr (4, [.ref q_nm, .int (nI (adL L wh x (nI 0)))])), (q_nm, .inl (cI, 40, .inl (aN (adR r L wh x (nI 0))))), (q_rv, .inr (4, [.ref q_nv, .int (nI L2)])), (q_nv, .inl (cI, 40, .inl (aN r2)))] zs.heap := (congrArg (fun z9 : Nat => va_P D vwCl [(q_x, .inr (5, [.ref q_nt, .ref q_rw, .ref q_rv, .ref q_hd, .ref q_lk, .ref q_rg])), (q_rw, .inr (4, [.ref q_nm, .int (nI z9)])), (q_nm, .inl (cI, 40, .inl (aN (adR r L wh x (nI 0))))), (q_rv, .inr (4, [.ref q_nv, .int (nI L2)])), (q_nv, .inl (cI, 40, .inl (aN r2)))] zs.heap) ec_len).mp hP9
      have hD9 : va_D A [(q_x, .inr (5, [.ref q_nt, .ref q_rw, .ref q_rv, .ref q_hd, .ref q_lk, .ref q_rg])), (q_rw, .inr (4, [.ref q_nm, .int (nI (adL L wh x (nI 0)))])), (q_nm, .inl (cI, 40, .inl (aN (adR r L wh x (nI 0))))), (q_rv, .inr (4, [.ref q_nv, .int (nI L2)])), (q_nv, .inl (cI, 40, .inl (aN r2)))] := (congrArg (fun z9 : Nat => va_D A [(q_x, .inr (5, [.ref q_nt, .ref q_rw, .ref q_rv, .ref q_hd, .ref q_lk, .ref q_rg])), (q_rw, .inr (4, [.ref q_nm, .int (nI z9)])), (q_nm, .inl (cI, 40, .inl (aN (adR r L wh x (nI 0))))), (q_rv, .inr (4, [.ref q_nv, .int (nI L2)])), (q_nv, .inl (cI, 40, .inl (aN r2)))]) ec_len).mp hD9
      have hP9 : va_P D vwCl [(q_x, .inr (5, [.ref q_nt, .ref q_rw, .ref q_rv, .ref q_hd, .ref q_lk, .ref q_rg])), (q_rw, .inr (4, [.ref q_nm, .int (nI (adL L wh x (nI 0)))])), (q_nm, .inl (cI, 40, .inl (aN (adR r L wh x (nI 0))))), (q_rv, .inr (4, [.ref q_nv, .int (nI L2)])), (q_nv, .inl (cI, 40, .inl (aN (adR r2 L2 wh x (nI 1)))))] zs.heap := z_arr hP9 4 rfl (fun zi hi => congrArg nI (ec_nv zi hi))
      have hD9 : va_D A [(q_x, .inr (5, [.ref q_nt, .ref q_rw, .ref q_rv, .ref q_hd, .ref q_lk, .ref q_rg])), (q_rw, .inr (4, [.ref q_nm, .int (nI (adL L wh x (nI 0)))])), (q_nm, .inl (cI, 40, .inl (aN (adR r L wh x (nI 0))))), (q_rv, .inr (4, [.ref q_nv, .int (nI L2)])), (q_nv, .inl (cI, 40, .inl (aN (adR r2 L2 wh x (nI 1)))))] := hD9.set (p := 4) (e := .inl (cI, 40, .inl (aN (adR r2 L2 wh x (nI 1))))) rfl
      have hP9 : va_P D vwCl [(q_x, .inr (5, [.ref q_nt, .ref q_rw, .ref q_rv, .ref q_hd, .ref q_lk, .ref q_rg])), (q_rw, .inr (4, [.ref q_nm, .int (nI (adL L wh x (nI 0)))])), (q_nm, .inl (cI, 40, .inl (aN (adR r L wh x (nI 0))))), (q_rv, .inr (4, [.ref q_nv, .int (nI (adL L2 wh x (nI 1)))])), (q_nv, .inl (cI, 40, .inl (aN (adR r2 L2 wh x (nI 1)))))] zs.heap := (congrArg (fun z9 : Nat => va_P D vwCl [(q_x, .inr (5, [.ref q_nt, .ref q_rw, .ref q_rv, .ref q_hd, .ref q_lk, .ref q_rg])), (q_rw, .inr (4, [.ref q_nm, .int (nI (adL L wh x (nI 0)))])), (q_nm, .inl (cI, 40, .inl (aN (adR r L wh x (nI 0))))), (q_rv, .inr (4, [.ref q_nv, .int (nI z9)])), (q_nv, .inl (cI, 40, .inl (aN (adR r2 L2 wh x (nI 1)))))] zs.heap) ec_len2).mp hP9
      have hD9 : va_D A [(q_x, .inr (5, [.ref q_nt, .ref q_rw, .ref q_rv, .ref q_hd, .ref q_lk, .ref q_rg])), (q_rw, .inr (4, [.ref q_nm, .int (nI (adL L wh x (nI 0)))])), (q_nm, .inl (cI, 40, .inl (aN (adR r L wh x (nI 0))))), (q_rv, .inr (4, [.ref q_nv, .int (nI (adL L2 wh x (nI 1)))])), (q_nv, .inl (cI, 40, .inl (aN (adR r2 L2 wh x (nI 1)))))] := (congrArg (fun z9 : Nat => va_D A [(q_x, .inr (5, [.ref q_nt, .ref q_rw, .ref q_rv, .ref q_hd, .ref q_lk, .ref q_rg])), (q_rw, .inr (4, [.ref q_nm, .int (nI (adL L wh x (nI 0)))])), (q_nm, .inl (cI, 40, .inl (aN (adR r L wh x (nI 0))))), (q_rv, .inr (4, [.ref q_nv, .int (nI z9)])), (q_nv, .inl (cI, 40, .inl (aN (adR r2 L2 wh x (nI 1)))))]) ec_len2).mp hD9
      exact W.iret (v := (-2)) hx hb hr (fun t ht hW => ⟨⟨_, (), rfl, er, by rw [ht]; exact hP9, hD9⟩, hS.F ht⟩) hS.2.2 dX5_add_19
    · replace hw := hwf cc
      refine lv_iload_n hx hb dX5_add_11 rfl (lv_at hl 2 rfl) ?_
      refine lv_bipush (v := nI 9) hx hb dX5_add_12 (by decide +kernel) ?_
      obtain ⟨hwt, hwf⟩ := hw
      refine lv_icmp_le hx hb (tgt := 20) dX5_add_14 (by decide) (fun cc => ?_) (fun cc => ?_)
      · replace hw := hwt cc
        refine lv_aload_n hx hb dX5_add_20 rfl (lv_at hl 0 rfl) ?_
        refine lv_iload_n hx hb dX5_add_21 rfl (lv_at hl 1 rfl) ?_
        refine lv_iconst (v := nI 1) hx hb dX5_add_22 (by decide +kernel) ?_
        obtain ⟨hwt, hwf⟩ := hw
        refine lv_icmp_ne hx hb (tgt := 30) dX5_add_23 (by decide) (fun cc => ?_) (fun cc => ?_)
        · replace hw := hwt cc
          refine lv_iconst (v := nI 0) hx hb dX5_add_30 (by decide +kernel) ?_
          refine z_st (st' := [.int (bI false), .ref q_x]) rfl ?_
          obtain ⟨zh2, hw⟩ := hw
          have hPc : va_P D vwCl [(q_x, .inr (5, [.ref q_nt, .ref q_rw, .ref q_rv, .ref q_hd, .ref q_lk, .ref q_rg])), (q_rw, .inr (4, [.ref q_nm, .int (nI L)])), (q_nm, .inl (cI, 40, .inl (aN r))), (q_rv, .inr (4, [.ref q_nv, .int (nI L2)])), (q_nv, .inl (cI, 40, .inl (aN r2)))] zs.heap := hP.sub [0, 1, 2, 3, 4] rfl
          refine z_ror (va_runV (As := [.int (bI false)]) (rest := []) ⟨hx, hb, hml, hown, hts⟩ (k_X5_rowOf_f q_x q_rw q_nm q_rv q_nv q_nt q_hd q_lk q_rg r L r2 L2 false zh2) (cwV 1 hts gX5_add_X5_rowOf rfl rfl rfl (by decide +kernel) ⟨Nat.le_of_ble_eq_true rfl, Nat.le_of_ble_eq_true rfl⟩) (zPr_V hZ hPc 0 rfl rfl) rfl rfl hl.1 rfl (lv_room (Nat.le_of_ble_eq_true rfl)) dX5_add_31 ⟨Nat.zero_le _, Nat.zero_le _⟩) ?_
          refine lv_astore_n (lv' := [(3, .ref q_rw), (0, .ref q_x), (1, .int wh), (2, .int x)]) hx hb dX5_add_34 rfl hl (by decide) rfl (fun ls hl => ?_)
          refine lv_aload_n hx hb dX5_add_35 rfl (lv_at hl 0 rfl) ?_
          obtain ⟨zh3, hw⟩ := hw
          have hPc : va_P D vwCl [(q_rw, .inr (4, [.ref q_nm, .int (nI L)])), (q_nm, .inl (cI, 40, .inl (aN r)))] zs.heap := hP.sub [1, 2] rfl
          refine z_ro (va_runV (As := []) (rest := []) ⟨hx, hb, hml, hown, hts⟩ (k_X4_isFull q_rw q_nm r L zh3) (cwV 0 hts gX5_add_X4_isFull rfl rfl rfl (by decide +kernel) ⟨Nat.le_of_ble_eq_true rfl, Nat.le_of_ble_eq_true rfl⟩) (zPr_V hZ hPc 0 rfl rfl) rfl rfl hl.1 rfl (lv_room (Nat.le_of_ble_eq_true rfl)) dX5_add_36 ⟨Nat.zero_le _, Nat.zero_le _⟩) (fun zr4 hzr4 => ?_)
          have ez := hzr4
          rw [ez]
          clear ez hzr4
          obtain ⟨hwt, hwf⟩ := hw
          refine z_if_eqb hx hb (tgt := 45) dX5_add_39 (by decide) (fun cc => ?_) (fun cc => ?_)
          · replace hw := hwt cc
            refine lv_aload_n hx hb dX5_add_45 rfl (lv_at hl 0 rfl) ?_
            refine lv_iload_n hx hb dX5_add_46 rfl (lv_at hl 3 rfl) ?_
            obtain ⟨zk5, ezk5, hw⟩ := hw
            refine z_st (st' := [.int (nI zk5), .ref q_rw]) (by rw [ezk5]) ?_
            obtain ⟨zh6, hw⟩ := hw
            have hPc : va_P D vwCl [(q_rw, .inr (4, [.ref q_nm, .int (nI L)])), (q_nm, .inl (cI, 40, .inl (aN r)))] zs.heap := hP.sub [1, 2] rfl
            have hDc : va_D A [(q_rw, .inr (4, [.ref q_nm, .int (nI L)])), (q_nm, .inl (cI, 40, .inl (aN r)))] := hD.sub [1, 2] (by decide) rfl
            have hFc := va_free (wc := [(q_rw, .inr (4, [.ref q_nm, .int (nI L)])), (q_nm, .inl (cI, 40, .inl (aN r)))]) hD hS hA [1, 2] rfl
            refine va_callv (va_runV (As := [.int (nI zk5)]) (rest := []) ⟨hx, hb, hml, hown, hts⟩ (k_X4_append q_rw q_nm zs.heap.size r L zk5 zh6) (cwV 1 hts gX5_add_X4_append rfl rfl rfl (by decide +kernel) ⟨Nat.le_of_ble_eq_true rfl, Nat.le_of_ble_eq_true rfl⟩) (zPw_V hZ hPc (hDc.weaken (fun _ _ _ _ => trivial)) 0 rfl rfl) rfl rfl hl.1 rfl (lv_room (Nat.le_of_ble_eq_true rfl)) dX5_add_47 ⟨Nat.zero_le _, Nat.zero_le _⟩) hS (fun q _ h => hFc q h) hFc (fun zu zt H1 locs1 ht hvm hq hB hz1 hk1 hS => ?_)
            obtain ⟨hP1, hD1⟩ := hB
            rw [ht] at hP1
            obtain ⟨hP, hD⟩ := va_join (wr := [(q_x, .inr (5, [.ref q_nt, .ref q_rw, .ref q_rv, .ref q_hd, .ref q_lk, .ref q_rg])), (q_rv, .inr (4, [.ref q_nv, .int (nI L2)])), (q_nv, .inl (cI, 40, .inl (aN r2)))]) (w1 := [(q_rw, .inr (4, [.ref q_nm, .int (nI (L + 1))])), (q_nm, .inl (cI, 40, .inl (aN (upN r L zk5))))]) hP hD [1, 2] [0, 3, 4] rfl rfl (by decide) (by decide) hk1 hFc hP1 hD1
            have hP : va_P D vwCl [(q_x, .inr (5, [.ref q_nt, .ref q_rw, .ref q_rv, .ref q_hd, .ref q_lk, .ref q_rg])), (q_rv, .inr (4, [.ref q_nv, .int (nI L2)])), (q_nv, .inl (cI, 40, .inl (aN r2))), (q_rw, .inr (4, [.ref q_nm, .int (nI (L + 1))])), (q_nm, .inl (cI, 40, .inl (aN (upN r L zk5))))] H1 := hP
            have hD : va_D A [(q_x, .inr (5, [.ref q_nt, .ref q_rw, .ref q_rv, .ref q_hd, .ref q_lk, .ref q_rg])), (q_rv, .inr (4, [.ref q_nv, .int (nI L2)])), (q_nv, .inl (cI, 40, .inl (aN r2))), (q_rw, .inr (4, [.ref q_nm, .int (nI (L + 1))])), (q_nm, .inl (cI, 40, .inl (aN (upN r L zk5))))] := hD
            clear hP1 hD1 hk1 hz1 hFc hDc hPc ht hvm
            refine lv_aload_n hx hb dX5_add_50 rfl (lv_at hl 0 rfl) ?_
            refine va_get (D := D) (ci := 4) (v := .int (nI (L + 1))) (C := RX4) (T := TX4) (N := 2) hx hb hts i_X5_add_X4 hown hZ.1 hP 3 rfl rfl 1 (by decide) (hts _ m_X5_add_f116) (fun _ h9 => h9) rfl dX5_add_51 ?_
            obtain ⟨er, ec_nm, ec_len, ec_nv, ec_len2⟩ := hw
            have hP9 : va_P D vwCl [(q_x, .inr (5, [.ref q_nt, .ref q_rw, .ref q_rv, .ref q_hd, .ref q_lk, .ref q_rg])), (q_rw, .inr (4, [.ref q_nm, .int (nI (L + 1))])), (q_nm, .inl (cI, 40, .inl (aN (upN r L zk5)))), (q_rv, .inr (4, [.ref q_nv, .int (nI L2)])), (q_nv, .inl (cI, 40, .inl (aN r2)))] H1 := hP.sub [0, 3, 4, 1, 2] rfl
            have hD9 : va_D A [(q_x, .inr (5, [.ref q_nt, .ref q_rw, .ref q_rv, .ref q_hd, .ref q_lk, .ref q_rg])), (q_rw, .inr (4, [.ref q_nm, .int (nI (L + 1))])), (q_nm, .inl (cI, 40, .inl (aN (upN r L zk5)))), (q_rv, .inr (4, [.ref q_nv, .int (nI L2)])), (q_nv, .inl (cI, 40, .inl (aN r2)))] := hD.sub [0, 3, 4, 1, 2] (by decide) rfl
            have hP9 : va_P D vwCl [(q_x, .inr (5, [.ref q_nt, .ref q_rw, .ref q_rv, .ref q_hd, .ref q_lk, .ref q_rg])), (q_rw, .inr (4, [.ref q_nm, .int (nI (L + 1))])), (q_nm, .inl (cI, 40, .inl (aN (adR r L wh x (nI 0))))), (q_rv, .inr (4, [.ref q_nv, .int (nI L2)])), (q_nv, .inl (cI, 40, .inl (aN r2)))] H1 := z_arr hP9 2 rfl (fun zi hi => congrArg nI (ec_nm zi hi))
            have hD9 : va_D A [(q_x, .inr (5, [.ref q_nt, .ref q_rw, .ref q_rv, .ref q_hd, .ref q_lk, .ref q_rg])), (q_rw, .inr (4, [.ref q_nm, .int (nI (L + 1))])), (q_nm, .inl (cI, 40, .inl (aN (adR r L wh x (nI 0))))), (q_rv, .inr (4, [.ref q_nv, .int (nI L2)])), (q_nv, .inl (cI, 40, .inl (aN r2)))] := hD9.set (p := 2) (e := .inl (cI, 40, .inl (aN (adR r L wh x (nI 0))))) rfl
            have hP9 : va_P D vwCl [(q_x, .inr (5, [.ref q_nt, .ref q_rw, .ref q_rv, .ref q_hd, .ref q_lk, .ref q_rg])), (q_rw, .inr (4, [.ref q_nm, .int (nI (adL L wh x (nI 0)))])), (q_nm, .inl (cI, 40, .inl (aN (adR r L wh x (nI 0))))), (q_rv, .inr (4, [.ref q_nv, .int (nI L2)])), (q_nv, .inl (cI, 40, .inl (aN r2)))] H1 := (congrArg (fun z9 : Nat => va_P D vwCl [(q_x, .inr (5, [.ref q_nt, .ref q_rw, .ref q_rv, .ref q_hd, .ref q_lk, .ref q_rg])), (q_rw, .inr (4, [.ref q_nm, .int (nI z9)])), (q_nm, .inl (cI, 40, .inl (aN (adR r L wh x (nI 0))))), (q_rv, .inr (4, [.ref q_nv, .int (nI L2)])), (q_nv, .inl (cI, 40, .inl (aN r2)))] H1) ec_len).mp hP9
            have hD9 : va_D A [(q_x, .inr (5, [.ref q_nt, .ref q_rw, .ref q_rv, .ref q_hd, .ref q_lk, .ref q_rg])), (q_rw, .inr (4, [.ref q_nm, .int (nI (adL L wh x (nI 0)))])), (q_nm, .inl (cI, 40, .inl (aN (adR r L wh x (nI 0))))), (q_rv, .inr (4, [.ref q_nv, .int (nI L2)])), (q_nv, .inl (cI, 40, .inl (aN r2)))] := (congrArg (fun z9 : Nat => va_D A [(q_x, .inr (5, [.ref q_nt, .ref q_rw, .ref q_rv, .ref q_hd, .ref q_lk, .ref q_rg])), (q_rw, .inr (4, [.ref q_nm, .int (nI z9)])), (q_nm, .inl (cI, 40, .inl (aN (adR r L wh x (nI 0))))), (q_rv, .inr (4, [.ref q_nv, .int (nI L2)])), (q_nv, .inl (cI, 40, .inl (aN r2)))]) ec_len).mp hD9
            have hP9 : va_P D vwCl [(q_x, .inr (5, [.ref q_nt, .ref q_rw, .ref q_rv, .ref q_hd, .ref q_lk, .ref q_rg])), (q_rw, .inr (4, [.ref q_nm, .int (nI (adL L wh x (nI 0)))])), (q_nm, .inl (cI, 40, .inl (aN (adR r L wh x (nI 0))))), (q_rv, .inr (4, [.ref q_nv, .int (nI L2)])), (q_nv, .inl (cI, 40, .inl (aN (adR r2 L2 wh x (nI 1)))))] H1 := z_arr hP9 4 rfl (fun zi hi => congrArg nI (ec_nv zi hi))
            have hD9 : va_D A [(q_x, .inr (5, [.ref q_nt, .ref q_rw, .ref q_rv, .ref q_hd, .ref q_lk, .ref q_rg])), (q_rw, .inr (4, [.ref q_nm, .int (nI (adL L wh x (nI 0)))])), (q_nm, .inl (cI, 40, .inl (aN (adR r L wh x (nI 0))))), (q_rv, .inr (4, [.ref q_nv, .int (nI L2)])), (q_nv, .inl (cI, 40, .inl (aN (adR r2 L2 wh x (nI 1)))))] := hD9.set (p := 4) (e := .inl (cI, 40, .inl (aN (adR r2 L2 wh x (nI 1))))) rfl
            have hP9 : va_P D vwCl [(q_x, .inr (5, [.ref q_nt, .ref q_rw, .ref q_rv, .ref q_hd, .ref q_lk, .ref q_rg])), (q_rw, .inr (4, [.ref q_nm, .int (nI (adL L wh x (nI 0)))])), (q_nm, .inl (cI, 40, .inl (aN (adR r L wh x (nI 0))))), (q_rv, .inr (4, [.ref q_nv, .int (nI (adL L2 wh x (nI 1)))])), (q_nv, .inl (cI, 40, .inl (aN (adR r2 L2 wh x (nI 1)))))] H1 := (congrArg (fun z9 : Nat => va_P D vwCl [(q_x, .inr (5, [.ref q_nt, .ref q_rw, .ref q_rv, .ref q_hd, .ref q_lk, .ref q_rg])), (q_rw, .inr (4, [.ref q_nm, .int (nI (adL L wh x (nI 0)))])), (q_nm, .inl (cI, 40, .inl (aN (adR r L wh x (nI 0))))), (q_rv, .inr (4, [.ref q_nv, .int (nI z9)])), (q_nv, .inl (cI, 40, .inl (aN (adR r2 L2 wh x (nI 1)))))] H1) ec_len2).mp hP9
            have hD9 : va_D A [(q_x, .inr (5, [.ref q_nt, .ref q_rw, .ref q_rv, .ref q_hd, .ref q_lk, .ref q_rg])), (q_rw, .inr (4, [.ref q_nm, .int (nI (adL L wh x (nI 0)))])), (q_nm, .inl (cI, 40, .inl (aN (adR r L wh x (nI 0))))), (q_rv, .inr (4, [.ref q_nv, .int (nI (adL L2 wh x (nI 1)))])), (q_nv, .inl (cI, 40, .inl (aN (adR r2 L2 wh x (nI 1)))))] := (congrArg (fun z9 : Nat => va_D A [(q_x, .inr (5, [.ref q_nt, .ref q_rw, .ref q_rv, .ref q_hd, .ref q_lk, .ref q_rg])), (q_rw, .inr (4, [.ref q_nm, .int (nI (adL L wh x (nI 0)))])), (q_nm, .inl (cI, 40, .inl (aN (adR r L wh x (nI 0))))), (q_rv, .inr (4, [.ref q_nv, .int (nI z9)])), (q_nv, .inl (cI, 40, .inl (aN (adR r2 L2 wh x (nI 1)))))]) ec_len2).mp hD9
            exact W.iret (v := nI (L + 1)) hx hb hr (fun t ht hW => ⟨⟨_, (), rfl, er, by rw [ht]; exact hP9, hD9⟩, hS.F ht⟩) hS.2.2 dX5_add_54
          · replace hw := hwf cc
            refine lv_bipush (v := (-4)) hx hb dX5_add_42 (by decide +kernel) ?_
            obtain ⟨er, ec_nm, ec_len, ec_nv, ec_len2⟩ := hw
            have hP9 : va_P D vwCl [(q_x, .inr (5, [.ref q_nt, .ref q_rw, .ref q_rv, .ref q_hd, .ref q_lk, .ref q_rg])), (q_rw, .inr (4, [.ref q_nm, .int (nI L)])), (q_nm, .inl (cI, 40, .inl (aN r))), (q_rv, .inr (4, [.ref q_nv, .int (nI L2)])), (q_nv, .inl (cI, 40, .inl (aN r2)))] zs.heap := hP.sub [0, 1, 2, 3, 4] rfl
            have hD9 : va_D A [(q_x, .inr (5, [.ref q_nt, .ref q_rw, .ref q_rv, .ref q_hd, .ref q_lk, .ref q_rg])), (q_rw, .inr (4, [.ref q_nm, .int (nI L)])), (q_nm, .inl (cI, 40, .inl (aN r))), (q_rv, .inr (4, [.ref q_nv, .int (nI L2)])), (q_nv, .inl (cI, 40, .inl (aN r2)))] := hD.sub [0, 1, 2, 3, 4] (by decide) rfl
            have hP9 : va_P D vwCl [(q_x, .inr (5, [.ref q_nt, .ref q_rw, .ref q_rv, .ref q_hd, .ref q_lk, .ref q_rg])), (q_rw, .inr (4, [.ref q_nm, .int (nI L)])), (q_nm, .inl (cI, 40, .inl (aN (adR r L wh x (nI 0))))), (q_rv, .inr (4, [.ref q_nv, .int (nI L2)])), (q_nv, .inl (cI, 40, .inl (aN r2)))] zs.heap := z_arr hP9 2 rfl (fun zi hi => congrArg nI (ec_nm zi hi))
            have hD9 : va_D A [(q_x, .inr (5, [.ref q_nt, .ref q_rw, .ref q_rv, .ref q_hd, .ref q_lk, .ref q_rg])), (q_rw, .inr (4, [.ref q_nm, .int (nI L)])), (q_nm, .inl (cI, 40, .inl (aN (adR r L wh x (nI 0))))), (q_rv, .inr (4, [.ref q_nv, .int (nI L2)])), (q_nv, .inl (cI, 40, .inl (aN r2)))] := hD9.set (p := 2) (e := .inl (cI, 40, .inl (aN (adR r L wh x (nI 0))))) rfl
            have hP9 : va_P D vwCl [(q_x, .inr (5, [.ref q_nt, .ref q_rw, .ref q_rv, .ref q_hd, .ref q_lk, .ref q_rg])), (q_rw, .inr (4, [.ref q_nm, .int (nI (adL L wh x (nI 0)))])), (q_nm, .inl (cI, 40, .inl (aN (adR r L wh x (nI 0))))), (q_rv, .inr (4, [.ref q_nv, .int (nI L2)])), (q_nv, .inl (cI, 40, .inl (aN r2)))] zs.heap := (congrArg (fun z9 : Nat => va_P D vwCl [(q_x, .inr (5, [.ref q_nt, .ref q_rw, .ref q_rv, .ref q_hd, .ref q_lk, .ref q_rg])), (q_rw, .inr (4, [.ref q_nm, .int (nI z9)])), (q_nm, .inl (cI, 40, .inl (aN (adR r L wh x (nI 0))))), (q_rv, .inr (4, [.ref q_nv, .int (nI L2)])), (q_nv, .inl (cI, 40, .inl (aN r2)))] zs.heap) ec_len).mp hP9
            have hD9 : va_D A [(q_x, .inr (5, [.ref q_nt, .ref q_rw, .ref q_rv, .ref q_hd, .ref q_lk, .ref q_rg])), (q_rw, .inr (4, [.ref q_nm, .int (nI (adL L wh x (nI 0)))])), (q_nm, .inl (cI, 40, .inl (aN (adR r L wh x (nI 0))))), (q_rv, .inr (4, [.ref q_nv, .int (nI L2)])), (q_nv, .inl (cI, 40, .inl (aN r2)))] := (congrArg (fun z9 : Nat => va_D A [(q_x, .inr (5, [.ref q_nt, .ref q_rw, .ref q_rv, .ref q_hd, .ref q_lk, .ref q_rg])), (q_rw, .inr (4, [.ref q_nm, .int (nI z9)])), (q_nm, .inl (cI, 40, .inl (aN (adR r L wh x (nI 0))))), (q_rv, .inr (4, [.ref q_nv, .int (nI L2)])), (q_nv, .inl (cI, 40, .inl (aN r2)))]) ec_len).mp hD9
            have hP9 : va_P D vwCl [(q_x, .inr (5, [.ref q_nt, .ref q_rw, .ref q_rv, .ref q_hd, .ref q_lk, .ref q_rg])), (q_rw, .inr (4, [.ref q_nm, .int (nI (adL L wh x (nI 0)))])), (q_nm, .inl (cI, 40, .inl (aN (adR r L wh x (nI 0))))), (q_rv, .inr (4, [.ref q_nv, .int (nI L2)])), (q_nv, .inl (cI, 40, .inl (aN (adR r2 L2 wh x (nI 1)))))] zs.heap := z_arr hP9 4 rfl (fun zi hi => congrArg nI (ec_nv zi hi))
            have hD9 : va_D A [(q_x, .inr (5, [.ref q_nt, .ref q_rw, .ref q_rv, .ref q_hd, .ref q_lk, .ref q_rg])), (q_rw, .inr (4, [.ref q_nm, .int (nI (adL L wh x (nI 0)))])), (q_nm, .inl (cI, 40, .inl (aN (adR r L wh x (nI 0))))), (q_rv, .inr (4, [.ref q_nv, .int (nI L2)])), (q_nv, .inl (cI, 40, .inl (aN (adR r2 L2 wh x (nI 1)))))] := hD9.set (p := 4) (e := .inl (cI, 40, .inl (aN (adR r2 L2 wh x (nI 1))))) rfl
            have hP9 : va_P D vwCl [(q_x, .inr (5, [.ref q_nt, .ref q_rw, .ref q_rv, .ref q_hd, .ref q_lk, .ref q_rg])), (q_rw, .inr (4, [.ref q_nm, .int (nI (adL L wh x (nI 0)))])), (q_nm, .inl (cI, 40, .inl (aN (adR r L wh x (nI 0))))), (q_rv, .inr (4, [.ref q_nv, .int (nI (adL L2 wh x (nI 1)))])), (q_nv, .inl (cI, 40, .inl (aN (adR r2 L2 wh x (nI 1)))))] zs.heap := (congrArg (fun z9 : Nat => va_P D vwCl [(q_x, .inr (5, [.ref q_nt, .ref q_rw, .ref q_rv, .ref q_hd, .ref q_lk, .ref q_rg])), (q_rw, .inr (4, [.ref q_nm, .int (nI (adL L wh x (nI 0)))])), (q_nm, .inl (cI, 40, .inl (aN (adR r L wh x (nI 0))))), (q_rv, .inr (4, [.ref q_nv, .int (nI z9)])), (q_nv, .inl (cI, 40, .inl (aN (adR r2 L2 wh x (nI 1)))))] zs.heap) ec_len2).mp hP9
            have hD9 : va_D A [(q_x, .inr (5, [.ref q_nt, .ref q_rw, .ref q_rv, .ref q_hd, .ref q_lk, .ref q_rg])), (q_rw, .inr (4, [.ref q_nm, .int (nI (adL L wh x (nI 0)))])), (q_nm, .inl (cI, 40, .inl (aN (adR r L wh x (nI 0))))), (q_rv, .inr (4, [.ref q_nv, .int (nI (adL L2 wh x (nI 1)))])), (q_nv, .inl (cI, 40, .inl (aN (adR r2 L2 wh x (nI 1)))))] := (congrArg (fun z9 : Nat => va_D A [(q_x, .inr (5, [.ref q_nt, .ref q_rw, .ref q_rv, .ref q_hd, .ref q_lk, .ref q_rg])), (q_rw, .inr (4, [.ref q_nm, .int (nI (adL L wh x (nI 0)))])), (q_nm, .inl (cI, 40, .inl (aN (adR r L wh x (nI 0))))), (q_rv, .inr (4, [.ref q_nv, .int (nI z9)])), (q_nv, .inl (cI, 40, .inl (aN (adR r2 L2 wh x (nI 1)))))]) ec_len2).mp hD9
            exact W.iret (v := (-4)) hx hb hr (fun t ht hW => ⟨⟨_, (), rfl, er, by rw [ht]; exact hP9, hD9⟩, hS.F ht⟩) hS.2.2 dX5_add_44
        · replace hw := hwf cc
          refine lv_iconst (v := nI 1) hx hb dX5_add_26 (by decide +kernel) ?_
          refine lv_goto (tgt := 31) hx hb dX5_add_27 (by decide) ?_
          refine z_st (st' := [.int (bI true), .ref q_x]) rfl ?_
          obtain ⟨zh8, hw⟩ := hw
          have hPc : va_P D vwCl [(q_x, .inr (5, [.ref q_nt, .ref q_rw, .ref q_rv, .ref q_hd, .ref q_lk, .ref q_rg])), (q_rw, .inr (4, [.ref q_nm, .int (nI L)])), (q_nm, .inl (cI, 40, .inl (aN r))), (q_rv, .inr (4, [.ref q_nv, .int (nI L2)])), (q_nv, .inl (cI, 40, .inl (aN r2)))] zs.heap := hP.sub [0, 1, 2, 3, 4] rfl
          refine z_ror (va_runV (As := [.int (bI true)]) (rest := []) ⟨hx, hb, hml, hown, hts⟩ (k_X5_rowOf_t q_x q_rw q_nm q_rv q_nv q_nt q_hd q_lk q_rg r L r2 L2 true zh8) (cwV 1 hts gX5_add_X5_rowOf rfl rfl rfl (by decide +kernel) ⟨Nat.le_of_ble_eq_true rfl, Nat.le_of_ble_eq_true rfl⟩) (zPr_V hZ hPc 0 rfl rfl) rfl rfl hl.1 rfl (lv_room (Nat.le_of_ble_eq_true rfl)) dX5_add_31 ⟨Nat.zero_le _, Nat.zero_le _⟩) ?_
          refine lv_astore_n (lv' := [(3, .ref q_rv), (0, .ref q_x), (1, .int wh), (2, .int x)]) hx hb dX5_add_34 rfl hl (by decide) rfl (fun ls hl => ?_)
          refine lv_aload_n hx hb dX5_add_35 rfl (lv_at hl 0 rfl) ?_
          obtain ⟨zh9, hw⟩ := hw
          have hPc : va_P D vwCl [(q_rv, .inr (4, [.ref q_nv, .int (nI L2)])), (q_nv, .inl (cI, 40, .inl (aN r2)))] zs.heap := hP.sub [3, 4] rfl
          refine z_ro (va_runV (As := []) (rest := []) ⟨hx, hb, hml, hown, hts⟩ (k_X4_isFull q_rv q_nv r2 L2 zh9) (cwV 0 hts gX5_add_X4_isFull rfl rfl rfl (by decide +kernel) ⟨Nat.le_of_ble_eq_true rfl, Nat.le_of_ble_eq_true rfl⟩) (zPr_V hZ hPc 0 rfl rfl) rfl rfl hl.1 rfl (lv_room (Nat.le_of_ble_eq_true rfl)) dX5_add_36 ⟨Nat.zero_le _, Nat.zero_le _⟩) (fun zr10 hzr10 => ?_)
          have ez := hzr10
          rw [ez]
          clear ez hzr10
          obtain ⟨hwt, hwf⟩ := hw
          refine z_if_eqb hx hb (tgt := 45) dX5_add_39 (by decide) (fun cc => ?_) (fun cc => ?_)
          · replace hw := hwt cc
            refine lv_aload_n hx hb dX5_add_45 rfl (lv_at hl 0 rfl) ?_
            refine lv_iload_n hx hb dX5_add_46 rfl (lv_at hl 3 rfl) ?_
            obtain ⟨zk11, ezk11, hw⟩ := hw
            refine z_st (st' := [.int (nI zk11), .ref q_rv]) (by rw [ezk11]) ?_
            obtain ⟨zh12, hw⟩ := hw
            have hPc : va_P D vwCl [(q_rv, .inr (4, [.ref q_nv, .int (nI L2)])), (q_nv, .inl (cI, 40, .inl (aN r2)))] zs.heap := hP.sub [3, 4] rfl
            have hDc : va_D A [(q_rv, .inr (4, [.ref q_nv, .int (nI L2)])), (q_nv, .inl (cI, 40, .inl (aN r2)))] := hD.sub [3, 4] (by decide) rfl
            have hFc := va_free (wc := [(q_rv, .inr (4, [.ref q_nv, .int (nI L2)])), (q_nv, .inl (cI, 40, .inl (aN r2)))]) hD hS hA [3, 4] rfl
            refine va_callv (va_runV (As := [.int (nI zk11)]) (rest := []) ⟨hx, hb, hml, hown, hts⟩ (k_X4_append q_rv q_nv zs.heap.size r2 L2 zk11 zh12) (cwV 1 hts gX5_add_X4_append rfl rfl rfl (by decide +kernel) ⟨Nat.le_of_ble_eq_true rfl, Nat.le_of_ble_eq_true rfl⟩) (zPw_V hZ hPc (hDc.weaken (fun _ _ _ _ => trivial)) 0 rfl rfl) rfl rfl hl.1 rfl (lv_room (Nat.le_of_ble_eq_true rfl)) dX5_add_47 ⟨Nat.zero_le _, Nat.zero_le _⟩) hS (fun q _ h => hFc q h) hFc (fun zu zt H1 locs1 ht hvm hq hB hz1 hk1 hS => ?_)
            obtain ⟨hP1, hD1⟩ := hB
            rw [ht] at hP1
            obtain ⟨hP, hD⟩ := va_join (wr := [(q_x, .inr (5, [.ref q_nt, .ref q_rw, .ref q_rv, .ref q_hd, .ref q_lk, .ref q_rg])), (q_rw, .inr (4, [.ref q_nm, .int (nI L)])), (q_nm, .inl (cI, 40, .inl (aN r)))]) (w1 := [(q_rv, .inr (4, [.ref q_nv, .int (nI (L2 + 1))])), (q_nv, .inl (cI, 40, .inl (aN (upN r2 L2 zk11))))]) hP hD [3, 4] [0, 1, 2] rfl rfl (by decide) (by decide) hk1 hFc hP1 hD1
            have hP : va_P D vwCl [(q_x, .inr (5, [.ref q_nt, .ref q_rw, .ref q_rv, .ref q_hd, .ref q_lk, .ref q_rg])), (q_rw, .inr (4, [.ref q_nm, .int (nI L)])), (q_nm, .inl (cI, 40, .inl (aN r))), (q_rv, .inr (4, [.ref q_nv, .int (nI (L2 + 1))])), (q_nv, .inl (cI, 40, .inl (aN (upN r2 L2 zk11))))] H1 := hP
            have hD : va_D A [(q_x, .inr (5, [.ref q_nt, .ref q_rw, .ref q_rv, .ref q_hd, .ref q_lk, .ref q_rg])), (q_rw, .inr (4, [.ref q_nm, .int (nI L)])), (q_nm, .inl (cI, 40, .inl (aN r))), (q_rv, .inr (4, [.ref q_nv, .int (nI (L2 + 1))])), (q_nv, .inl (cI, 40, .inl (aN (upN r2 L2 zk11))))] := hD
            clear hP1 hD1 hk1 hz1 hFc hDc hPc ht hvm
            refine lv_aload_n hx hb dX5_add_50 rfl (lv_at hl 0 rfl) ?_
            refine va_get (D := D) (ci := 4) (v := .int (nI (L2 + 1))) (C := RX4) (T := TX4) (N := 2) hx hb hts i_X5_add_X4 hown hZ.1 hP 3 rfl rfl 1 (by decide) (hts _ m_X5_add_f116) (fun _ h9 => h9) rfl dX5_add_51 ?_
            obtain ⟨er, ec_nm, ec_len, ec_nv, ec_len2⟩ := hw
            have hP9 : va_P D vwCl [(q_x, .inr (5, [.ref q_nt, .ref q_rw, .ref q_rv, .ref q_hd, .ref q_lk, .ref q_rg])), (q_rw, .inr (4, [.ref q_nm, .int (nI L)])), (q_nm, .inl (cI, 40, .inl (aN r))), (q_rv, .inr (4, [.ref q_nv, .int (nI (L2 + 1))])), (q_nv, .inl (cI, 40, .inl (aN (upN r2 L2 zk11))))] H1 := hP.sub [0, 1, 2, 3, 4] rfl
            have hD9 : va_D A [(q_x, .inr (5, [.ref q_nt, .ref q_rw, .ref q_rv, .ref q_hd, .ref q_lk, .ref q_rg])), (q_rw, .inr (4, [.ref q_nm, .int (nI L)])), (q_nm, .inl (cI, 40, .inl (aN r))), (q_rv, .inr (4, [.ref q_nv, .int (nI (L2 + 1))])), (q_nv, .inl (cI, 40, .inl (aN (upN r2 L2 zk11))))] := hD.sub [0, 1, 2, 3, 4] (by decide) rfl
            have hP9 : va_P D vwCl [(q_x, .inr (5, [.ref q_nt, .ref q_rw, .ref q_rv, .ref q_hd, .ref q_lk, .ref q_rg])), (q_rw, .inr (4, [.ref q_nm, .int (nI L)])), (q_nm, .inl (cI, 40, .inl (aN (adR r L wh x (nI 0))))), (q_rv, .inr (4, [.ref q_nv, .int (nI (L2 + 1))])), (q_nv, .inl (cI, 40, .inl (aN (upN r2 L2 zk11))))] H1 := z_arr hP9 2 rfl (fun zi hi => congrArg nI (ec_nm zi hi))
            have hD9 : va_D A [(q_x, .inr (5, [.ref q_nt, .ref q_rw, .ref q_rv, .ref q_hd, .ref q_lk, .ref q_rg])), (q_rw, .inr (4, [.ref q_nm, .int (nI L)])), (q_nm, .inl (cI, 40, .inl (aN (adR r L wh x (nI 0))))), (q_rv, .inr (4, [.ref q_nv, .int (nI (L2 + 1))])), (q_nv, .inl (cI, 40, .inl (aN (upN r2 L2 zk11))))] := hD9.set (p := 2) (e := .inl (cI, 40, .inl (aN (adR r L wh x (nI 0))))) rfl
            have hP9 : va_P D vwCl [(q_x, .inr (5, [.ref q_nt, .ref q_rw, .ref q_rv, .ref q_hd, .ref q_lk, .ref q_rg])), (q_rw, .inr (4, [.ref q_nm, .int (nI (adL L wh x (nI 0)))])), (q_nm, .inl (cI, 40, .inl (aN (adR r L wh x (nI 0))))), (q_rv, .inr (4, [.ref q_nv, .int (nI (L2 + 1))])), (q_nv, .inl (cI, 40, .inl (aN (upN r2 L2 zk11))))] H1 := (congrArg (fun z9 : Nat => va_P D vwCl [(q_x, .inr (5, [.ref q_nt, .ref q_rw, .ref q_rv, .ref q_hd, .ref q_lk, .ref q_rg])), (q_rw, .inr (4, [.ref q_nm, .int (nI z9)])), (q_nm, .inl (cI, 40, .inl (aN (adR r L wh x (nI 0))))), (q_rv, .inr (4, [.ref q_nv, .int (nI (L2 + 1))])), (q_nv, .inl (cI, 40, .inl (aN (upN r2 L2 zk11))))] H1) ec_len).mp hP9
            have hD9 : va_D A [(q_x, .inr (5, [.ref q_nt, .ref q_rw, .ref q_rv, .ref q_hd, .ref q_lk, .ref q_rg])), (q_rw, .inr (4, [.ref q_nm, .int (nI (adL L wh x (nI 0)))])), (q_nm, .inl (cI, 40, .inl (aN (adR r L wh x (nI 0))))), (q_rv, .inr (4, [.ref q_nv, .int (nI (L2 + 1))])), (q_nv, .inl (cI, 40, .inl (aN (upN r2 L2 zk11))))] := (congrArg (fun z9 : Nat => va_D A [(q_x, .inr (5, [.ref q_nt, .ref q_rw, .ref q_rv, .ref q_hd, .ref q_lk, .ref q_rg])), (q_rw, .inr (4, [.ref q_nm, .int (nI z9)])), (q_nm, .inl (cI, 40, .inl (aN (adR r L wh x (nI 0))))), (q_rv, .inr (4, [.ref q_nv, .int (nI (L2 + 1))])), (q_nv, .inl (cI, 40, .inl (aN (upN r2 L2 zk11))))]) ec_len).mp hD9
            have hP9 : va_P D vwCl [(q_x, .inr (5, [.ref q_nt, .ref q_rw, .ref q_rv, .ref q_hd, .ref q_lk, .ref q_rg])), (q_rw, .inr (4, [.ref q_nm, .int (nI (adL L wh x (nI 0)))])), (q_nm, .inl (cI, 40, .inl (aN (adR r L wh x (nI 0))))), (q_rv, .inr (4, [.ref q_nv, .int (nI (L2 + 1))])), (q_nv, .inl (cI, 40, .inl (aN (adR r2 L2 wh x (nI 1)))))] H1 := z_arr hP9 4 rfl (fun zi hi => congrArg nI (ec_nv zi hi))
            have hD9 : va_D A [(q_x, .inr (5, [.ref q_nt, .ref q_rw, .ref q_rv, .ref q_hd, .ref q_lk, .ref q_rg])), (q_rw, .inr (4, [.ref q_nm, .int (nI (adL L wh x (nI 0)))])), (q_nm, .inl (cI, 40, .inl (aN (adR r L wh x (nI 0))))), (q_rv, .inr (4, [.ref q_nv, .int (nI (L2 + 1))])), (q_nv, .inl (cI, 40, .inl (aN (adR r2 L2 wh x (nI 1)))))] := hD9.set (p := 4) (e := .inl (cI, 40, .inl (aN (adR r2 L2 wh x (nI 1))))) rfl
            have hP9 : va_P D vwCl [(q_x, .inr (5, [.ref q_nt, .ref q_rw, .ref q_rv, .ref q_hd, .ref q_lk, .ref q_rg])), (q_rw, .inr (4, [.ref q_nm, .int (nI (adL L wh x (nI 0)))])), (q_nm, .inl (cI, 40, .inl (aN (adR r L wh x (nI 0))))), (q_rv, .inr (4, [.ref q_nv, .int (nI (adL L2 wh x (nI 1)))])), (q_nv, .inl (cI, 40, .inl (aN (adR r2 L2 wh x (nI 1)))))] H1 := (congrArg (fun z9 : Nat => va_P D vwCl [(q_x, .inr (5, [.ref q_nt, .ref q_rw, .ref q_rv, .ref q_hd, .ref q_lk, .ref q_rg])), (q_rw, .inr (4, [.ref q_nm, .int (nI (adL L wh x (nI 0)))])), (q_nm, .inl (cI, 40, .inl (aN (adR r L wh x (nI 0))))), (q_rv, .inr (4, [.ref q_nv, .int (nI z9)])), (q_nv, .inl (cI, 40, .inl (aN (adR r2 L2 wh x (nI 1)))))] H1) ec_len2).mp hP9
            have hD9 : va_D A [(q_x, .inr (5, [.ref q_nt, .ref q_rw, .ref q_rv, .ref q_hd, .ref q_lk, .ref q_rg])), (q_rw, .inr (4, [.ref q_nm, .int (nI (adL L wh x (nI 0)))])), (q_nm, .inl (cI, 40, .inl (aN (adR r L wh x (nI 0))))), (q_rv, .inr (4, [.ref q_nv, .int (nI (adL L2 wh x (nI 1)))])), (q_nv, .inl (cI, 40, .inl (aN (adR r2 L2 wh x (nI 1)))))] := (congrArg (fun z9 : Nat => va_D A [(q_x, .inr (5, [.ref q_nt, .ref q_rw, .ref q_rv, .ref q_hd, .ref q_lk, .ref q_rg])), (q_rw, .inr (4, [.ref q_nm, .int (nI (adL L wh x (nI 0)))])), (q_nm, .inl (cI, 40, .inl (aN (adR r L wh x (nI 0))))), (q_rv, .inr (4, [.ref q_nv, .int (nI z9)])), (q_nv, .inl (cI, 40, .inl (aN (adR r2 L2 wh x (nI 1)))))]) ec_len2).mp hD9
            exact W.iret (v := nI (L2 + 1)) hx hb hr (fun t ht hW => ⟨⟨_, (), rfl, er, by rw [ht]; exact hP9, hD9⟩, hS.F ht⟩) hS.2.2 dX5_add_54
          · replace hw := hwf cc
            refine lv_bipush (v := (-4)) hx hb dX5_add_42 (by decide +kernel) ?_
            obtain ⟨er, ec_nm, ec_len, ec_nv, ec_len2⟩ := hw
            have hP9 : va_P D vwCl [(q_x, .inr (5, [.ref q_nt, .ref q_rw, .ref q_rv, .ref q_hd, .ref q_lk, .ref q_rg])), (q_rw, .inr (4, [.ref q_nm, .int (nI L)])), (q_nm, .inl (cI, 40, .inl (aN r))), (q_rv, .inr (4, [.ref q_nv, .int (nI L2)])), (q_nv, .inl (cI, 40, .inl (aN r2)))] zs.heap := hP.sub [0, 1, 2, 3, 4] rfl
            have hD9 : va_D A [(q_x, .inr (5, [.ref q_nt, .ref q_rw, .ref q_rv, .ref q_hd, .ref q_lk, .ref q_rg])), (q_rw, .inr (4, [.ref q_nm, .int (nI L)])), (q_nm, .inl (cI, 40, .inl (aN r))), (q_rv, .inr (4, [.ref q_nv, .int (nI L2)])), (q_nv, .inl (cI, 40, .inl (aN r2)))] := hD.sub [0, 1, 2, 3, 4] (by decide) rfl
            have hP9 : va_P D vwCl [(q_x, .inr (5, [.ref q_nt, .ref q_rw, .ref q_rv, .ref q_hd, .ref q_lk, .ref q_rg])), (q_rw, .inr (4, [.ref q_nm, .int (nI L)])), (q_nm, .inl (cI, 40, .inl (aN (adR r L wh x (nI 0))))), (q_rv, .inr (4, [.ref q_nv, .int (nI L2)])), (q_nv, .inl (cI, 40, .inl (aN r2)))] zs.heap := z_arr hP9 2 rfl (fun zi hi => congrArg nI (ec_nm zi hi))
            have hD9 : va_D A [(q_x, .inr (5, [.ref q_nt, .ref q_rw, .ref q_rv, .ref q_hd, .ref q_lk, .ref q_rg])), (q_rw, .inr (4, [.ref q_nm, .int (nI L)])), (q_nm, .inl (cI, 40, .inl (aN (adR r L wh x (nI 0))))), (q_rv, .inr (4, [.ref q_nv, .int (nI L2)])), (q_nv, .inl (cI, 40, .inl (aN r2)))] := hD9.set (p := 2) (e := .inl (cI, 40, .inl (aN (adR r L wh x (nI 0))))) rfl
            have hP9 : va_P D vwCl [(q_x, .inr (5, [.ref q_nt, .ref q_rw, .ref q_rv, .ref q_hd, .ref q_lk, .ref q_rg])), (q_rw, .inr (4, [.ref q_nm, .int (nI (adL L wh x (nI 0)))])), (q_nm, .inl (cI, 40, .inl (aN (adR r L wh x (nI 0))))), (q_rv, .inr (4, [.ref q_nv, .int (nI L2)])), (q_nv, .inl (cI, 40, .inl (aN r2)))] zs.heap := (congrArg (fun z9 : Nat => va_P D vwCl [(q_x, .inr (5, [.ref q_nt, .ref q_rw, .ref q_rv, .ref q_hd, .ref q_lk, .ref q_rg])), (q_rw, .inr (4, [.ref q_nm, .int (nI z9)])), (q_nm, .inl (cI, 40, .inl (aN (adR r L wh x (nI 0))))), (q_rv, .inr (4, [.ref q_nv, .int (nI L2)])), (q_nv, .inl (cI, 40, .inl (aN r2)))] zs.heap) ec_len).mp hP9
            have hD9 : va_D A [(q_x, .inr (5, [.ref q_nt, .ref q_rw, .ref q_rv, .ref q_hd, .ref q_lk, .ref q_rg])), (q_rw, .inr (4, [.ref q_nm, .int (nI (adL L wh x (nI 0)))])), (q_nm, .inl (cI, 40, .inl (aN (adR r L wh x (nI 0))))), (q_rv, .inr (4, [.ref q_nv, .int (nI L2)])), (q_nv, .inl (cI, 40, .inl (aN r2)))] := (congrArg (fun z9 : Nat => va_D A [(q_x, .inr (5, [.ref q_nt, .ref q_rw, .ref q_rv, .ref q_hd, .ref q_lk, .ref q_rg])), (q_rw, .inr (4, [.ref q_nm, .int (nI z9)])), (q_nm, .inl (cI, 40, .inl (aN (adR r L wh x (nI 0))))), (q_rv, .inr (4, [.ref q_nv, .int (nI L2)])), (q_nv, .inl (cI, 40, .inl (aN r2)))]) ec_len).mp hD9
            have hP9 : va_P D vwCl [(q_x, .inr (5, [.ref q_nt, .ref q_rw, .ref q_rv, .ref q_hd, .ref q_lk, .ref q_rg])), (q_rw, .inr (4, [.ref q_nm, .int (nI (adL L wh x (nI 0)))])), (q_nm, .inl (cI, 40, .inl (aN (adR r L wh x (nI 0))))), (q_rv, .inr (4, [.ref q_nv, .int (nI L2)])), (q_nv, .inl (cI, 40, .inl (aN (adR r2 L2 wh x (nI 1)))))] zs.heap := z_arr hP9 4 rfl (fun zi hi => congrArg nI (ec_nv zi hi))
            have hD9 : va_D A [(q_x, .inr (5, [.ref q_nt, .ref q_rw, .ref q_rv, .ref q_hd, .ref q_lk, .ref q_rg])), (q_rw, .inr (4, [.ref q_nm, .int (nI (adL L wh x (nI 0)))])), (q_nm, .inl (cI, 40, .inl (aN (adR r L wh x (nI 0))))), (q_rv, .inr (4, [.ref q_nv, .int (nI L2)])), (q_nv, .inl (cI, 40, .inl (aN (adR r2 L2 wh x (nI 1)))))] := hD9.set (p := 4) (e := .inl (cI, 40, .inl (aN (adR r2 L2 wh x (nI 1))))) rfl
            have hP9 : va_P D vwCl [(q_x, .inr (5, [.ref q_nt, .ref q_rw, .ref q_rv, .ref q_hd, .ref q_lk, .ref q_rg])), (q_rw, .inr (4, [.ref q_nm, .int (nI (adL L wh x (nI 0)))])), (q_nm, .inl (cI, 40, .inl (aN (adR r L wh x (nI 0))))), (q_rv, .inr (4, [.ref q_nv, .int (nI (adL L2 wh x (nI 1)))])), (q_nv, .inl (cI, 40, .inl (aN (adR r2 L2 wh x (nI 1)))))] zs.heap := (congrArg (fun z9 : Nat => va_P D vwCl [(q_x, .inr (5, [.ref q_nt, .ref q_rw, .ref q_rv, .ref q_hd, .ref q_lk, .ref q_rg])), (q_rw, .inr (4, [.ref q_nm, .int (nI (adL L wh x (nI 0)))])), (q_nm, .inl (cI, 40, .inl (aN (adR r L wh x (nI 0))))), (q_rv, .inr (4, [.ref q_nv, .int (nI z9)])), (q_nv, .inl (cI, 40, .inl (aN (adR r2 L2 wh x (nI 1)))))] zs.heap) ec_len2).mp hP9
            have hD9 : va_D A [(q_x, .inr (5, [.ref q_nt, .ref q_rw, .ref q_rv, .ref q_hd, .ref q_lk, .ref q_rg])), (q_rw, .inr (4, [.ref q_nm, .int (nI (adL L wh x (nI 0)))])), (q_nm, .inl (cI, 40, .inl (aN (adR r L wh x (nI 0))))), (q_rv, .inr (4, [.ref q_nv, .int (nI (adL L2 wh x (nI 1)))])), (q_nv, .inl (cI, 40, .inl (aN (adR r2 L2 wh x (nI 1)))))] := (congrArg (fun z9 : Nat => va_D A [(q_x, .inr (5, [.ref q_nt, .ref q_rw, .ref q_rv, .ref q_hd, .ref q_lk, .ref q_rg])), (q_rw, .inr (4, [.ref q_nm, .int (nI (adL L wh x (nI 0)))])), (q_nm, .inl (cI, 40, .inl (aN (adR r L wh x (nI 0))))), (q_rv, .inr (4, [.ref q_nv, .int (nI z9)])), (q_nv, .inl (cI, 40, .inl (aN (adR r2 L2 wh x (nI 1)))))]) ec_len2).mp hD9
            exact W.iret (v := (-4)) hx hb hr (fun t ht hW => ⟨⟨_, (), rfl, er, by rw [ht]; exact hP9, hD9⟩, hS.F ht⟩) hS.2.2 dX5_add_44
      · replace hw := hwf cc
        refine lv_bipush (v := (-2)) hx hb dX5_add_17 (by decide +kernel) ?_
        obtain ⟨er, ec_nm, ec_len, ec_nv, ec_len2⟩ := hw
        have hP9 : va_P D vwCl [(q_x, .inr (5, [.ref q_nt, .ref q_rw, .ref q_rv, .ref q_hd, .ref q_lk, .ref q_rg])), (q_rw, .inr (4, [.ref q_nm, .int (nI L)])), (q_nm, .inl (cI, 40, .inl (aN r))), (q_rv, .inr (4, [.ref q_nv, .int (nI L2)])), (q_nv, .inl (cI, 40, .inl (aN r2)))] zs.heap := hP.sub [0, 1, 2, 3, 4] rfl
        have hD9 : va_D A [(q_x, .inr (5, [.ref q_nt, .ref q_rw, .ref q_rv, .ref q_hd, .ref q_lk, .ref q_rg])), (q_rw, .inr (4, [.ref q_nm, .int (nI L)])), (q_nm, .inl (cI, 40, .inl (aN r))), (q_rv, .inr (4, [.ref q_nv, .int (nI L2)])), (q_nv, .inl (cI, 40, .inl (aN r2)))] := hD.sub [0, 1, 2, 3, 4] (by decide) rfl
        have hP9 : va_P D vwCl [(q_x, .inr (5, [.ref q_nt, .ref q_rw, .ref q_rv, .ref q_hd, .ref q_lk, .ref q_rg])), (q_rw, .inr (4, [.ref q_nm, .int (nI L)])), (q_nm, .inl (cI, 40, .inl (aN (adR r L wh x (nI 0))))), (q_rv, .inr (4, [.ref q_nv, .int (nI L2)])), (q_nv, .inl (cI, 40, .inl (aN r2)))] zs.heap := z_arr hP9 2 rfl (fun zi hi => congrArg nI (ec_nm zi hi))
        have hD9 : va_D A [(q_x, .inr (5, [.ref q_nt, .ref q_rw, .ref q_rv, .ref q_hd, .ref q_lk, .ref q_rg])), (q_rw, .inr (4, [.ref q_nm, .int (nI L)])), (q_nm, .inl (cI, 40, .inl (aN (adR r L wh x (nI 0))))), (q_rv, .inr (4, [.ref q_nv, .int (nI L2)])), (q_nv, .inl (cI, 40, .inl (aN r2)))] := hD9.set (p := 2) (e := .inl (cI, 40, .inl (aN (adR r L wh x (nI 0))))) rfl
        have hP9 : va_P D vwCl [(q_x, .inr (5, [.ref q_nt, .ref q_rw, .ref q_rv, .ref q_hd, .ref q_lk, .ref q_rg])), (q_rw, .inr (4, [.ref q_nm, .int (nI (adL L wh x (nI 0)))])), (q_nm, .inl (cI, 40, .inl (aN (adR r L wh x (nI 0))))), (q_rv, .inr (4, [.ref q_nv, .int (nI L2)])), (q_nv, .inl (cI, 40, .inl (aN r2)))] zs.heap := (congrArg (fun z9 : Nat => va_P D vwCl [(q_x, .inr (5, [.ref q_nt, .ref q_rw, .ref q_rv, .ref q_hd, .ref q_lk, .ref q_rg])), (q_rw, .inr (4, [.ref q_nm, .int (nI z9)])), (q_nm, .inl (cI, 40, .inl (aN (adR r L wh x (nI 0))))), (q_rv, .inr (4, [.ref q_nv, .int (nI L2)])), (q_nv, .inl (cI, 40, .inl (aN r2)))] zs.heap) ec_len).mp hP9
        have hD9 : va_D A [(q_x, .inr (5, [.ref q_nt, .ref q_rw, .ref q_rv, .ref q_hd, .ref q_lk, .ref q_rg])), (q_rw, .inr (4, [.ref q_nm, .int (nI (adL L wh x (nI 0)))])), (q_nm, .inl (cI, 40, .inl (aN (adR r L wh x (nI 0))))), (q_rv, .inr (4, [.ref q_nv, .int (nI L2)])), (q_nv, .inl (cI, 40, .inl (aN r2)))] := (congrArg (fun z9 : Nat => va_D A [(q_x, .inr (5, [.ref q_nt, .ref q_rw, .ref q_rv, .ref q_hd, .ref q_lk, .ref q_rg])), (q_rw, .inr (4, [.ref q_nm, .int (nI z9)])), (q_nm, .inl (cI, 40, .inl (aN (adR r L wh x (nI 0))))), (q_rv, .inr (4, [.ref q_nv, .int (nI L2)])), (q_nv, .inl (cI, 40, .inl (aN r2)))]) ec_len).mp hD9
        have hP9 : va_P D vwCl [(q_x, .inr (5, [.ref q_nt, .ref q_rw, .ref q_rv, .ref q_hd, .ref q_lk, .ref q_rg])), (q_rw, .inr (4, [.ref q_nm, .int (nI (adL L wh x (nI 0)))])), (q_nm, .inl (cI, 40, .inl (aN (adR r L wh x (nI 0))))), (q_rv, .inr (4, [.ref q_nv, .int (nI L2)])), (q_nv, .inl (cI, 40, .inl (aN (adR r2 L2 wh x (nI 1)))))] zs.heap := z_arr hP9 4 rfl (fun zi hi => congrArg nI (ec_nv zi hi))
        have hD9 : va_D A [(q_x, .inr (5, [.ref q_nt, .ref q_rw, .ref q_rv, .ref q_hd, .ref q_lk, .ref q_rg])), (q_rw, .inr (4, [.ref q_nm, .int (nI (adL L wh x (nI 0)))])), (q_nm, .inl (cI, 40, .inl (aN (adR r L wh x (nI 0))))), (q_rv, .inr (4, [.ref q_nv, .int (nI L2)])), (q_nv, .inl (cI, 40, .inl (aN (adR r2 L2 wh x (nI 1)))))] := hD9.set (p := 4) (e := .inl (cI, 40, .inl (aN (adR r2 L2 wh x (nI 1))))) rfl
        have hP9 : va_P D vwCl [(q_x, .inr (5, [.ref q_nt, .ref q_rw, .ref q_rv, .ref q_hd, .ref q_lk, .ref q_rg])), (q_rw, .inr (4, [.ref q_nm, .int (nI (adL L wh x (nI 0)))])), (q_nm, .inl (cI, 40, .inl (aN (adR r L wh x (nI 0))))), (q_rv, .inr (4, [.ref q_nv, .int (nI (adL L2 wh x (nI 1)))])), (q_nv, .inl (cI, 40, .inl (aN (adR r2 L2 wh x (nI 1)))))] zs.heap := (congrArg (fun z9 : Nat => va_P D vwCl [(q_x, .inr (5, [.ref q_nt, .ref q_rw, .ref q_rv, .ref q_hd, .ref q_lk, .ref q_rg])), (q_rw, .inr (4, [.ref q_nm, .int (nI (adL L wh x (nI 0)))])), (q_nm, .inl (cI, 40, .inl (aN (adR r L wh x (nI 0))))), (q_rv, .inr (4, [.ref q_nv, .int (nI z9)])), (q_nv, .inl (cI, 40, .inl (aN (adR r2 L2 wh x (nI 1)))))] zs.heap) ec_len2).mp hP9
        have hD9 : va_D A [(q_x, .inr (5, [.ref q_nt, .ref q_rw, .ref q_rv, .ref q_hd, .ref q_lk, .ref q_rg])), (q_rw, .inr (4, [.ref q_nm, .int (nI (adL L wh x (nI 0)))])), (q_nm, .inl (cI, 40, .inl (aN (adR r L wh x (nI 0))))), (q_rv, .inr (4, [.ref q_nv, .int (nI (adL L2 wh x (nI 1)))])), (q_nv, .inl (cI, 40, .inl (aN (adR r2 L2 wh x (nI 1)))))] := (congrArg (fun z9 : Nat => va_D A [(q_x, .inr (5, [.ref q_nt, .ref q_rw, .ref q_rv, .ref q_hd, .ref q_lk, .ref q_rg])), (q_rw, .inr (4, [.ref q_nm, .int (nI (adL L wh x (nI 0)))])), (q_nm, .inl (cI, 40, .inl (aN (adR r L wh x (nI 0))))), (q_rv, .inr (4, [.ref q_nv, .int (nI z9)])), (q_nv, .inl (cI, 40, .inl (aN (adR r2 L2 wh x (nI 1)))))]) ec_len2).mp hD9
        exact W.iret (v := (-2)) hx hb hr (fun t ht hW => ⟨⟨_, (), rfl, er, by rw [ht]; exact hP9, hD9⟩, hS.F ht⟩) hS.2.2 dX5_add_19
set_option maxRecDepth 100000 in
set_option maxHeartbeats 4000000 in
theorem w_X5_clear {l : Launch} {D : va_G} {cI cZ : ClassId} (k_X5_isWhich : K_X5_isWhich l D cI cZ) (k_X5_rowOf_f : K_X5_rowOf_f l D cI cZ) (k_X4_empty : K_X4_empty l D cI cZ) (k_X5_rowOf_t : K_X5_rowOf_t l D cI cZ) (vv : V_X5_clear) : K_X5_clear l D cI cZ := by
  intro q_x q_rw q_nm q_rv q_nv q_nt q_hd q_lk q_rg sz r L r2 L2 wh
  have vw := vv r L r2 L2 wh
  refine Met.ofW (cc := cX5_clear) (maxL := 2) (ret := (some .int)) (by decide) rfl ?_
  intro zp ze zs zm zargs zbelow zmeth zc zs1 B hml hv
  obtain ⟨rfl, hsz, hZ, hP, hD0⟩ := hv
  have hx := B.exec
  have hb := B.bytes
  have hr := B.returns
  have hts := atoms_spec (ws := wsX5_clear) B.pre
  have hown : zs.vm.findClass RX5 = some zm.cls := findClass_of_methodNamed B.named
  have hlocks := B.notSynchronized
  subst hsz
  have hD := hD0.self (sz := zs.heap.size)
  generalize hAe : va_A [(q_x, .inr (5, [.ref q_nt, .ref q_rw, .ref q_rv, .ref q_hd, .ref q_lk, .ref q_rg])), (q_rw, .inr (4, [.ref q_nm, .int (nI L)])), (q_nm, .inl (cI, 40, .inl (aN r))), (q_rv, .inr (4, [.ref q_nv, .int (nI L2)])), (q_nv, .inl (cI, 40, .inl (aN r2)))] zs.heap.size = A at hD ⊢
  have hA : ∀ q : Nat, zs.heap.size ≤ q → A q := fun q h => by rw [← hAe]; exact Or.inr h
  have hS : va_S A zs.heap zs.heap [] := va_S.rf
  have hP : va_P D vwCl [(q_x, .inr (5, [.ref q_nt, .ref q_rw, .ref q_rv, .ref q_hd, .ref q_lk, .ref q_rg])), (q_rw, .inr (4, [.ref q_nm, .int (nI L)])), (q_nm, .inl (cI, 40, .inl (aN r))), (q_rv, .inr (4, [.ref q_nv, .int (nI L2)])), (q_nv, .inl (cI, 40, .inl (aN r2)))] zs.heap := hP
  have hl := lv_entry ([.ref q_x, .int wh]) (n := 2) (Nat.le_of_ble_eq_true rfl)
  rw [lg_entry_eq]
  generalize (lg_sl ([.ref q_x, .int wh]) ++ List.replicate (2 - (lg_sl ([.ref q_x, .int wh])).length) Slot.unset).toArray = ls at hl ⊢
  have hl : lv_has ls 2 [(0, .ref q_x), (1, .int wh)] := hl
  have hw := vw
  unfold B_X5_clear_in at hw
  refine lv_iload_n hx hb dX5_clear_0 rfl (lv_at hl 1 rfl) ?_
  have hPc : va_P D vwCl [] zs.heap := hP.sub [] rfl
  refine z_ro (va_runS (As := [.int wh]) (rest := []) ⟨hx, hb, hml, hown, hts⟩ (k_X5_isWhich wh) (va_cwS 1 hts gX5_clear_X5_isWhich rfl rfl rfl (by decide +kernel) ⟨Nat.le_of_ble_eq_true rfl, Nat.le_of_ble_eq_true rfl⟩) (zPr_S hZ hPc) rfl rfl hl.1 rfl (lv_room (Nat.le_of_ble_eq_true rfl)) dX5_clear_1 ⟨Nat.zero_le _, Nat.zero_le _⟩) (fun zr1 hzr1 => ?_)
  have ez := hzr1
  rw [ez]
  clear ez hzr1
  obtain ⟨hwt, hwf⟩ := hw
  refine z_if_eqb hx hb (tgt := 27) dX5_clear_4 (by decide) (fun cc => ?_) (fun cc => ?_)
  · replace hw := hwt cc
    refine lv_bipush (v := (-2)) hx hb dX5_clear_27 (by decide +kernel) ?_
    obtain ⟨er, ec_len, ec_len2⟩ := hw
    have hP9 : va_P D vwCl [(q_x, .inr (5, [.ref q_nt, .ref q_rw, .ref q_rv, .ref q_hd, .ref q_lk, .ref q_rg])), (q_rw, .inr (4, [.ref q_nm, .int (nI L)])), (q_nm, .inl (cI, 40, .inl (aN r))), (q_rv, .inr (4, [.ref q_nv, .int (nI L2)])), (q_nv, .inl (cI, 40, .inl (aN r2)))] zs.heap := hP.sub [0, 1, 2, 3, 4] rfl
    have hD9 : va_D A [(q_x, .inr (5, [.ref q_nt, .ref q_rw, .ref q_rv, .ref q_hd, .ref q_lk, .ref q_rg])), (q_rw, .inr (4, [.ref q_nm, .int (nI L)])), (q_nm, .inl (cI, 40, .inl (aN r))), (q_rv, .inr (4, [.ref q_nv, .int (nI L2)])), (q_nv, .inl (cI, 40, .inl (aN r2)))] := hD.sub [0, 1, 2, 3, 4] (by decide) rfl
    have hP9 : va_P D vwCl [(q_x, .inr (5, [.ref q_nt, .ref q_rw, .ref q_rv, .ref q_hd, .ref q_lk, .ref q_rg])), (q_rw, .inr (4, [.ref q_nm, .int (nI (clL L wh (nI 0)))])), (q_nm, .inl (cI, 40, .inl (aN r))), (q_rv, .inr (4, [.ref q_nv, .int (nI L2)])), (q_nv, .inl (cI, 40, .inl (aN r2)))] zs.heap := (congrArg (fun z9 : Nat => va_P D vwCl [(q_x, .inr (5, [.ref q_nt, .ref q_rw, .ref q_rv, .ref q_hd, .ref q_lk, .ref q_rg])), (q_rw, .inr (4, [.ref q_nm, .int (nI z9)])), (q_nm, .inl (cI, 40, .inl (aN r))), (q_rv, .inr (4, [.ref q_nv, .int (nI L2)])), (q_nv, .inl (cI, 40, .inl (aN r2)))] zs.heap) ec_len).mp hP9
    have hD9 : va_D A [(q_x, .inr (5, [.ref q_nt, .ref q_rw, .ref q_rv, .ref q_hd, .ref q_lk, .ref q_rg])), (q_rw, .inr (4, [.ref q_nm, .int (nI (clL L wh (nI 0)))])), (q_nm, .inl (cI, 40, .inl (aN r))), (q_rv, .inr (4, [.ref q_nv, .int (nI L2)])), (q_nv, .inl (cI, 40, .inl (aN r2)))] := (congrArg (fun z9 : Nat => va_D A [(q_x, .inr (5, [.ref q_nt, .ref q_rw, .ref q_rv, .ref q_hd, .ref q_lk, .ref q_rg])), (q_rw, .inr (4, [.ref q_nm, .int (nI z9)])), (q_nm, .inl (cI, 40, .inl (aN r))), (q_rv, .inr (4, [.ref q_nv, .int (nI L2)])), (q_nv, .inl (cI, 40, .inl (aN r2)))]) ec_len).mp hD9
    have hP9 : va_P D vwCl [(q_x, .inr (5, [.ref q_nt, .ref q_rw, .ref q_rv, .ref q_hd, .ref q_lk, .ref q_rg])), (q_rw, .inr (4, [.ref q_nm, .int (nI (clL L wh (nI 0)))])), (q_nm, .inl (cI, 40, .inl (aN r))), (q_rv, .inr (4, [.ref q_nv, .int (nI (clL L2 wh (nI 1)))])), (q_nv, .inl (cI, 40, .inl (aN r2)))] zs.heap := (congrArg (fun z9 : Nat => va_P D vwCl [(q_x, .inr (5, [.ref q_nt, .ref q_rw, .ref q_rv, .ref q_hd, .ref q_lk, .ref q_rg])), (q_rw, .inr (4, [.ref q_nm, .int (nI (clL L wh (nI 0)))])), (q_nm, .inl (cI, 40, .inl (aN r))), (q_rv, .inr (4, [.ref q_nv, .int (nI z9)])), (q_nv, .inl (cI, 40, .inl (aN r2)))] zs.heap) ec_len2).mp hP9
    have hD9 : va_D A [(q_x, .inr (5, [.ref q_nt, .ref q_rw, .ref q_rv, .ref q_hd, .ref q_lk, .ref q_rg])), (q_rw, .inr (4, [.ref q_nm, .int (nI (clL L wh (nI 0)))])), (q_nm, .inl (cI, 40, .inl (aN r))), (q_rv, .inr (4, [.ref q_nv, .int (nI (clL L2 wh (nI 1)))])), (q_nv, .inl (cI, 40, .inl (aN r2)))] := (congrArg (fun z9 : Nat => va_D A [(q_x, .inr (5, [.ref q_nt, .ref q_rw, .ref q_rv, .ref q_hd, .ref q_lk, .ref q_rg])), (q_rw, .inr (4, [.ref q_nm, .int (nI (clL L wh (nI 0)))])), (q_nm, .inl (cI, 40, .inl (aN r))), (q_rv, .inr (4, [.ref q_nv, .int (nI z9)])), (q_nv, .inl (cI, 40, .inl (aN r2)))]) ec_len2).mp hD9
    exact W.iret (v := (-2)) hx hb hr (fun t ht hW => ⟨⟨_, (), rfl, er, by rw [ht]; exact hP9, hD9⟩, hS.F ht⟩) hS.2.2 dX5_clear_29
  · replace hw := hwf cc
    refine lv_aload_n hx hb dX5_clear_7 rfl (lv_at hl 0 rfl) ?_
    refine lv_iload_n hx hb dX5_clear_8 rfl (lv_at hl 1 rfl) ?_
    refine lv_iconst (v := nI 1) hx hb dX5_clear_9 (by decide +kernel) ?_
    obtain ⟨hwt, hwf⟩ := hw
    refine lv_icmp_ne hx hb (tgt := 17) dX5_clear_10 (by decide) (fun cc => ?_) (fun cc => ?_)
    · replace hw := hwt cc
      refine lv_iconst (v := nI 0) hx hb dX5_clear_17 (by decide +kernel) ?_
      refine z_st (st' := [.int (bI false), .ref q_x]) rfl ?_
      obtain ⟨zh2, hw⟩ := hw
      have hPc : va_P D vwCl [(q_x, .inr (5, [.ref q_nt, .ref q_rw, .ref q_rv, .ref q_hd, .ref q_lk, .ref q_rg])), (q_rw, .inr (4, [.ref q_nm, .int (nI L)])), (q_nm, .inl (cI, 40, .inl (aN r))), (q_rv, .inr (4, [.ref q_nv, .int (nI L2)])), (q_nv, .inl (cI, 40, .inl (aN r2)))] zs.heap := hP.sub [0, 1, 2, 3, 4] rfl
      refine z_ror (va_runV (As := [.int (bI false)]) (rest := []) ⟨hx, hb, hml, hown, hts⟩ (k_X5_rowOf_f q_x q_rw q_nm q_rv q_nv q_nt q_hd q_lk q_rg r L r2 L2 false zh2) (cwV 1 hts gX5_clear_X5_rowOf rfl rfl rfl (by decide +kernel) ⟨Nat.le_of_ble_eq_true rfl, Nat.le_of_ble_eq_true rfl⟩) (zPr_V hZ hPc 0 rfl rfl) rfl rfl hl.1 rfl (lv_room (Nat.le_of_ble_eq_true rfl)) dX5_clear_18 ⟨Nat.zero_le _, Nat.zero_le _⟩) ?_
      have hPc : va_P D vwCl [(q_rw, .inr (4, [.ref q_nm, .int (nI L)])), (q_nm, .inl (cI, 40, .inl (aN r)))] zs.heap := hP.sub [1, 2] rfl
      have hDc : va_D A [(q_rw, .inr (4, [.ref q_nm, .int (nI L)])), (q_nm, .inl (cI, 40, .inl (aN r)))] := hD.sub [1, 2] (by decide) rfl
      have hFc := va_free (wc := [(q_rw, .inr (4, [.ref q_nm, .int (nI L)])), (q_nm, .inl (cI, 40, .inl (aN r)))]) hD hS hA [1, 2] rfl
      refine va_calli (va_runV (As := []) (rest := []) ⟨hx, hb, hml, hown, hts⟩ (k_X4_empty q_rw q_nm zs.heap.size r L) (cwV 0 hts gX5_clear_X4_empty rfl rfl rfl (by decide +kernel) ⟨Nat.le_of_ble_eq_true rfl, Nat.le_of_ble_eq_true rfl⟩) (zPw_V hZ hPc (hDc.weaken (fun _ _ _ _ => trivial)) 0 rfl rfl) rfl rfl hl.1 rfl (lv_room (Nat.le_of_ble_eq_true rfl)) dX5_clear_21 ⟨Nat.zero_le _, Nat.zero_le _⟩) hS (fun q _ h => hFc q h) hFc (fun zr3 zu zt H1 locs1 ht hvm hq hB hz1 hk1 hS => ?_)
      have ez := hq
      obtain ⟨hP1, hD1⟩ := hB
      rw [ht] at hP1
      rw [ez]
      clear ez
      obtain ⟨hP, hD⟩ := va_join (wr := [(q_x, .inr (5, [.ref q_nt, .ref q_rw, .ref q_rv, .ref q_hd, .ref q_lk, .ref q_rg])), (q_rv, .inr (4, [.ref q_nv, .int (nI L2)])), (q_nv, .inl (cI, 40, .inl (aN r2)))]) (w1 := [(q_rw, .inr (4, [.ref q_nm, .int (nI 0)])), (q_nm, .inl (cI, 40, .inl (aN r)))]) hP hD [1, 2] [0, 3, 4] rfl rfl (by decide) (by decide) hk1 hFc hP1 hD1
      have hP : va_P D vwCl [(q_x, .inr (5, [.ref q_nt, .ref q_rw, .ref q_rv, .ref q_hd, .ref q_lk, .ref q_rg])), (q_rv, .inr (4, [.ref q_nv, .int (nI L2)])), (q_nv, .inl (cI, 40, .inl (aN r2))), (q_rw, .inr (4, [.ref q_nm, .int (nI 0)])), (q_nm, .inl (cI, 40, .inl (aN r)))] H1 := hP
      have hD : va_D A [(q_x, .inr (5, [.ref q_nt, .ref q_rw, .ref q_rv, .ref q_hd, .ref q_lk, .ref q_rg])), (q_rv, .inr (4, [.ref q_nv, .int (nI L2)])), (q_nv, .inl (cI, 40, .inl (aN r2))), (q_rw, .inr (4, [.ref q_nm, .int (nI 0)])), (q_nm, .inl (cI, 40, .inl (aN r)))] := hD
      clear hP1 hD1 hk1 hz1 hFc hDc hPc ht hvm
      refine lv_goto (tgt := 29) hx hb dX5_clear_24 (by decide) ?_
      obtain ⟨er, ec_len, ec_len2⟩ := hw
      have hP9 : va_P D vwCl [(q_x, .inr (5, [.ref q_nt, .ref q_rw, .ref q_rv, .ref q_hd, .ref q_lk, .ref q_rg])), (q_rw, .inr (4, [.ref q_nm, .int (nI 0)])), (q_nm, .inl (cI, 40, .inl (aN r))), (q_rv, .inr (4, [.ref q_nv, .int (nI L2)])), (q_nv, .inl (cI, 40, .inl (aN r2)))] H1 := hP.sub [0, 3, 4, 1, 2] rfl
      have hD9 : va_D A [(q_x, .inr (5, [.ref q_nt, .ref q_rw, .ref q_rv, .ref q_hd, .ref q_lk, .ref q_rg])), (q_rw, .inr (4, [.ref q_nm, .int (nI 0)])), (q_nm, .inl (cI, 40, .inl (aN r))), (q_rv, .inr (4, [.ref q_nv, .int (nI L2)])), (q_nv, .inl (cI, 40, .inl (aN r2)))] := hD.sub [0, 3, 4, 1, 2] (by decide) rfl
      have hP9 : va_P D vwCl [(q_x, .inr (5, [.ref q_nt, .ref q_rw, .ref q_rv, .ref q_hd, .ref q_lk, .ref q_rg])), (q_rw, .inr (4, [.ref q_nm, .int (nI (clL L wh (nI 0)))])), (q_nm, .inl (cI, 40, .inl (aN r))), (q_rv, .inr (4, [.ref q_nv, .int (nI L2)])), (q_nv, .inl (cI, 40, .inl (aN r2)))] H1 := (congrArg (fun z9 : Nat => va_P D vwCl [(q_x, .inr (5, [.ref q_nt, .ref q_rw, .ref q_rv, .ref q_hd, .ref q_lk, .ref q_rg])), (q_rw, .inr (4, [.ref q_nm, .int (nI z9)])), (q_nm, .inl (cI, 40, .inl (aN r))), (q_rv, .inr (4, [.ref q_nv, .int (nI L2)])), (q_nv, .inl (cI, 40, .inl (aN r2)))] H1) ec_len).mp hP9
      have hD9 : va_D A [(q_x, .inr (5, [.ref q_nt, .ref q_rw, .ref q_rv, .ref q_hd, .ref q_lk, .ref q_rg])), (q_rw, .inr (4, [.ref q_nm, .int (nI (clL L wh (nI 0)))])), (q_nm, .inl (cI, 40, .inl (aN r))), (q_rv, .inr (4, [.ref q_nv, .int (nI L2)])), (q_nv, .inl (cI, 40, .inl (aN r2)))] := (congrArg (fun z9 : Nat => va_D A [(q_x, .inr (5, [.ref q_nt, .ref q_rw, .ref q_rv, .ref q_hd, .ref q_lk, .ref q_rg])), (q_rw, .inr (4, [.ref q_nm, .int (nI z9)])), (q_nm, .inl (cI, 40, .inl (aN r))), (q_rv, .inr (4, [.ref q_nv, .int (nI L2)])), (q_nv, .inl (cI, 40, .inl (aN r2)))]) ec_len).mp hD9
      have hP9 : va_P D vwCl [(q_x, .inr (5, [.ref q_nt, .ref q_rw, .ref q_rv, .ref q_hd, .ref q_lk, .ref q_rg])), (q_rw, .inr (4, [.ref q_nm, .int (nI (clL L wh (nI 0)))])), (q_nm, .inl (cI, 40, .inl (aN r))), (q_rv, .inr (4, [.ref q_nv, .int (nI (clL L2 wh (nI 1)))])), (q_nv, .inl (cI, 40, .inl (aN r2)))] H1 := (congrArg (fun z9 : Nat => va_P D vwCl [(q_x, .inr (5, [.ref q_nt, .ref q_rw, .ref q_rv, .ref q_hd, .ref q_lk, .ref q_rg])), (q_rw, .inr (4, [.ref q_nm, .int (nI (clL L wh (nI 0)))])), (q_nm, .inl (cI, 40, .inl (aN r))), (q_rv, .inr (4, [.ref q_nv, .int (nI z9)])), (q_nv, .inl (cI, 40, .inl (aN r2)))] H1) ec_len2).mp hP9
      have hD9 : va_D A [(q_x, .inr (5, [.ref q_nt, .ref q_rw, .ref q_rv, .ref q_hd, .ref q_lk, .ref q_rg])), (q_rw, .inr (4, [.ref q_nm, .int (nI (clL L wh (nI 0)))])), (q_nm, .inl (cI, 40, .inl (aN r))), (q_rv, .inr (4, [.ref q_nv, .int (nI (clL L2 wh (nI 1)))])), (q_nv, .inl (cI, 40, .inl (aN r2)))] := (congrArg (fun z9 : Nat => va_D A [(q_x, .inr (5, [.ref q_nt, .ref q_rw, .ref q_rv, .ref q_hd, .ref q_lk, .ref q_rg])), (q_rw, .inr (4, [.ref q_nm, .int (nI (clL L wh (nI 0)))])), (q_nm, .inl (cI, 40, .inl (aN r))), (q_rv, .inr (4, [.ref q_nv, .int (nI z9)])), (q_nv, .inl (cI, 40, .inl (aN r2)))]) ec_len2).mp hD9
      exact W.iret (v := nI L) hx hb hr (fun t ht hW => ⟨⟨_, (), rfl, er, by rw [ht]; exact hP9, hD9⟩, hS.F ht⟩) hS.2.2 dX5_clear_29
    · replace hw := hwf cc
      refine lv_iconst (v := nI 1) hx hb dX5_clear_13 (by decide +kernel) ?_
      refine lv_goto (tgt := 18) hx hb dX5_clear_14 (by decide) ?_
      refine z_st (st' := [.int (bI true), .ref q_x]) rfl ?_
      obtain ⟨zh4, hw⟩ := hw
      have hPc : va_P D vwCl [(q_x, .inr (5, [.ref q_nt, .ref q_rw, .ref q_rv, .ref q_hd, .ref q_lk, .ref q_rg])), (q_rw, .inr (4, [.ref q_nm, .int (nI L)])), (q_nm, .inl (cI, 40, .inl (aN r))), (q_rv, .inr (4, [.ref q_nv, .int (nI L2)])), (q_nv, .inl (cI, 40, .inl (aN r2)))] zs.heap := hP.sub [0, 1, 2, 3, 4] rfl
      refine z_ror (va_runV (As := [.int (bI true)]) (rest := []) ⟨hx, hb, hml, hown, hts⟩ (k_X5_rowOf_t q_x q_rw q_nm q_rv q_nv q_nt q_hd q_lk q_rg r L r2 L2 true zh4) (cwV 1 hts gX5_clear_X5_rowOf rfl rfl rfl (by decide +kernel) ⟨Nat.le_of_ble_eq_true rfl, Nat.le_of_ble_eq_true rfl⟩) (zPr_V hZ hPc 0 rfl rfl) rfl rfl hl.1 rfl (lv_room (Nat.le_of_ble_eq_true rfl)) dX5_clear_18 ⟨Nat.zero_le _, Nat.zero_le _⟩) ?_
      have hPc : va_P D vwCl [(q_rv, .inr (4, [.ref q_nv, .int (nI L2)])), (q_nv, .inl (cI, 40, .inl (aN r2)))] zs.heap := hP.sub [3, 4] rfl
      have hDc : va_D A [(q_rv, .inr (4, [.ref q_nv, .int (nI L2)])), (q_nv, .inl (cI, 40, .inl (aN r2)))] := hD.sub [3, 4] (by decide) rfl
      have hFc := va_free (wc := [(q_rv, .inr (4, [.ref q_nv, .int (nI L2)])), (q_nv, .inl (cI, 40, .inl (aN r2)))]) hD hS hA [3, 4] rfl
      refine va_calli (va_runV (As := []) (rest := []) ⟨hx, hb, hml, hown, hts⟩ (k_X4_empty q_rv q_nv zs.heap.size r2 L2) (cwV 0 hts gX5_clear_X4_empty rfl rfl rfl (by decide +kernel) ⟨Nat.le_of_ble_eq_true rfl, Nat.le_of_ble_eq_true rfl⟩) (zPw_V hZ hPc (hDc.weaken (fun _ _ _ _ => trivial)) 0 rfl rfl) rfl rfl hl.1 rfl (lv_room (Nat.le_of_ble_eq_true rfl)) dX5_clear_21 ⟨Nat.zero_le _, Nat.zero_le _⟩) hS (fun q _ h => hFc q h) hFc (fun zr5 zu zt H1 locs1 ht hvm hq hB hz1 hk1 hS => ?_)
      have ez := hq
      obtain ⟨hP1, hD1⟩ := hB
      rw [ht] at hP1
      rw [ez]
      clear ez
      obtain ⟨hP, hD⟩ := va_join (wr := [(q_x, .inr (5, [.ref q_nt, .ref q_rw, .ref q_rv, .ref q_hd, .ref q_lk, .ref q_rg])), (q_rw, .inr (4, [.ref q_nm, .int (nI L)])), (q_nm, .inl (cI, 40, .inl (aN r)))]) (w1 := [(q_rv, .inr (4, [.ref q_nv, .int (nI 0)])), (q_nv, .inl (cI, 40, .inl (aN r2)))]) hP hD [3, 4] [0, 1, 2] rfl rfl (by decide) (by decide) hk1 hFc hP1 hD1
      have hP : va_P D vwCl [(q_x, .inr (5, [.ref q_nt, .ref q_rw, .ref q_rv, .ref q_hd, .ref q_lk, .ref q_rg])), (q_rw, .inr (4, [.ref q_nm, .int (nI L)])), (q_nm, .inl (cI, 40, .inl (aN r))), (q_rv, .inr (4, [.ref q_nv, .int (nI 0)])), (q_nv, .inl (cI, 40, .inl (aN r2)))] H1 := hP
      have hD : va_D A [(q_x, .inr (5, [.ref q_nt, .ref q_rw, .ref q_rv, .ref q_hd, .ref q_lk, .ref q_rg])), (q_rw, .inr (4, [.ref q_nm, .int (nI L)])), (q_nm, .inl (cI, 40, .inl (aN r))), (q_rv, .inr (4, [.ref q_nv, .int (nI 0)])), (q_nv, .inl (cI, 40, .inl (aN r2)))] := hD
      clear hP1 hD1 hk1 hz1 hFc hDc hPc ht hvm
      refine lv_goto (tgt := 29) hx hb dX5_clear_24 (by decide) ?_
      obtain ⟨er, ec_len, ec_len2⟩ := hw
      have hP9 : va_P D vwCl [(q_x, .inr (5, [.ref q_nt, .ref q_rw, .ref q_rv, .ref q_hd, .ref q_lk, .ref q_rg])), (q_rw, .inr (4, [.ref q_nm, .int (nI L)])), (q_nm, .inl (cI, 40, .inl (aN r))), (q_rv, .inr (4, [.ref q_nv, .int (nI 0)])), (q_nv, .inl (cI, 40, .inl (aN r2)))] H1 := hP.sub [0, 1, 2, 3, 4] rfl
      have hD9 : va_D A [(q_x, .inr (5, [.ref q_nt, .ref q_rw, .ref q_rv, .ref q_hd, .ref q_lk, .ref q_rg])), (q_rw, .inr (4, [.ref q_nm, .int (nI L)])), (q_nm, .inl (cI, 40, .inl (aN r))), (q_rv, .inr (4, [.ref q_nv, .int (nI 0)])), (q_nv, .inl (cI, 40, .inl (aN r2)))] := hD.sub [0, 1, 2, 3, 4] (by decide) rfl
      have hP9 : va_P D vwCl [(q_x, .inr (5, [.ref q_nt, .ref q_rw, .ref q_rv, .ref q_hd, .ref q_lk, .ref q_rg])), (q_rw, .inr (4, [.ref q_nm, .int (nI (clL L wh (nI 0)))])), (q_nm, .inl (cI, 40, .inl (aN r))), (q_rv, .inr (4, [.ref q_nv, .int (nI 0)])), (q_nv, .inl (cI, 40, .inl (aN r2)))] H1 := (congrArg (fun z9 : Nat => va_P D vwCl [(q_x, .inr (5, [.ref q_nt, .ref q_rw, .ref q_rv, .ref q_hd, .ref q_lk, .ref q_rg])), (q_rw, .inr (4, [.ref q_nm, .int (nI z9)])), (q_nm, .inl (cI, 40, .inl (aN r))), (q_rv, .inr (4, [.ref q_nv, .int (nI 0)])), (q_nv, .inl (cI, 40, .inl (aN r2)))] H1) ec_len).mp hP9
      have hD9 : va_D A [(q_x, .inr (5, [.ref q_nt, .ref q_rw, .ref q_rv, .ref q_hd, .ref q_lk, .ref q_rg])), (q_rw, .inr (4, [.ref q_nm, .int (nI (clL L wh (nI 0)))])), (q_nm, .inl (cI, 40, .inl (aN r))), (q_rv, .inr (4, [.ref q_nv, .int (nI 0)])), (q_nv, .inl (cI, 40, .inl (aN r2)))] := (congrArg (fun z9 : Nat => va_D A [(q_x, .inr (5, [.ref q_nt, .ref q_rw, .ref q_rv, .ref q_hd, .ref q_lk, .ref q_rg])), (q_rw, .inr (4, [.ref q_nm, .int (nI z9)])), (q_nm, .inl (cI, 40, .inl (aN r))), (q_rv, .inr (4, [.ref q_nv, .int (nI 0)])), (q_nv, .inl (cI, 40, .inl (aN r2)))]) ec_len).mp hD9
      have hP9 : va_P D vwCl [(q_x, .inr (5, [.ref q_nt, .ref q_rw, .ref q_rv, .ref q_hd, .ref q_lk, .ref q_rg])), (q_rw, .inr (4, [.ref q_nm, .int (nI (clL L wh (nI 0)))])), (q_nm, .inl (cI, 40, .inl (aN r))), (q_rv, .inr (4, [.ref q_nv, .int (nI (clL L2 wh (nI 1)))])), (q_nv, .inl (cI, 40, .inl (aN r2)))] H1 := (congrArg (fun z9 : Nat => va_P D vwCl [(q_x, .inr (5, [.ref q_nt, .ref q_rw, .ref q_rv, .ref q_hd, .ref q_lk, .ref q_rg])), (q_rw, .inr (4, [.ref q_nm, .int (nI (clL L wh (nI 0)))])), (q_nm, .inl (cI, 40, .inl (aN r))), (q_rv, .inr (4, [.ref q_nv, .int (nI z9)])), (q_nv, .inl (cI, 40, .inl (aN r2)))] H1) ec_len2).mp hP9
      have hD9 : va_D A [(q_x, .inr (5, [.ref q_nt, .ref q_rw, .ref q_rv, .ref q_hd, .ref q_lk, .ref q_rg])), (q_rw, .inr (4, [.ref q_nm, .int (nI (clL L wh (nI 0)))])), (q_nm, .inl (cI, 40, .inl (aN r))), (q_rv, .inr (4, [.ref q_nv, .int (nI (clL L2 wh (nI 1)))])), (q_nv, .inl (cI, 40, .inl (aN r2)))] := (congrArg (fun z9 : Nat => va_D A [(q_x, .inr (5, [.ref q_nt, .ref q_rw, .ref q_rv, .ref q_hd, .ref q_lk, .ref q_rg])), (q_rw, .inr (4, [.ref q_nm, .int (nI (clL L wh (nI 0)))])), (q_nm, .inl (cI, 40, .inl (aN r))), (q_rv, .inr (4, [.ref q_nv, .int (nI z9)])), (q_nv, .inl (cI, 40, .inl (aN r2)))]) ec_len2).mp hD9
      exact W.iret (v := nI L2) hx hb hr (fun t ht hW => ⟨⟨_, (), rfl, er, by rw [ht]; exact hP9, hD9⟩, hS.F ht⟩) hS.2.2 dX5_clear_29
theorem m_X5_follow_f10 : Cond.fieldLink RX5 10 "NetWalkers" "net" "LNetWalkers$Net;" ∈ wsX5_follow := by decide +kernel
theorem i_X5_follow_X5 : ∀ w ∈ wsX50, w ∈ wsX5_follow := by decide +kernel
set_option maxRecDepth 100000 in
set_option maxHeartbeats 4000000 in
theorem w_X5_follow {l : Launch} {D : va_G} {cI cZ : ClassId} (k_X4_has : K_X4_has l D cI cZ) (k_X4_numberAt : K_X4_numberAt l D cI cZ) (k_X2_walkOn : K_X2_walkOn l D cI cZ) (vv : V_X5_follow) : K_X5_follow l D cI cZ := by
  intro q_x q_nt q_en q_ba q_de q_pw q_np q_rw q_rv q_hd q_lk q_rg n t w r3 L3 i k how hpre0 hpre1 hpre2
  have vw := vv n t w r3 L3 i k how hpre0 hpre1 hpre2
  refine Met.ofW (cc := cX5_follow) (maxL := 5) (ret := (some .int)) (by decide) rfl ?_
  intro zp ze zs zm zargs zbelow zmeth zc zs1 B hml hv
  obtain ⟨rfl, hZ, hP⟩ := hv
  have hx := B.exec
  have hb := B.bytes
  have hr := B.returns
  have hts := atoms_spec (ws := wsX5_follow) B.pre
  have hown : zs.vm.findClass RX5 = some zm.cls := findClass_of_methodNamed B.named
  have hlocks := B.notSynchronized
  have hP : va_P D vwCl [(q_x, .inr (5, [.ref q_nt, .ref q_rw, .ref q_rv, .ref q_hd, .ref q_lk, .ref q_rg])), (q_nt, .inr (2, [.ref q_en, .ref q_ba, .ref q_de, .int (nI n), .int (nI (prs t))])), (q_en, .inl (cI, 32, .inl (aE t))), (q_ba, .inl (cZ, 32, .inl (aB w))), (q_de, .inl (cI, 8, .inl (aN (dg t)))), (q_pw, .inr (4, [.ref q_np, .int (nI L3)])), (q_np, .inl (cI, 40, .inl (aN r3)))] zs.heap := hP
  have hl := lv_entry ([.ref q_x, .int (nI i), .ref q_pw, .int k, .int (nI how)]) (n := 5) (Nat.le_of_ble_eq_true rfl)
  rw [lg_entry_eq]
  generalize (lg_sl ([.ref q_x, .int (nI i), .ref q_pw, .int k, .int (nI how)]) ++ List.replicate (5 - (lg_sl ([.ref q_x, .int (nI i), .ref q_pw, .int k, .int (nI how)])).length) Slot.unset).toArray = ls at hl ⊢
  have hl : lv_has ls 5 [(0, .ref q_x), (1, .int (nI i)), (2, .ref q_pw), (3, .int k), (4, .int (nI how))] := hl
  have hw := vw
  unfold B_X5_follow_in at hw
  refine lv_aload_n hx hb dX5_follow_0 rfl (lv_at hl 2 rfl) ?_
  refine lv_iload_n hx hb dX5_follow_1 rfl (lv_at hl 3 rfl) ?_
  have hPc : va_P D vwCl [(q_pw, .inr (4, [.ref q_np, .int (nI L3)])), (q_np, .inl (cI, 40, .inl (aN r3)))] zs.heap := hP.sub [5, 6] rfl
  refine z_ro (va_runV (As := [.int k]) (rest := []) ⟨hx, hb, hml, hown, hts⟩ (k_X4_has q_pw q_np r3 L3 k) (cwV 1 hts gX5_follow_X4_has rfl rfl rfl (by decide +kernel) ⟨Nat.le_of_ble_eq_true rfl, Nat.le_of_ble_eq_true rfl⟩) (zPr_V hZ hPc 0 rfl rfl) rfl rfl hl.1 rfl (lv_room (Nat.le_of_ble_eq_true rfl)) dX5_follow_2 ⟨Nat.zero_le _, Nat.zero_le _⟩) (fun zr1 hzr1 => ?_)
  have ez := hzr1
  rw [ez]
  clear ez hzr1
  obtain ⟨hwt, hwf⟩ := hw
  refine z_if_eqb hx hb (tgt := 26) dX5_follow_5 (by decide) (fun cc => ?_) (fun cc => ?_)
  · replace hw := hwt cc
    refine lv_iload_n hx hb dX5_follow_26 rfl (lv_at hl 1 rfl) ?_
    have er := hw
    exact W.iret (v := nI i) hx hb hr (fun t ht hW => ⟨_, rfl, (congrArg nI er), ht⟩) (fun _ h => by cases h) dX5_follow_27
  · replace hw := hwf cc
    refine lv_aload_n hx hb dX5_follow_8 rfl (lv_at hl 0 rfl) ?_
    refine va_get (D := D) (ci := 5) (v := .ref q_nt) (C := RX5) (T := TX5) (N := 6) hx hb hts i_X5_follow_X5 hown hZ.1 hP 0 rfl rfl 0 (by decide) (hts _ m_X5_follow_f10) (fun _ h9 => h9) rfl dX5_follow_9 ?_
    refine lv_iload_n hx hb dX5_follow_12 rfl (lv_at hl 1 rfl) ?_
    refine lv_aload_n hx hb dX5_follow_13 rfl (lv_at hl 2 rfl) ?_
    refine lv_iload_n hx hb dX5_follow_14 rfl (lv_at hl 3 rfl) ?_
    obtain ⟨zh2, hw⟩ := hw
    obtain ⟨zh3, hw⟩ := hw
    have hPc : va_P D vwCl [(q_pw, .inr (4, [.ref q_np, .int (nI L3)])), (q_np, .inl (cI, 40, .inl (aN r3)))] zs.heap := hP.sub [5, 6] rfl
    refine z_ro (va_runV (As := [.int k]) (rest := [.int (nI i), .ref q_nt]) ⟨hx, hb, hml, hown, hts⟩ (k_X4_numberAt q_pw q_np r3 L3 k zh2 zh3) (cwV 1 hts gX5_follow_X4_numberAt rfl rfl rfl (by decide +kernel) ⟨Nat.le_of_ble_eq_true rfl, Nat.le_of_ble_eq_true rfl⟩) (zPr_V hZ hPc 0 rfl rfl) rfl rfl hl.1 rfl (lv_room (Nat.le_of_ble_eq_true rfl)) dX5_follow_15 ⟨Nat.zero_le _, Nat.zero_le _⟩) (fun zr4 hzr4 => ?_)
    have ez := hzr4
    rw [ez]
    clear ez hzr4
    refine lv_iload hx hb dX5_follow_18 (lv_at hl 4 rfl) ?_
    obtain ⟨zh5, hw⟩ := hw
    obtain ⟨zh6, hw⟩ := hw
    obtain ⟨zh7, hw⟩ := hw
    have hPc : va_P D vwCl [(q_nt, .inr (2, [.ref q_en, .ref q_ba, .ref q_de, .int (nI n), .int (nI (prs t))])), (q_en, .inl (cI, 32, .inl (aE t))), (q_ba, .inl (cZ, 32, .inl (aB w))), (q_de, .inl (cI, 8, .inl (aN (dg t))))] zs.heap := hP.sub [1, 2, 3, 4] rfl
    refine z_ro (va_runV (As := [.int (nI i), .int (nI (r3 (tN k))), .int (nI how)]) (rest := []) ⟨hx, hb, hml, hown, hts⟩ (k_X2_walkOn q_nt q_en q_ba q_de n t w i (r3 (tN k)) how zh5 zh6 zh7) (cwV 3 hts gX5_follow_X2_walkOn rfl rfl rfl (by decide +kernel) ⟨Nat.le_of_ble_eq_true rfl, Nat.le_of_ble_eq_true rfl⟩) (zPr_V hZ hPc 0 rfl rfl) rfl rfl hl.1 rfl (lv_room (Nat.le_of_ble_eq_true rfl)) dX5_follow_20 ⟨Nat.zero_le _, Nat.zero_le _⟩) (fun zr8 hzr8 => ?_)
    have ez := hzr8
    rw [ez]
    clear ez hzr8
    refine lv_goto (tgt := 27) hx hb dX5_follow_23 (by decide) ?_
    have er := hw
    exact W.iret (v := nI (wk t w how i (r3 (tN k)))) hx hb hr (fun t ht hW => ⟨_, rfl, (congrArg nI er), ht⟩) (fun _ h => by cases h) dX5_follow_27
theorem m_X5_stepsToAll_f19 : Cond.fieldLink RX5 19 "NetWalkers" "row" "LNetWalkers$Row;" ∈ wsX5_stepsToAll := by decide +kernel
theorem i_X5_stepsToAll_X5 : ∀ w ∈ wsX50, w ∈ wsX5_stepsToAll := by decide +kernel
theorem m_X5_stepsToAll_f116 : Cond.fieldLink RX5 116 "NetWalkers$Row" "length" "I" ∈ wsX5_stepsToAll := by decide +kernel
theorem i_X5_stepsToAll_X4 : ∀ w ∈ wsX40, w ∈ wsX5_stepsToAll := by decide +kernel
theorem m_X5_stepsToAll_f10 : Cond.fieldLink RX5 10 "NetWalkers" "net" "LNetWalkers$Net;" ∈ wsX5_stepsToAll := by decide +kernel
set_option maxRecDepth 100000 in
set_option maxHeartbeats 4000000 in
theorem w_X5_stepsToAll {l : Launch} {D : va_G} {cI cZ : ClassId} (k_X2_allPosts : K_X2_allPosts l D cI cZ) (k_X5_follow : K_X5_follow l D cI cZ) (k_X5_postOf : K_X5_postOf l D cI cZ) (k_X5_placeOf : K_X5_placeOf l D cI cZ) (vv : V_X5_stepsToAll) : K_X5_stepsToAll l D cI cZ := by
  intro q_x q_nt q_en q_ba q_de q_rw q_nm q_rv q_hd q_lk q_rg n t w r L p how hpre0 hpre1 hpre2 hpre3
  have vw := vv n t w r L p how hpre0 hpre1 hpre2 hpre3
  refine Met.ofW (cc := cX5_stepsToAll) (maxL := 6) (ret := (some .int)) (by decide) rfl ?_
  intro zp ze zs zm zargs zbelow zmeth zc zs1 B hml hv
  obtain ⟨rfl, hZ, hP⟩ := hv
  have hx := B.exec
  have hb := B.bytes
  have hr := B.returns
  have hts := atoms_spec (ws := wsX5_stepsToAll) B.pre
  have hown : zs.vm.findClass RX5 = some zm.cls := findClass_of_methodNamed B.named
  have hlocks := B.notSynchronized
  have hP : va_P D vwCl [(q_x, .inr (5, [.ref q_nt, .ref q_rw, .ref q_rv, .ref q_hd, .ref q_lk, .ref q_rg])), (q_nt, .inr (2, [.ref q_en, .ref q_ba, .ref q_de, .int (nI n), .int (nI (prs t))])), (q_en, .inl (cI, 32, .inl (aE t))), (q_ba, .inl (cZ, 32, .inl (aB w))), (q_de, .inl (cI, 8, .inl (aN (dg t)))), (q_rw, .inr (4, [.ref q_nm, .int (nI L)])), (q_nm, .inl (cI, 40, .inl (aN r)))] zs.heap := hP
  have hl := lv_entry ([.ref q_x, .int (nI p), .int (nI how)]) (n := 6) (Nat.le_of_ble_eq_true rfl)
  rw [lg_entry_eq]
  generalize (lg_sl ([.ref q_x, .int (nI p), .int (nI how)]) ++ List.replicate (6 - (lg_sl ([.ref q_x, .int (nI p), .int (nI how)])).length) Slot.unset).toArray = ls at hl ⊢
  have hl : lv_has ls 6 [(0, .ref q_x), (1, .int (nI p)), (2, .int (nI how))] := hl
  obtain ⟨X14, hX14⟩ : ∃ X : Nat → Nat → Nat → Prop, ∀ (v3 : Nat) (v4 : Nat) (v5 : Nat), X v3 v4 v5 ↔ (∀ ls : Array Slot, lv_has ls 6 [(0, .ref q_x), (1, .int (nI p)), (2, .int (nI how)), (3, .int (nI v3)), (4, .int (nI v4)), (5, .int (nI v5))] → W zp l ze (headSpec wsX5_stepsToAll ({ frames := 4, cells := 0, slots := 0, locals := 93 } : Room)).room zs zm ([.ref q_x, .int (nI p), .int (nI how)] : List Value).toArray zbelow zmeth zc zs.heap [] 0 0 (MQ zbelow (vp_Si (fun zr : Int32 => zr = wlV n t w r L p how)) ([.ref q_x, .int (nI p), .int (nI how)] : List Value).toArray zs 0 0 (fun _ => False)) (F0 zm 14 ls [])) := ⟨_, fun _ _ _ => Iff.rfl⟩
  have b14 : ∀ (v3 : Nat) (v4 : Nat) (v5 : Nat), B_X5_stepsToAll_14 n t w r L p how X14 v3 v4 v5 → X14 v3 v4 v5 := by
    intro v3 v4 v5 hw
    rw [hX14]
    intro ls hl
    unfold B_X5_stepsToAll_14 at hw
    refine lv_iload hx hb dX5_stepsToAll_14 (lv_at hl 5 rfl) ?_
    refine lv_aload_n hx hb dX5_stepsToAll_16 rfl (lv_at hl 0 rfl) ?_
    refine va_get (D := D) (ci := 5) (v := .ref q_rw) (C := RX5) (T := TX5) (N := 6) hx hb hts i_X5_stepsToAll_X5 hown hZ.1 hP 0 rfl rfl 1 (by decide) (hts _ m_X5_stepsToAll_f19) (fun _ h9 => h9) rfl dX5_stepsToAll_17 ?_
    refine va_get (D := D) (ci := 4) (v := .int (nI L)) (C := RX4) (T := TX4) (N := 2) hx hb hts i_X5_stepsToAll_X4 hown hZ.1 hP 5 rfl rfl 1 (by decide) (hts _ m_X5_stepsToAll_f116) (fun _ h9 => h9) rfl dX5_stepsToAll_20 ?_
    obtain ⟨zh1, hw⟩ := hw
    obtain ⟨zh2, hw⟩ := hw
    obtain ⟨hwt, hwf⟩ := hw
    refine z_icmp_gt hx hb zh1 zh2 (tgt := 71) dX5_stepsToAll_23 (by decide) (fun cc => ?_) (fun cc => ?_)
    · replace hw := hwt cc
      refine lv_bipush (v := (-6)) hx hb dX5_stepsToAll_71 (by decide +kernel) ?_
      have er := hw
      exact W.iret (v := (-6)) hx hb hr (fun t ht hW => ⟨_, rfl, er, ht⟩) (fun _ h => by cases h) dX5_stepsToAll_73
    · replace hw := hwf cc
      refine lv_iload hx hb dX5_stepsToAll_26 (lv_at hl 4 rfl) ?_
      refine lv_aload_n hx hb dX5_stepsToAll_28 rfl (lv_at hl 0 rfl) ?_
      refine va_get (D := D) (ci := 5) (v := .ref q_nt) (C := RX5) (T := TX5) (N := 6) hx hb hts i_X5_stepsToAll_X5 hown hZ.1 hP 0 rfl rfl 0 (by decide) (hts _ m_X5_stepsToAll_f10) (fun _ h9 => h9) rfl dX5_stepsToAll_29 ?_
      obtain ⟨zh3, hw⟩ := hw
      have hPc : va_P D vwCl [(q_nt, .inr (2, [.ref q_en, .ref q_ba, .ref q_de, .int (nI n), .int (nI (prs t))])), (q_en, .inl (cI, 32, .inl (aE t))), (q_ba, .inl (cZ, 32, .inl (aB w))), (q_de, .inl (cI, 8, .inl (aN (dg t))))] zs.heap := hP.sub [1, 2, 3, 4] rfl
      refine z_ro (va_runV (As := []) (rest := [.int (nI v4)]) ⟨hx, hb, hml, hown, hts⟩ (k_X2_allPosts q_nt q_en q_ba q_de n t w zh3) (cwV 0 hts gX5_stepsToAll_X2_allPosts rfl rfl rfl (by decide +kernel) ⟨Nat.le_of_ble_eq_true rfl, Nat.le_of_ble_eq_true rfl⟩) (zPr_V hZ hPc 0 rfl rfl) rfl rfl hl.1 rfl (lv_room (Nat.le_of_ble_eq_true rfl)) dX5_stepsToAll_32 ⟨Nat.zero_le _, Nat.zero_le _⟩) (fun zr4 hzr4 => ?_)
      have ez := hzr4
      rw [ez]
      clear ez hzr4
      obtain ⟨zh5, hw⟩ := hw
      obtain ⟨zh6, hw⟩ := hw
      obtain ⟨hwt, hwf⟩ := hw
      refine z_icmp_ne hx hb zh5 zh6 (tgt := 41) dX5_stepsToAll_35 (by decide) (fun cc => ?_) (fun cc => ?_)
      · replace hw := hwt cc
        refine lv_aload_n hx hb dX5_stepsToAll_41 rfl (lv_at hl 0 rfl) ?_
        refine lv_iload_n hx hb dX5_stepsToAll_42 rfl (lv_at hl 3 rfl) ?_
        refine lv_aload_n hx hb dX5_stepsToAll_43 rfl (lv_at hl 0 rfl) ?_
        refine va_get (D := D) (ci := 5) (v := .ref q_rw) (C := RX5) (T := TX5) (N := 6) hx hb hts i_X5_stepsToAll_X5 hown hZ.1 hP 0 rfl rfl 1 (by decide) (hts _ m_X5_stepsToAll_f19) (fun _ h9 => h9) rfl dX5_stepsToAll_44 ?_
        refine lv_iload hx hb dX5_stepsToAll_47 (lv_at hl 5 rfl) ?_
        refine lv_iload_n hx hb dX5_stepsToAll_49 rfl (lv_at hl 2 rfl) ?_
        obtain ⟨zh7, hw⟩ := hw
        obtain ⟨zh8, hw⟩ := hw
        obtain ⟨zh9, hw⟩ := hw
        have hPc : va_P D vwCl [(q_x, .inr (5, [.ref q_nt, .ref q_rw, .ref q_rv, .ref q_hd, .ref q_lk, .ref q_rg])), (q_nt, .inr (2, [.ref q_en, .ref q_ba, .ref q_de, .int (nI n), .int (nI (prs t))])), (q_en, .inl (cI, 32, .inl (aE t))), (q_ba, .inl (cZ, 32, .inl (aB w))), (q_de, .inl (cI, 8, .inl (aN (dg t)))), (q_rw, .inr (4, [.ref q_nm, .int (nI L)])), (q_nm, .inl (cI, 40, .inl (aN r)))] zs.heap := hP.sub [0, 1, 2, 3, 4, 5, 6] rfl
        refine z_ro (va_runV (As := [.int (nI v3), .ref q_rw, .int (nI v5), .int (nI how)]) (rest := []) ⟨hx, hb, hml, hown, hts⟩ (k_X5_follow q_x q_nt q_en q_ba q_de q_rw q_nm q_rw q_rv q_hd q_lk q_rg n t w r L v3 (nI v5) how zh7 zh8 zh9) (cwV 4 hts gX5_stepsToAll_X5_follow rfl rfl rfl (by decide +kernel) ⟨Nat.le_of_ble_eq_true rfl, Nat.le_of_ble_eq_true rfl⟩) (zPr_V hZ hPc 0 rfl rfl) rfl rfl hl.1 rfl (lv_room (Nat.le_of_ble_eq_true rfl)) dX5_stepsToAll_50 ⟨Nat.zero_le _, Nat.zero_le _⟩) (fun zr10 hzr10 => ?_)
        have ez := hzr10
        rw [ez]
        clear ez hzr10
        obtain ⟨zx11, ezx11⟩ : ∃ zx11 : Nat, zx11 = folI t w L r how v3 (nI v5) := ⟨_, rfl⟩
        replace hw := hw zx11 ezx11
        refine z_st (st' := [.int (nI zx11)]) (by rw [ezx11]) ?_
        refine lv_istore_n (lv' := [(3, .int (nI zx11)), (0, .ref q_x), (1, .int (nI p)), (2, .int (nI how)), (4, .int (nI v4)), (5, .int (nI v5))]) hx hb dX5_stepsToAll_53 rfl hl (by decide) rfl (fun ls hl => ?_)
        refine lv_iload hx hb dX5_stepsToAll_54 (lv_at hl 4 rfl) ?_
        refine lv_iconst (v := nI 1) hx hb dX5_stepsToAll_56 (by decide +kernel) ?_
        refine lv_iload_n hx hb dX5_stepsToAll_57 rfl (lv_at hl 0 rfl) ?_
        obtain ⟨zh12, hw⟩ := hw
        have hPc : va_P D vwCl [] zs.heap := hP.sub [] rfl
        refine z_ro (va_runS (As := [.int (nI zx11)]) (rest := [.int (nI 1), .int (nI v4)]) ⟨hx, hb, hml, hown, hts⟩ (k_X5_postOf zx11 zh12) (va_cwS 1 hts gX5_stepsToAll_X5_postOf rfl rfl rfl (by decide +kernel) ⟨Nat.le_of_ble_eq_true rfl, Nat.le_of_ble_eq_true rfl⟩) (zPr_S hZ hPc) rfl rfl hl.1 rfl (lv_room (Nat.le_of_ble_eq_true rfl)) dX5_stepsToAll_58 ⟨Nat.zero_le _, Nat.zero_le _⟩) (fun zr13 hzr13 => ?_)
        have ez := hzr13
        rw [ez]
        clear ez hzr13
        obtain ⟨zh14, hw⟩ := hw
        refine z_ishl hx hb (n_shl _ zh14) dX5_stepsToAll_61 ?_
        refine z_ior hx hb (n_or _ _) dX5_stepsToAll_62 ?_
        obtain ⟨zx15, ezx15⟩ : ∃ zx15 : Nat, zx15 = v4 ||| (1 <<< (zx11 / 4)) := ⟨_, rfl⟩
        replace hw := hw zx15 ezx15
        refine z_st (st' := [.int (nI zx15)]) (by rw [ezx15]) ?_
        refine lv_istore (lv' := [(4, .int (nI zx15)), (3, .int (nI zx11)), (0, .ref q_x), (1, .int (nI p)), (2, .int (nI how)), (5, .int (nI v5))]) hx hb dX5_stepsToAll_63 hl (by decide) rfl (fun ls hl => ?_)
        refine lv_iinc (v := nI (v5 + 1)) (lv' := [(5, .int (nI (v5 + 1))), (4, .int (nI zx15)), (3, .int (nI zx11)), (0, .ref q_x), (1, .int (nI p)), (2, .int (nI how))]) hx hb dX5_stepsToAll_65 hl (k := 5) rfl (by rw [show Int32.ofInt 1 = nI 1 from by decide +kernel]; exact nI_add _ _) (by decide) rfl (fun ls hl => ?_)
        refine lv_goto (tgt := 14) hx hb dX5_stepsToAll_68 (by decide) ?_
        exact ((hX14 _ _ _).mp hw) ls (lv_sub hl [3, 4, 5, 2, 1, 0] rfl)
      · replace hw := hwf cc
        refine lv_iload hx hb dX5_stepsToAll_38 (lv_at hl 5 rfl) ?_
        have er := hw
        exact W.iret (v := nI v5) hx hb hr (fun t ht hW => ⟨_, rfl, er, ht⟩) (fun _ h => by cases h) dX5_stepsToAll_40
  have hw := vw X14 b14
  unfold B_X5_stepsToAll_in at hw
  refine lv_iload_n hx hb dX5_stepsToAll_0 rfl (lv_at hl 1 rfl) ?_
  refine lv_iconst (v := nI 0) hx hb dX5_stepsToAll_1 (by decide +kernel) ?_
  have hPc : va_P D vwCl [] zs.heap := hP.sub [] rfl
  refine z_ro (va_runS (As := [.int (nI p), .int (nI 0)]) (rest := []) ⟨hx, hb, hml, hown, hts⟩ (k_X5_placeOf p 0) (va_cwS 2 hts gX5_stepsToAll_X5_placeOf rfl rfl rfl (by decide +kernel) ⟨Nat.le_of_ble_eq_true rfl, Nat.le_of_ble_eq_true rfl⟩) (zPr_S hZ hPc) rfl rfl hl.1 rfl (lv_room (Nat.le_of_ble_eq_true rfl)) dX5_stepsToAll_2 ⟨Nat.zero_le _, Nat.zero_le _⟩) (fun zr16 hzr16 => ?_)
  have ez := hzr16
  rw [ez]
  clear ez hzr16
  obtain ⟨zx17, ezx17⟩ : ∃ zx17 : Nat, zx17 = 4 * p + 0 := ⟨_, rfl⟩
  replace hw := hw zx17 ezx17
  refine z_st (st' := [.int (nI zx17)]) (by rw [ezx17]) ?_
  refine lv_istore_n (lv' := [(3, .int (nI zx17)), (0, .ref q_x), (1, .int (nI p)), (2, .int (nI how))]) hx hb dX5_stepsToAll_5 rfl hl (by decide) rfl (fun ls hl => ?_)
  refine lv_iconst (v := nI 1) hx hb dX5_stepsToAll_6 (by decide +kernel) ?_
  refine lv_iload_n hx hb dX5_stepsToAll_7 rfl (lv_at hl 2 rfl) ?_
  obtain ⟨zh18, hw⟩ := hw
  refine z_ishl hx hb (n_shl _ zh18) dX5_stepsToAll_8 ?_
  obtain ⟨zx19, ezx19⟩ : ∃ zx19 : Nat, zx19 = 1 <<< p := ⟨_, rfl⟩
  replace hw := hw zx19 ezx19
  refine z_st (st' := [.int (nI zx19)]) (by rw [ezx19]) ?_
  refine lv_istore (lv' := [(4, .int (nI zx19)), (3, .int (nI zx17)), (0, .ref q_x), (1, .int (nI p)), (2, .int (nI how))]) hx hb dX5_stepsToAll_9 hl (by decide) rfl (fun ls hl => ?_)
  refine lv_iconst (v := nI 0) hx hb dX5_stepsToAll_11 (by decide +kernel) ?_
  refine lv_istore (lv' := [(5, .int (nI 0)), (4, .int (nI zx19)), (3, .int (nI zx17)), (0, .ref q_x), (1, .int (nI p)), (2, .int (nI how))]) hx hb dX5_stepsToAll_12 hl (by decide) rfl (fun ls hl => ?_)
  exact ((hX14 _ _ _).mp hw) ls (lv_sub hl [3, 4, 5, 2, 1, 0] rfl)
theorem m_X5_after_f19 : Cond.fieldLink RX5 19 "NetWalkers" "row" "LNetWalkers$Row;" ∈ wsX5_after := by decide +kernel
theorem i_X5_after_X5 : ∀ w ∈ wsX50, w ∈ wsX5_after := by decide +kernel
theorem m_X5_after_f10 : Cond.fieldLink RX5 10 "NetWalkers" "net" "LNetWalkers$Net;" ∈ wsX5_after := by decide +kernel
theorem m_X5_after_f116 : Cond.fieldLink RX5 116 "NetWalkers$Row" "length" "I" ∈ wsX5_after := by decide +kernel
theorem i_X5_after_X4 : ∀ w ∈ wsX40, w ∈ wsX5_after := by decide +kernel
set_option maxRecDepth 100000 in
set_option maxHeartbeats 4000000 in
theorem w_X5_after {l : Launch} {D : va_G} {cI cZ : ClassId} (k_X5_postOf : K_X5_postOf l D cI cZ) (k_X5_follow : K_X5_follow l D cI cZ) (k_X2_hasPost : K_X2_hasPost l D cI cZ) (k_X5_isHow : K_X5_isHow l D cI cZ) (k_X2_isReady : K_X2_isReady l D cI cZ) (k_X5_placeOf : K_X5_placeOf l D cI cZ) (vv : V_X5_after) : K_X5_after l D cI cZ := by
  intro q_x q_nt q_en q_ba q_de q_rw q_nm q_rv q_hd q_lk q_rg n t w r L p how k hpre0 hpre1
  have vw := vv n t w r L p how k hpre0 hpre1
  refine Met.ofW (cc := cX5_after) (maxL := 6) (ret := (some .int)) (by decide) rfl ?_
  intro zp ze zs zm zargs zbelow zmeth zc zs1 B hml hv
  obtain ⟨rfl, hZ, hP⟩ := hv
  have hx := B.exec
  have hb := B.bytes
  have hr := B.returns
  have hts := atoms_spec (ws := wsX5_after) B.pre
  have hown : zs.vm.findClass RX5 = some zm.cls := findClass_of_methodNamed B.named
  have hlocks := B.notSynchronized
  have hP : va_P D vwCl [(q_x, .inr (5, [.ref q_nt, .ref q_rw, .ref q_rv, .ref q_hd, .ref q_lk, .ref q_rg])), (q_nt, .inr (2, [.ref q_en, .ref q_ba, .ref q_de, .int (nI n), .int (nI (prs t))])), (q_en, .inl (cI, 32, .inl (aE t))), (q_ba, .inl (cZ, 32, .inl (aB w))), (q_de, .inl (cI, 8, .inl (aN (dg t)))), (q_rw, .inr (4, [.ref q_nm, .int (nI L)])), (q_nm, .inl (cI, 40, .inl (aN r)))] zs.heap := hP
  have hl := lv_entry ([.ref q_x, .int p, .int how, .int k]) (n := 6) (Nat.le_of_ble_eq_true rfl)
  rw [lg_entry_eq]
  generalize (lg_sl ([.ref q_x, .int p, .int how, .int k]) ++ List.replicate (6 - (lg_sl ([.ref q_x, .int p, .int how, .int k])).length) Slot.unset).toArray = ls at hl ⊢
  have hl : lv_has ls 6 [(0, .ref q_x), (1, .int p), (2, .int how), (3, .int k)] := hl
  obtain ⟨X61, hX61⟩ : ∃ X : Nat → Nat → Prop, ∀ (v4 : Nat) (v5 : Nat), X v4 v5 ↔ (∀ ls : Array Slot, lv_has ls 6 [(0, .ref q_x), (1, .int p), (2, .int how), (3, .int k), (4, .int (nI v4)), (5, .int (nI v5))] → W zp l ze (headSpec wsX5_after ({ frames := 4, cells := 0, slots := 0, locals := 93 } : Room)).room zs zm ([.ref q_x, .int p, .int how, .int k] : List Value).toArray zbelow zmeth zc zs.heap [] 0 0 (MQ zbelow (vp_Si (fun zr : Int32 => zr = afA n t w r L p how k)) ([.ref q_x, .int p, .int how, .int k] : List Value).toArray zs 0 0 (fun _ => False)) (F0 zm 61 ls [])) := ⟨_, fun _ _ => Iff.rfl⟩
  have b61 : ∀ (v4 : Nat) (v5 : Nat), B_X5_after_61 n t w r L p how k X61 v4 v5 → X61 v4 v5 := by
    intro v4 v5 hw
    rw [hX61]
    intro ls hl
    unfold B_X5_after_61 at hw
    refine lv_iload hx hb dX5_after_61 (lv_at hl 5 rfl) ?_
    refine lv_iload_n hx hb dX5_after_63 rfl (lv_at hl 3 rfl) ?_
    obtain ⟨hwt, hwf⟩ := hw
    refine lv_icmp_ge hx hb (tgt := 88) dX5_after_64 (by decide) (fun cc => ?_) (fun cc => ?_)
    · replace hw := hwt cc
      refine lv_iload hx hb dX5_after_88 (lv_at hl 4 rfl) ?_
      obtain ⟨zh1, hw⟩ := hw
      have hPc : va_P D vwCl [] zs.heap := hP.sub [] rfl
      refine z_ro (va_runS (As := [.int (nI v4)]) (rest := []) ⟨hx, hb, hml, hown, hts⟩ (k_X5_postOf v4 zh1) (va_cwS 1 hts gX5_after_X5_postOf rfl rfl rfl (by decide +kernel) ⟨Nat.le_of_ble_eq_true rfl, Nat.le_of_ble_eq_true rfl⟩) (zPr_S hZ hPc) rfl rfl hl.1 rfl (lv_room (Nat.le_of_ble_eq_true rfl)) dX5_after_90 ⟨Nat.zero_le _, Nat.zero_le _⟩) (fun zr2 hzr2 => ?_)
      have ez := hzr2
      rw [ez]
      clear ez hzr2
      have er := hw
      exact W.iret (v := nI (v4 / 4)) hx hb hr (fun t ht hW => ⟨_, rfl, er, ht⟩) (fun _ h => by cases h) dX5_after_93
    · replace hw := hwf cc
      refine lv_aload_n hx hb dX5_after_67 rfl (lv_at hl 0 rfl) ?_
      refine lv_iload hx hb dX5_after_68 (lv_at hl 4 rfl) ?_
      refine lv_aload_n hx hb dX5_after_70 rfl (lv_at hl 0 rfl) ?_
      refine va_get (D := D) (ci := 5) (v := .ref q_rw) (C := RX5) (T := TX5) (N := 6) hx hb hts i_X5_after_X5 hown hZ.1 hP 0 rfl rfl 1 (by decide) (hts _ m_X5_after_f19) (fun _ h9 => h9) rfl dX5_after_71 ?_
      refine lv_iload hx hb dX5_after_74 (lv_at hl 5 rfl) ?_
      refine lv_iload_n hx hb dX5_after_76 rfl (lv_at hl 2 rfl) ?_
      obtain ⟨zk3, ezk3, hw⟩ := hw
      refine z_st (st' := [.int (nI zk3), .int (nI v5), .ref q_rw, .int (nI v4), .ref q_x]) (by rw [ezk3]) ?_
      obtain ⟨zh4, hw⟩ := hw
      obtain ⟨zh5, hw⟩ := hw
      obtain ⟨zh6, hw⟩ := hw
      have hPc : va_P D vwCl [(q_x, .inr (5, [.ref q_nt, .ref q_rw, .ref q_rv, .ref q_hd, .ref q_lk, .ref q_rg])), (q_nt, .inr (2, [.ref q_en, .ref q_ba, .ref q_de, .int (nI n), .int (nI (prs t))])), (q_en, .inl (cI, 32, .inl (aE t))), (q_ba, .inl (cZ, 32, .inl (aB w))), (q_de, .inl (cI, 8, .inl (aN (dg t)))), (q_rw, .inr (4, [.ref q_nm, .int (nI L)])), (q_nm, .inl (cI, 40, .inl (aN r)))] zs.heap := hP.sub [0, 1, 2, 3, 4, 5, 6] rfl
      refine z_ro (va_runV (As := [.int (nI v4), .ref q_rw, .int (nI v5), .int (nI zk3)]) (rest := []) ⟨hx, hb, hml, hown, hts⟩ (k_X5_follow q_x q_nt q_en q_ba q_de q_rw q_nm q_rw q_rv q_hd q_lk q_rg n t w r L v4 (nI v5) zk3 zh4 zh5 zh6) (cwV 4 hts gX5_after_X5_follow rfl rfl rfl (by decide +kernel) ⟨Nat.le_of_ble_eq_true rfl, Nat.le_of_ble_eq_true rfl⟩) (zPr_V hZ hPc 0 rfl rfl) rfl rfl hl.1 rfl (lv_room (Nat.le_of_ble_eq_true rfl)) dX5_after_77 ⟨Nat.zero_le _, Nat.zero_le _⟩) (fun zr7 hzr7 => ?_)
      have ez := hzr7
      rw [ez]
      clear ez hzr7
      obtain ⟨zx8, ezx8⟩ : ∃ zx8 : Nat, zx8 = folI t w L r zk3 v4 (nI v5) := ⟨_, rfl⟩
      replace hw := hw zx8 ezx8
      refine z_st (st' := [.int (nI zx8)]) (by rw [ezx8]) ?_
      refine lv_istore (lv' := [(4, .int (nI zx8)), (0, .ref q_x), (1, .int p), (2, .int how), (3, .int k), (5, .int (nI v5))]) hx hb dX5_after_80 hl (by decide) rfl (fun ls hl => ?_)
      refine lv_iinc (v := nI (v5 + 1)) (lv' := [(5, .int (nI (v5 + 1))), (4, .int (nI zx8)), (0, .ref q_x), (1, .int p), (2, .int how), (3, .int k)]) hx hb dX5_after_82 hl (k := 5) rfl (by rw [show Int32.ofInt 1 = nI 1 from by decide +kernel]; exact nI_add _ _) (by decide) rfl (fun ls hl => ?_)
      refine lv_goto (tgt := 61) hx hb dX5_after_85 (by decide) ?_
      exact ((hX61 _ _).mp hw) ls (lv_sub hl [2, 3, 4, 5, 1, 0] rfl)
  have hw := vw X61 b61
  unfold B_X5_after_in at hw
  refine lv_aload_n hx hb dX5_after_0 rfl (lv_at hl 0 rfl) ?_
  refine va_get (D := D) (ci := 5) (v := .ref q_nt) (C := RX5) (T := TX5) (N := 6) hx hb hts i_X5_after_X5 hown hZ.1 hP 0 rfl rfl 0 (by decide) (hts _ m_X5_after_f10) (fun _ h9 => h9) rfl dX5_after_1 ?_
  refine lv_iload_n hx hb dX5_after_4 rfl (lv_at hl 1 rfl) ?_
  have hPc : va_P D vwCl [(q_nt, .inr (2, [.ref q_en, .ref q_ba, .ref q_de, .int (nI n), .int (nI (prs t))])), (q_en, .inl (cI, 32, .inl (aE t))), (q_ba, .inl (cZ, 32, .inl (aB w))), (q_de, .inl (cI, 8, .inl (aN (dg t))))] zs.heap := hP.sub [1, 2, 3, 4] rfl
  refine z_ro (va_runV (As := [.int p]) (rest := []) ⟨hx, hb, hml, hown, hts⟩ (k_X2_hasPost q_nt q_en q_ba q_de n t w p) (cwV 1 hts gX5_after_X2_hasPost rfl rfl rfl (by decide +kernel) ⟨Nat.le_of_ble_eq_true rfl, Nat.le_of_ble_eq_true rfl⟩) (zPr_V hZ hPc 0 rfl rfl) rfl rfl hl.1 rfl (lv_room (Nat.le_of_ble_eq_true rfl)) dX5_after_5 ⟨Nat.zero_le _, Nat.zero_le _⟩) (fun zr9 hzr9 => ?_)
  have ez := hzr9
  rw [ez]
  clear ez hzr9
  obtain ⟨hwt, hwf⟩ := hw
  refine z_if_neb hx hb (tgt := 13) dX5_after_8 (by decide) (fun cc => ?_) (fun cc => ?_)
  · replace hw := hwt cc
    refine lv_iload_n hx hb dX5_after_13 rfl (lv_at hl 2 rfl) ?_
    have hPc : va_P D vwCl [] zs.heap := hP.sub [] rfl
    refine z_ro (va_runS (As := [.int how]) (rest := []) ⟨hx, hb, hml, hown, hts⟩ (k_X5_isHow how) (va_cwS 1 hts gX5_after_X5_isHow rfl rfl rfl (by decide +kernel) ⟨Nat.le_of_ble_eq_true rfl, Nat.le_of_ble_eq_true rfl⟩) (zPr_S hZ hPc) rfl rfl hl.1 rfl (lv_room (Nat.le_of_ble_eq_true rfl)) dX5_after_14 ⟨Nat.zero_le _, Nat.zero_le _⟩) (fun zr10 hzr10 => ?_)
    have ez := hzr10
    rw [ez]
    clear ez hzr10
    obtain ⟨hwt, hwf⟩ := hw
    refine z_if_eqb hx hb (tgt := 35) dX5_after_17 (by decide) (fun cc => ?_) (fun cc => ?_)
    · replace hw := hwt cc
      refine lv_bipush (v := (-2)) hx hb dX5_after_35 (by decide +kernel) ?_
      have er := hw
      exact W.iret (v := (-2)) hx hb hr (fun t ht hW => ⟨_, rfl, er, ht⟩) (fun _ h => by cases h) dX5_after_37
    · replace hw := hwf cc
      refine lv_iload_n hx hb dX5_after_20 rfl (lv_at hl 3 rfl) ?_
      obtain ⟨hwt, hwf⟩ := hw
      refine lv_if_lt hx hb (tgt := 35) dX5_after_21 (by decide) (fun cc => ?_) (fun cc => ?_)
      · replace hw := hwt cc
        refine lv_bipush (v := (-2)) hx hb dX5_after_35 (by decide +kernel) ?_
        have er := hw
        exact W.iret (v := (-2)) hx hb hr (fun t ht hW => ⟨_, rfl, er, ht⟩) (fun _ h => by cases h) dX5_after_37
      · replace hw := hwf cc
        refine lv_iload_n hx hb dX5_after_24 rfl (lv_at hl 3 rfl) ?_
        refine lv_aload_n hx hb dX5_after_25 rfl (lv_at hl 0 rfl) ?_
        refine va_get (D := D) (ci := 5) (v := .ref q_rw) (C := RX5) (T := TX5) (N := 6) hx hb hts i_X5_after_X5 hown hZ.1 hP 0 rfl rfl 1 (by decide) (hts _ m_X5_after_f19) (fun _ h9 => h9) rfl dX5_after_26 ?_
        refine va_get (D := D) (ci := 4) (v := .int (nI L)) (C := RX4) (T := TX4) (N := 2) hx hb hts i_X5_after_X4 hown hZ.1 hP 5 rfl rfl 1 (by decide) (hts _ m_X5_after_f116) (fun _ h9 => h9) rfl dX5_after_29 ?_
        obtain ⟨hwt, hwf⟩ := hw
        refine lv_icmp_le hx hb (tgt := 38) dX5_after_32 (by decide) (fun cc => ?_) (fun cc => ?_)
        · replace hw := hwt cc
          refine lv_aload_n hx hb dX5_after_38 rfl (lv_at hl 0 rfl) ?_
          refine va_get (D := D) (ci := 5) (v := .ref q_nt) (C := RX5) (T := TX5) (N := 6) hx hb hts i_X5_after_X5 hown hZ.1 hP 0 rfl rfl 0 (by decide) (hts _ m_X5_after_f10) (fun _ h9 => h9) rfl dX5_after_39 ?_
          obtain ⟨zh11, hw⟩ := hw
          have hPc : va_P D vwCl [(q_nt, .inr (2, [.ref q_en, .ref q_ba, .ref q_de, .int (nI n), .int (nI (prs t))])), (q_en, .inl (cI, 32, .inl (aE t))), (q_ba, .inl (cZ, 32, .inl (aB w))), (q_de, .inl (cI, 8, .inl (aN (dg t))))] zs.heap := hP.sub [1, 2, 3, 4] rfl
          refine z_ro (va_runV (As := []) (rest := []) ⟨hx, hb, hml, hown, hts⟩ (k_X2_isReady q_nt q_en q_ba q_de n t w zh11) (cwV 0 hts gX5_after_X2_isReady rfl rfl rfl (by decide +kernel) ⟨Nat.le_of_ble_eq_true rfl, Nat.le_of_ble_eq_true rfl⟩) (zPr_V hZ hPc 0 rfl rfl) rfl rfl hl.1 rfl (lv_room (Nat.le_of_ble_eq_true rfl)) dX5_after_42 ⟨Nat.zero_le _, Nat.zero_le _⟩) (fun zr12 hzr12 => ?_)
          have ez := hzr12
          rw [ez]
          clear ez hzr12
          obtain ⟨hwt, hwf⟩ := hw
          refine z_if_neb hx hb (tgt := 51) dX5_after_45 (by decide) (fun cc => ?_) (fun cc => ?_)
          · replace hw := hwt cc
            refine lv_iload_n hx hb dX5_after_51 rfl (lv_at hl 1 rfl) ?_
            refine lv_iconst (v := nI 0) hx hb dX5_after_52 (by decide +kernel) ?_
            obtain ⟨zk13, ezk13, hw⟩ := hw
            refine z_st (st' := [.int (nI 0), .int (nI zk13)]) (by rw [ezk13]) ?_
            have hPc : va_P D vwCl [] zs.heap := hP.sub [] rfl
            refine z_ro (va_runS (As := [.int (nI zk13), .int (nI 0)]) (rest := []) ⟨hx, hb, hml, hown, hts⟩ (k_X5_placeOf zk13 0) (va_cwS 2 hts gX5_after_X5_placeOf rfl rfl rfl (by decide +kernel) ⟨Nat.le_of_ble_eq_true rfl, Nat.le_of_ble_eq_true rfl⟩) (zPr_S hZ hPc) rfl rfl hl.1 rfl (lv_room (Nat.le_of_ble_eq_true rfl)) dX5_after_53 ⟨Nat.zero_le _, Nat.zero_le _⟩) (fun zr14 hzr14 => ?_)
            have ez := hzr14
            rw [ez]
            clear ez hzr14
            obtain ⟨zx15, ezx15⟩ : ∃ zx15 : Nat, zx15 = 4 * zk13 + 0 := ⟨_, rfl⟩
            replace hw := hw zx15 ezx15
            refine z_st (st' := [.int (nI zx15)]) (by rw [ezx15]) ?_
            refine lv_istore (lv' := [(4, .int (nI zx15)), (0, .ref q_x), (1, .int p), (2, .int how), (3, .int k)]) hx hb dX5_after_56 hl (by decide) rfl (fun ls hl => ?_)
            refine lv_iconst (v := nI 0) hx hb dX5_after_58 (by decide +kernel) ?_
            refine lv_istore (lv' := [(5, .int (nI 0)), (4, .int (nI zx15)), (0, .ref q_x), (1, .int p), (2, .int how), (3, .int k)]) hx hb dX5_after_59 hl (by decide) rfl (fun ls hl => ?_)
            exact ((hX61 _ _).mp hw) ls (lv_sub hl [2, 3, 4, 5, 1, 0] rfl)
          · replace hw := hwf cc
            refine lv_bipush (v := (-3)) hx hb dX5_after_48 (by decide +kernel) ?_
            have er := hw
            exact W.iret (v := (-3)) hx hb hr (fun t ht hW => ⟨_, rfl, er, ht⟩) (fun _ h => by cases h) dX5_after_50
        · replace hw := hwf cc
          refine lv_bipush (v := (-2)) hx hb dX5_after_35 (by decide +kernel) ?_
          have er := hw
          exact W.iret (v := (-2)) hx hb hr (fun t ht hW => ⟨_, rfl, er, ht⟩) (fun _ h => by cases h) dX5_after_37
  · replace hw := hwf cc
    refine lv_iconst (v := (-1)) hx hb dX5_after_11 (by decide +kernel) ?_
    have er := hw
    exact W.iret (v := (-1)) hx hb hr (fun t ht hW => ⟨_, rfl, er, ht⟩) (fun _ h => by cases h) dX5_after_12
theorem m_X5_walks_f10 : Cond.fieldLink RX5 10 "NetWalkers" "net" "LNetWalkers$Net;" ∈ wsX5_walks := by decide +kernel
theorem i_X5_walks_X5 : ∀ w ∈ wsX50, w ∈ wsX5_walks := by decide +kernel
set_option maxRecDepth 100000 in
set_option maxHeartbeats 4000000 in
theorem w_X5_walks {l : Launch} {D : va_G} {cI cZ : ClassId} (k_X2_hasPost : K_X2_hasPost l D cI cZ) (k_X5_isHow : K_X5_isHow l D cI cZ) (k_X2_isReady : K_X2_isReady l D cI cZ) (k_X5_stepsToAll : K_X5_stepsToAll l D cI cZ) (vv : V_X5_walks) : K_X5_walks l D cI cZ := by
  intro q_x q_nt q_en q_ba q_de q_rw q_nm q_rv q_hd q_lk q_rg n t w r L p how hpre0 hpre1
  have vw := vv n t w r L p how hpre0 hpre1
  refine Met.ofW (cc := cX5_walks) (maxL := 3) (ret := (some .int)) (by decide) rfl ?_
  intro zp ze zs zm zargs zbelow zmeth zc zs1 B hml hv
  obtain ⟨rfl, hZ, hP⟩ := hv
  have hx := B.exec
  have hb := B.bytes
  have hr := B.returns
  have hts := atoms_spec (ws := wsX5_walks) B.pre
  have hown : zs.vm.findClass RX5 = some zm.cls := findClass_of_methodNamed B.named
  have hlocks := B.notSynchronized
  have hP : va_P D vwCl [(q_x, .inr (5, [.ref q_nt, .ref q_rw, .ref q_rv, .ref q_hd, .ref q_lk, .ref q_rg])), (q_nt, .inr (2, [.ref q_en, .ref q_ba, .ref q_de, .int (nI n), .int (nI (prs t))])), (q_en, .inl (cI, 32, .inl (aE t))), (q_ba, .inl (cZ, 32, .inl (aB w))), (q_de, .inl (cI, 8, .inl (aN (dg t)))), (q_rw, .inr (4, [.ref q_nm, .int (nI L)])), (q_nm, .inl (cI, 40, .inl (aN r)))] zs.heap := hP
  have hl := lv_entry ([.ref q_x, .int p, .int how]) (n := 3) (Nat.le_of_ble_eq_true rfl)
  rw [lg_entry_eq]
  generalize (lg_sl ([.ref q_x, .int p, .int how]) ++ List.replicate (3 - (lg_sl ([.ref q_x, .int p, .int how])).length) Slot.unset).toArray = ls at hl ⊢
  have hl : lv_has ls 3 [(0, .ref q_x), (1, .int p), (2, .int how)] := hl
  have hw := vw
  unfold B_X5_walks_in at hw
  refine lv_aload_n hx hb dX5_walks_0 rfl (lv_at hl 0 rfl) ?_
  refine va_get (D := D) (ci := 5) (v := .ref q_nt) (C := RX5) (T := TX5) (N := 6) hx hb hts i_X5_walks_X5 hown hZ.1 hP 0 rfl rfl 0 (by decide) (hts _ m_X5_walks_f10) (fun _ h9 => h9) rfl dX5_walks_1 ?_
  refine lv_iload_n hx hb dX5_walks_4 rfl (lv_at hl 1 rfl) ?_
  have hPc : va_P D vwCl [(q_nt, .inr (2, [.ref q_en, .ref q_ba, .ref q_de, .int (nI n), .int (nI (prs t))])), (q_en, .inl (cI, 32, .inl (aE t))), (q_ba, .inl (cZ, 32, .inl (aB w))), (q_de, .inl (cI, 8, .inl (aN (dg t))))] zs.heap := hP.sub [1, 2, 3, 4] rfl
  refine z_ro (va_runV (As := [.int p]) (rest := []) ⟨hx, hb, hml, hown, hts⟩ (k_X2_hasPost q_nt q_en q_ba q_de n t w p) (cwV 1 hts gX5_walks_X2_hasPost rfl rfl rfl (by decide +kernel) ⟨Nat.le_of_ble_eq_true rfl, Nat.le_of_ble_eq_true rfl⟩) (zPr_V hZ hPc 0 rfl rfl) rfl rfl hl.1 rfl (lv_room (Nat.le_of_ble_eq_true rfl)) dX5_walks_5 ⟨Nat.zero_le _, Nat.zero_le _⟩) (fun zr1 hzr1 => ?_)
  have ez := hzr1
  rw [ez]
  clear ez hzr1
  obtain ⟨hwt, hwf⟩ := hw
  refine z_if_neb hx hb (tgt := 13) dX5_walks_8 (by decide) (fun cc => ?_) (fun cc => ?_)
  · replace hw := hwt cc
    refine lv_iload_n hx hb dX5_walks_13 rfl (lv_at hl 2 rfl) ?_
    have hPc : va_P D vwCl [] zs.heap := hP.sub [] rfl
    refine z_ro (va_runS (As := [.int how]) (rest := []) ⟨hx, hb, hml, hown, hts⟩ (k_X5_isHow how) (va_cwS 1 hts gX5_walks_X5_isHow rfl rfl rfl (by decide +kernel) ⟨Nat.le_of_ble_eq_true rfl, Nat.le_of_ble_eq_true rfl⟩) (zPr_S hZ hPc) rfl rfl hl.1 rfl (lv_room (Nat.le_of_ble_eq_true rfl)) dX5_walks_14 ⟨Nat.zero_le _, Nat.zero_le _⟩) (fun zr2 hzr2 => ?_)
    have ez := hzr2
    rw [ez]
    clear ez hzr2
    obtain ⟨hwt, hwf⟩ := hw
    refine z_if_neb hx hb (tgt := 23) dX5_walks_17 (by decide) (fun cc => ?_) (fun cc => ?_)
    · replace hw := hwt cc
      refine lv_aload_n hx hb dX5_walks_23 rfl (lv_at hl 0 rfl) ?_
      refine va_get (D := D) (ci := 5) (v := .ref q_nt) (C := RX5) (T := TX5) (N := 6) hx hb hts i_X5_walks_X5 hown hZ.1 hP 0 rfl rfl 0 (by decide) (hts _ m_X5_walks_f10) (fun _ h9 => h9) rfl dX5_walks_24 ?_
      obtain ⟨zh3, hw⟩ := hw
      have hPc : va_P D vwCl [(q_nt, .inr (2, [.ref q_en, .ref q_ba, .ref q_de, .int (nI n), .int (nI (prs t))])), (q_en, .inl (cI, 32, .inl (aE t))), (q_ba, .inl (cZ, 32, .inl (aB w))), (q_de, .inl (cI, 8, .inl (aN (dg t))))] zs.heap := hP.sub [1, 2, 3, 4] rfl
      refine z_ro (va_runV (As := []) (rest := []) ⟨hx, hb, hml, hown, hts⟩ (k_X2_isReady q_nt q_en q_ba q_de n t w zh3) (cwV 0 hts gX5_walks_X2_isReady rfl rfl rfl (by decide +kernel) ⟨Nat.le_of_ble_eq_true rfl, Nat.le_of_ble_eq_true rfl⟩) (zPr_V hZ hPc 0 rfl rfl) rfl rfl hl.1 rfl (lv_room (Nat.le_of_ble_eq_true rfl)) dX5_walks_27 ⟨Nat.zero_le _, Nat.zero_le _⟩) (fun zr4 hzr4 => ?_)
      have ez := hzr4
      rw [ez]
      clear ez hzr4
      obtain ⟨hwt, hwf⟩ := hw
      refine z_if_eqb hx hb (tgt := 42) dX5_walks_30 (by decide) (fun cc => ?_) (fun cc => ?_)
      · replace hw := hwt cc
        refine lv_bipush (v := (-3)) hx hb dX5_walks_42 (by decide +kernel) ?_
        have er := hw
        exact W.iret (v := (-3)) hx hb hr (fun t ht hW => ⟨_, rfl, er, ht⟩) (fun _ h => by cases h) dX5_walks_44
      · replace hw := hwf cc
        refine lv_aload_n hx hb dX5_walks_33 rfl (lv_at hl 0 rfl) ?_
        refine lv_iload_n hx hb dX5_walks_34 rfl (lv_at hl 1 rfl) ?_
        refine lv_iload_n hx hb dX5_walks_35 rfl (lv_at hl 2 rfl) ?_
        obtain ⟨zk5, ezk5, hw⟩ := hw
        refine z_st (st' := [.int how, .int (nI zk5), .ref q_x]) (by rw [ezk5]) ?_
        obtain ⟨zk6, ezk6, hw⟩ := hw
        refine z_st (st' := [.int (nI zk6), .int (nI zk5), .ref q_x]) (by rw [ezk6]) ?_
        obtain ⟨zh7, hw⟩ := hw
        obtain ⟨zh8, hw⟩ := hw
        obtain ⟨zh9, hw⟩ := hw
        obtain ⟨zh10, hw⟩ := hw
        have hPc : va_P D vwCl [(q_x, .inr (5, [.ref q_nt, .ref q_rw, .ref q_rv, .ref q_hd, .ref q_lk, .ref q_rg])), (q_nt, .inr (2, [.ref q_en, .ref q_ba, .ref q_de, .int (nI n), .int (nI (prs t))])), (q_en, .inl (cI, 32, .inl (aE t))), (q_ba, .inl (cZ, 32, .inl (aB w))), (q_de, .inl (cI, 8, .inl (aN (dg t)))), (q_rw, .inr (4, [.ref q_nm, .int (nI L)])), (q_nm, .inl (cI, 40, .inl (aN r)))] zs.heap := hP.sub [0, 1, 2, 3, 4, 5, 6] rfl
        refine z_ro (va_runV (As := [.int (nI zk5), .int (nI zk6)]) (rest := []) ⟨hx, hb, hml, hown, hts⟩ (k_X5_stepsToAll q_x q_nt q_en q_ba q_de q_rw q_nm q_rv q_hd q_lk q_rg n t w r L zk5 zk6 zh7 zh8 zh9 zh10) (cwV 2 hts gX5_walks_X5_stepsToAll rfl rfl rfl (by decide +kernel) ⟨Nat.le_of_ble_eq_true rfl, Nat.le_of_ble_eq_true rfl⟩) (zPr_V hZ hPc 0 rfl rfl) rfl rfl hl.1 rfl (lv_room (Nat.le_of_ble_eq_true rfl)) dX5_walks_36 ⟨Nat.zero_le _, Nat.zero_le _⟩) (fun zr11 hzr11 => ?_)
        have ez := hzr11
        rw [ez]
        clear ez hzr11
        refine lv_goto (tgt := 44) hx hb dX5_walks_39 (by decide) ?_
        have er := hw
        exact W.iret (v := wlV n t w r L zk5 zk6) hx hb hr (fun t ht hW => ⟨_, rfl, er, ht⟩) (fun _ h => by cases h) dX5_walks_44
    · replace hw := hwf cc
      refine lv_bipush (v := (-2)) hx hb dX5_walks_20 (by decide +kernel) ?_
      have er := hw
      exact W.iret (v := (-2)) hx hb hr (fun t ht hW => ⟨_, rfl, er, ht⟩) (fun _ h => by cases h) dX5_walks_22
  · replace hw := hwf cc
    refine lv_iconst (v := (-1)) hx hb dX5_walks_11 (by decide +kernel) ?_
    have er := hw
    exact W.iret (v := (-1)) hx hb hr (fun t ht hW => ⟨_, rfl, er, ht⟩) (fun _ h => by cases h) dX5_walks_12
theorem m_X5_fails_f10 : Cond.fieldLink RX5 10 "NetWalkers" "net" "LNetWalkers$Net;" ∈ wsX5_fails := by decide +kernel
theorem i_X5_fails_X5 : ∀ w ∈ wsX50, w ∈ wsX5_fails := by decide +kernel
theorem m_X5_fails_f49 : Cond.fieldLink RX5 49 "NetWalkers$Net" "size" "I" ∈ wsX5_fails := by decide +kernel
theorem i_X5_fails_X2 : ∀ w ∈ wsX20, w ∈ wsX5_fails := by decide +kernel
set_option maxRecDepth 100000 in
set_option maxHeartbeats 4000000 in
theorem w_X5_fails {l : Launch} {D : va_G} {cI cZ : ClassId} (k_X5_stepsToAll : K_X5_stepsToAll l D cI cZ) (k_X5_isHow : K_X5_isHow l D cI cZ) (k_X2_isReady : K_X2_isReady l D cI cZ) (vv : V_X5_fails) : K_X5_fails l D cI cZ := by
  intro q_x q_nt q_en q_ba q_de q_rw q_nm q_rv q_hd q_lk q_rg n t w r L how hpre0 hpre1
  have vw := vv n t w r L how hpre0 hpre1
  refine Met.ofW (cc := cX5_fails) (maxL := 4) (ret := (some .int)) (by decide) rfl ?_
  intro zp ze zs zm zargs zbelow zmeth zc zs1 B hml hv
  obtain ⟨rfl, hZ, hP⟩ := hv
  have hx := B.exec
  have hb := B.bytes
  have hr := B.returns
  have hts := atoms_spec (ws := wsX5_fails) B.pre
  have hown : zs.vm.findClass RX5 = some zm.cls := findClass_of_methodNamed B.named
  have hlocks := B.notSynchronized
  have hP : va_P D vwCl [(q_x, .inr (5, [.ref q_nt, .ref q_rw, .ref q_rv, .ref q_hd, .ref q_lk, .ref q_rg])), (q_nt, .inr (2, [.ref q_en, .ref q_ba, .ref q_de, .int (nI n), .int (nI (prs t))])), (q_en, .inl (cI, 32, .inl (aE t))), (q_ba, .inl (cZ, 32, .inl (aB w))), (q_de, .inl (cI, 8, .inl (aN (dg t)))), (q_rw, .inr (4, [.ref q_nm, .int (nI L)])), (q_nm, .inl (cI, 40, .inl (aN r)))] zs.heap := hP
  have hl := lv_entry ([.ref q_x, .int how]) (n := 4) (Nat.le_of_ble_eq_true rfl)
  rw [lg_entry_eq]
  generalize (lg_sl ([.ref q_x, .int how]) ++ List.replicate (4 - (lg_sl ([.ref q_x, .int how])).length) Slot.unset).toArray = ls at hl ⊢
  have hl : lv_has ls 4 [(0, .ref q_x), (1, .int how)] := hl
  obtain ⟨X27, hX27⟩ : ∃ X : Nat → Nat → Prop, ∀ (v2 : Nat) (v3 : Nat), X v2 v3 ↔ (∀ ls : Array Slot, lv_has ls 4 [(0, .ref q_x), (1, .int how), (2, .int (nI v2)), (3, .int (nI v3))] → W zp l ze (headSpec wsX5_fails ({ frames := 5, cells := 0, slots := 0, locals := 118 } : Room)).room zs zm ([.ref q_x, .int how] : List Value).toArray zbelow zmeth zc zs.heap [] 0 0 (MQ zbelow (vp_Si (fun zr : Int32 => zr = faA n t w r L how)) ([.ref q_x, .int how] : List Value).toArray zs 0 0 (fun _ => False)) (F0 zm 27 ls [])) := ⟨_, fun _ _ => Iff.rfl⟩
  have b27 : ∀ (v2 : Nat) (v3 : Nat), B_X5_fails_27 n t w r L how X27 v2 v3 → X27 v2 v3 := by
    intro v2 v3 hw
    rw [hX27]
    intro ls hl
    unfold B_X5_fails_27 at hw
    refine lv_iload_n hx hb dX5_fails_27 rfl (lv_at hl 3 rfl) ?_
    refine lv_aload_n hx hb dX5_fails_28 rfl (lv_at hl 0 rfl) ?_
    refine va_get (D := D) (ci := 5) (v := .ref q_nt) (C := RX5) (T := TX5) (N := 6) hx hb hts i_X5_fails_X5 hown hZ.1 hP 0 rfl rfl 0 (by decide) (hts _ m_X5_fails_f10) (fun _ h9 => h9) rfl dX5_fails_29 ?_
    refine va_get (D := D) (ci := 2) (v := .int (nI n)) (C := RX2) (T := TX2) (N := 5) hx hb hts i_X5_fails_X2 hown hZ.1 hP 1 rfl rfl 3 (by decide) (hts _ m_X5_fails_f49) (fun _ h9 => h9) rfl dX5_fails_32 ?_
    obtain ⟨zh1, hw⟩ := hw
    obtain ⟨zh2, hw⟩ := hw
    obtain ⟨hwt, hwf⟩ := hw
    refine z_icmp_ge hx hb zh1 zh2 (tgt := 61) dX5_fails_35 (by decide) (fun cc => ?_) (fun cc => ?_)
    · replace hw := hwt cc
      refine lv_iload_n hx hb dX5_fails_61 rfl (lv_at hl 2 rfl) ?_
      have er := hw
      exact W.iret (v := nI v2) hx hb hr (fun t ht hW => ⟨_, rfl, er, ht⟩) (fun _ h => by cases h) dX5_fails_62
    · replace hw := hwf cc
      refine lv_aload_n hx hb dX5_fails_38 rfl (lv_at hl 0 rfl) ?_
      refine lv_iload_n hx hb dX5_fails_39 rfl (lv_at hl 3 rfl) ?_
      refine lv_iload_n hx hb dX5_fails_40 rfl (lv_at hl 1 rfl) ?_
      obtain ⟨zk3, ezk3, hw⟩ := hw
      refine z_st (st' := [.int (nI zk3), .int (nI v3), .ref q_x]) (by rw [ezk3]) ?_
      obtain ⟨zh4, hw⟩ := hw
      obtain ⟨zh5, hw⟩ := hw
      obtain ⟨zh6, hw⟩ := hw
      obtain ⟨zh7, hw⟩ := hw
      have hPc : va_P D vwCl [(q_x, .inr (5, [.ref q_nt, .ref q_rw, .ref q_rv, .ref q_hd, .ref q_lk, .ref q_rg])), (q_nt, .inr (2, [.ref q_en, .ref q_ba, .ref q_de, .int (nI n), .int (nI (prs t))])), (q_en, .inl (cI, 32, .inl (aE t))), (q_ba, .inl (cZ, 32, .inl (aB w))), (q_de, .inl (cI, 8, .inl (aN (dg t)))), (q_rw, .inr (4, [.ref q_nm, .int (nI L)])), (q_nm, .inl (cI, 40, .inl (aN r)))] zs.heap := hP.sub [0, 1, 2, 3, 4, 5, 6] rfl
      refine z_ro (va_runV (As := [.int (nI v3), .int (nI zk3)]) (rest := []) ⟨hx, hb, hml, hown, hts⟩ (k_X5_stepsToAll q_x q_nt q_en q_ba q_de q_rw q_nm q_rv q_hd q_lk q_rg n t w r L v3 zk3 zh4 zh5 zh6 zh7) (cwV 2 hts gX5_fails_X5_stepsToAll rfl rfl rfl (by decide +kernel) ⟨Nat.le_of_ble_eq_true rfl, Nat.le_of_ble_eq_true rfl⟩) (zPr_V hZ hPc 0 rfl rfl) rfl rfl hl.1 rfl (lv_room (Nat.le_of_ble_eq_true rfl)) dX5_fails_41 ⟨Nat.zero_le _, Nat.zero_le _⟩) (fun zr8 hzr8 => ?_)
      have ez := hzr8
      rw [ez]
      clear ez hzr8
      refine lv_bipush (v := (-6)) hx hb dX5_fails_44 (by decide +kernel) ?_
      obtain ⟨hwt, hwf⟩ := hw
      refine lv_icmp_ne hx hb (tgt := 55) dX5_fails_46 (by decide) (fun cc => ?_) (fun cc => ?_)
      · replace hw := hwt cc
        refine lv_iinc (v := nI (v3 + 1)) (lv' := [(3, .int (nI (v3 + 1))), (0, .ref q_x), (1, .int how), (2, .int (nI v2))]) hx hb dX5_fails_55 hl (k := 3) rfl (by rw [show Int32.ofInt 1 = nI 1 from by decide +kernel]; exact nI_add _ _) (by decide) rfl (fun ls hl => ?_)
        refine lv_goto (tgt := 27) hx hb dX5_fails_58 (by decide) ?_
        exact ((hX27 _ _).mp hw) ls (lv_sub hl [1, 2, 3, 0] rfl)
      · replace hw := hwf cc
        refine lv_iload_n hx hb dX5_fails_49 rfl (lv_at hl 2 rfl) ?_
        refine lv_iconst (v := nI 1) hx hb dX5_fails_50 (by decide +kernel) ?_
        refine lv_iload_n hx hb dX5_fails_51 rfl (lv_at hl 3 rfl) ?_
        obtain ⟨zh9, hw⟩ := hw
        refine z_ishl hx hb (n_shl _ zh9) dX5_fails_52 ?_
        refine z_ior hx hb (n_or _ _) dX5_fails_53 ?_
        obtain ⟨zx10, ezx10⟩ : ∃ zx10 : Nat, zx10 = v2 ||| (1 <<< v3) := ⟨_, rfl⟩
        replace hw := hw zx10 ezx10
        refine z_st (st' := [.int (nI zx10)]) (by rw [ezx10]) ?_
        refine lv_istore_n (lv' := [(2, .int (nI zx10)), (0, .ref q_x), (1, .int how), (3, .int (nI v3))]) hx hb dX5_fails_54 rfl hl (by decide) rfl (fun ls hl => ?_)
        refine lv_iinc (v := nI (v3 + 1)) (lv' := [(3, .int (nI (v3 + 1))), (2, .int (nI zx10)), (0, .ref q_x), (1, .int how)]) hx hb dX5_fails_55 hl (k := 3) rfl (by rw [show Int32.ofInt 1 = nI 1 from by decide +kernel]; exact nI_add _ _) (by decide) rfl (fun ls hl => ?_)
        refine lv_goto (tgt := 27) hx hb dX5_fails_58 (by decide) ?_
        exact ((hX27 _ _).mp hw) ls (lv_sub hl [2, 3, 1, 0] rfl)
  have hw := vw X27 b27
  unfold B_X5_fails_in at hw
  refine lv_iload_n hx hb dX5_fails_0 rfl (lv_at hl 1 rfl) ?_
  have hPc : va_P D vwCl [] zs.heap := hP.sub [] rfl
  refine z_ro (va_runS (As := [.int how]) (rest := []) ⟨hx, hb, hml, hown, hts⟩ (k_X5_isHow how) (va_cwS 1 hts gX5_fails_X5_isHow rfl rfl rfl (by decide +kernel) ⟨Nat.le_of_ble_eq_true rfl, Nat.le_of_ble_eq_true rfl⟩) (zPr_S hZ hPc) rfl rfl hl.1 rfl (lv_room (Nat.le_of_ble_eq_true rfl)) dX5_fails_1 ⟨Nat.zero_le _, Nat.zero_le _⟩) (fun zr11 hzr11 => ?_)
  have ez := hzr11
  rw [ez]
  clear ez hzr11
  obtain ⟨hwt, hwf⟩ := hw
  refine z_if_neb hx hb (tgt := 10) dX5_fails_4 (by decide) (fun cc => ?_) (fun cc => ?_)
  · replace hw := hwt cc
    refine lv_aload_n hx hb dX5_fails_10 rfl (lv_at hl 0 rfl) ?_
    refine va_get (D := D) (ci := 5) (v := .ref q_nt) (C := RX5) (T := TX5) (N := 6) hx hb hts i_X5_fails_X5 hown hZ.1 hP 0 rfl rfl 0 (by decide) (hts _ m_X5_fails_f10) (fun _ h9 => h9) rfl dX5_fails_11 ?_
    obtain ⟨zh12, hw⟩ := hw
    have hPc : va_P D vwCl [(q_nt, .inr (2, [.ref q_en, .ref q_ba, .ref q_de, .int (nI n), .int (nI (prs t))])), (q_en, .inl (cI, 32, .inl (aE t))), (q_ba, .inl (cZ, 32, .inl (aB w))), (q_de, .inl (cI, 8, .inl (aN (dg t))))] zs.heap := hP.sub [1, 2, 3, 4] rfl
    refine z_ro (va_runV (As := []) (rest := []) ⟨hx, hb, hml, hown, hts⟩ (k_X2_isReady q_nt q_en q_ba q_de n t w zh12) (cwV 0 hts gX5_fails_X2_isReady rfl rfl rfl (by decide +kernel) ⟨Nat.le_of_ble_eq_true rfl, Nat.le_of_ble_eq_true rfl⟩) (zPr_V hZ hPc 0 rfl rfl) rfl rfl hl.1 rfl (lv_room (Nat.le_of_ble_eq_true rfl)) dX5_fails_14 ⟨Nat.zero_le _, Nat.zero_le _⟩) (fun zr13 hzr13 => ?_)
    have ez := hzr13
    rw [ez]
    clear ez hzr13
    obtain ⟨hwt, hwf⟩ := hw
    refine z_if_neb hx hb (tgt := 23) dX5_fails_17 (by decide) (fun cc => ?_) (fun cc => ?_)
    · replace hw := hwt cc
      refine lv_iconst (v := nI 0) hx hb dX5_fails_23 (by decide +kernel) ?_
      refine lv_istore_n (lv' := [(2, .int (nI 0)), (0, .ref q_x), (1, .int how)]) hx hb dX5_fails_24 rfl hl (by decide) rfl (fun ls hl => ?_)
      refine lv_iconst (v := nI 0) hx hb dX5_fails_25 (by decide +kernel) ?_
      refine lv_istore_n (lv' := [(3, .int (nI 0)), (2, .int (nI 0)), (0, .ref q_x), (1, .int how)]) hx hb dX5_fails_26 rfl hl (by decide) rfl (fun ls hl => ?_)
      exact ((hX27 _ _).mp hw) ls (lv_sub hl [2, 3, 1, 0] rfl)
    · replace hw := hwf cc
      refine lv_bipush (v := (-3)) hx hb dX5_fails_20 (by decide +kernel) ?_
      have er := hw
      exact W.iret (v := (-3)) hx hb hr (fun t ht hW => ⟨_, rfl, er, ht⟩) (fun _ h => by cases h) dX5_fails_22
  · replace hw := hwf cc
    refine lv_bipush (v := (-2)) hx hb dX5_fails_7 (by decide +kernel) ?_
    have er := hw
    exact W.iret (v := (-2)) hx hb hr (fun t ht hW => ⟨_, rfl, er, ht⟩) (fun _ h => by cases h) dX5_fails_9
theorem m_X5_sent_f10 : Cond.fieldLink RX5 10 "NetWalkers" "net" "LNetWalkers$Net;" ∈ wsX5_sent := by decide +kernel
theorem i_X5_sent_X5 : ∀ w ∈ wsX50, w ∈ wsX5_sent := by decide +kernel
theorem m_X5_sent_f31 : Cond.fieldLink RX5 31 "NetWalkers" "hands" "LNetWalkers$Hands;" ∈ wsX5_sent := by decide +kernel
set_option maxRecDepth 100000 in
set_option maxHeartbeats 4000000 in
theorem w_X5_sent {l : Launch} {D : va_G} {cI cZ : ClassId} (k_X2_hasPost : K_X2_hasPost l D cI cZ) (k_X2_isReady : K_X2_isReady l D cI cZ) (k_X0_ringLength : K_X0_ringLength l D cI cZ) (k_X0_stepsAhead : K_X0_stepsAhead l D cI cZ) (k_X0_stepsToAll : K_X0_stepsToAll l D cI cZ) (vv : V_X5_sent) : K_X5_sent l D cI cZ := by
  intro q_x q_nt q_en q_ba q_de q_hd q_rw q_rv q_lk q_rg n t w p what hpre0
  have vw := vv n t w p what hpre0
  refine Met.ofW (cc := cX5_sent) (maxL := 5) (ret := (some .int)) (by decide) rfl ?_
  intro zp ze zs zm zargs zbelow zmeth zc zs1 B hml hv
  obtain ⟨rfl, hZ, hP⟩ := hv
  have hx := B.exec
  have hb := B.bytes
  have hr := B.returns
  have hts := atoms_spec (ws := wsX5_sent) B.pre
  have hown : zs.vm.findClass RX5 = some zm.cls := findClass_of_methodNamed B.named
  have hlocks := B.notSynchronized
  have hP : va_P D vwCl [(q_x, .inr (5, [.ref q_nt, .ref q_rw, .ref q_rv, .ref q_hd, .ref q_lk, .ref q_rg])), (q_nt, .inr (2, [.ref q_en, .ref q_ba, .ref q_de, .int (nI n), .int (nI (prs t))])), (q_en, .inl (cI, 32, .inl (aE t))), (q_ba, .inl (cZ, 32, .inl (aB w))), (q_de, .inl (cI, 8, .inl (aN (dg t)))), (q_hd, .inr (0, [.ref q_nt]))] zs.heap := hP
  have hl := lv_entry ([.ref q_x, .int p, .int what]) (n := 5) (Nat.le_of_ble_eq_true rfl)
  rw [lg_entry_eq]
  generalize (lg_sl ([.ref q_x, .int p, .int what]) ++ List.replicate (5 - (lg_sl ([.ref q_x, .int p, .int what])).length) Slot.unset).toArray = ls at hl ⊢
  have hl : lv_has ls 5 [(0, .ref q_x), (1, .int p), (2, .int what)] := hl
  have hw := vw
  unfold B_X5_sent_in at hw
  refine lv_aload_n hx hb dX5_sent_0 rfl (lv_at hl 0 rfl) ?_
  refine va_get (D := D) (ci := 5) (v := .ref q_nt) (C := RX5) (T := TX5) (N := 6) hx hb hts i_X5_sent_X5 hown hZ.1 hP 0 rfl rfl 0 (by decide) (hts _ m_X5_sent_f10) (fun _ h9 => h9) rfl dX5_sent_1 ?_
  refine lv_iload_n hx hb dX5_sent_4 rfl (lv_at hl 1 rfl) ?_
  have hPc : va_P D vwCl [(q_nt, .inr (2, [.ref q_en, .ref q_ba, .ref q_de, .int (nI n), .int (nI (prs t))])), (q_en, .inl (cI, 32, .inl (aE t))), (q_ba, .inl (cZ, 32, .inl (aB w))), (q_de, .inl (cI, 8, .inl (aN (dg t))))] zs.heap := hP.sub [1, 2, 3, 4] rfl
  refine z_ro (va_runV (As := [.int p]) (rest := []) ⟨hx, hb, hml, hown, hts⟩ (k_X2_hasPost q_nt q_en q_ba q_de n t w p) (cwV 1 hts gX5_sent_X2_hasPost rfl rfl rfl (by decide +kernel) ⟨Nat.le_of_ble_eq_true rfl, Nat.le_of_ble_eq_true rfl⟩) (zPr_V hZ hPc 0 rfl rfl) rfl rfl hl.1 rfl (lv_room (Nat.le_of_ble_eq_true rfl)) dX5_sent_5 ⟨Nat.zero_le _, Nat.zero_le _⟩) (fun zr1 hzr1 => ?_)
  have ez := hzr1
  rw [ez]
  clear ez hzr1
  obtain ⟨hwt, hwf⟩ := hw
  refine z_if_neb hx hb (tgt := 13) dX5_sent_8 (by decide) (fun cc => ?_) (fun cc => ?_)
  · replace hw := hwt cc
    refine lv_iload_n hx hb dX5_sent_13 rfl (lv_at hl 2 rfl) ?_
    obtain ⟨hwt, hwf⟩ := hw
    refine lv_if_lt hx hb (tgt := 22) dX5_sent_14 (by decide) (fun cc => ?_) (fun cc => ?_)
    · replace hw := hwt cc
      refine lv_bipush (v := (-2)) hx hb dX5_sent_22 (by decide +kernel) ?_
      obtain ⟨y, po0, er⟩ := hw
      exact W.iret (v := (-2)) hx hb hr (fun t ht hW => ⟨_, rfl, ⟨y, po0, er⟩, ht⟩) (fun _ h => by cases h) dX5_sent_24
    · replace hw := hwf cc
      refine lv_iload_n hx hb dX5_sent_17 rfl (lv_at hl 2 rfl) ?_
      refine lv_iconst (v := nI 2) hx hb dX5_sent_18 (by decide +kernel) ?_
      obtain ⟨hwt, hwf⟩ := hw
      refine lv_icmp_le hx hb (tgt := 25) dX5_sent_19 (by decide) (fun cc => ?_) (fun cc => ?_)
      · replace hw := hwt cc
        refine lv_aload_n hx hb dX5_sent_25 rfl (lv_at hl 0 rfl) ?_
        refine va_get (D := D) (ci := 5) (v := .ref q_nt) (C := RX5) (T := TX5) (N := 6) hx hb hts i_X5_sent_X5 hown hZ.1 hP 0 rfl rfl 0 (by decide) (hts _ m_X5_sent_f10) (fun _ h9 => h9) rfl dX5_sent_26 ?_
        obtain ⟨zh2, hw⟩ := hw
        have hPc : va_P D vwCl [(q_nt, .inr (2, [.ref q_en, .ref q_ba, .ref q_de, .int (nI n), .int (nI (prs t))])), (q_en, .inl (cI, 32, .inl (aE t))), (q_ba, .inl (cZ, 32, .inl (aB w))), (q_de, .inl (cI, 8, .inl (aN (dg t))))] zs.heap := hP.sub [1, 2, 3, 4] rfl
        refine z_ro (va_runV (As := []) (rest := []) ⟨hx, hb, hml, hown, hts⟩ (k_X2_isReady q_nt q_en q_ba q_de n t w zh2) (cwV 0 hts gX5_sent_X2_isReady rfl rfl rfl (by decide +kernel) ⟨Nat.le_of_ble_eq_true rfl, Nat.le_of_ble_eq_true rfl⟩) (zPr_V hZ hPc 0 rfl rfl) rfl rfl hl.1 rfl (lv_room (Nat.le_of_ble_eq_true rfl)) dX5_sent_29 ⟨Nat.zero_le _, Nat.zero_le _⟩) (fun zr3 hzr3 => ?_)
        have ez := hzr3
        rw [ez]
        clear ez hzr3
        obtain ⟨hwt, hwf⟩ := hw
        refine z_if_neb hx hb (tgt := 38) dX5_sent_32 (by decide) (fun cc => ?_) (fun cc => ?_)
        · replace hw := hwt cc
          refine lv_iload_n hx hb dX5_sent_38 rfl (lv_at hl 2 rfl) ?_
          obtain ⟨hwt, hwf⟩ := hw
          refine lv_if_ne hx hb (tgt := 51) dX5_sent_39 (by decide) (fun cc => ?_) (fun cc => ?_)
          · replace hw := hwt cc
            refine lv_aload_n hx hb dX5_sent_51 rfl (lv_at hl 0 rfl) ?_
            refine va_get (D := D) (ci := 5) (v := .ref q_hd) (C := RX5) (T := TX5) (N := 6) hx hb hts i_X5_sent_X5 hown hZ.1 hP 0 rfl rfl 3 (by decide) (hts _ m_X5_sent_f31) (fun _ h9 => h9) rfl dX5_sent_52 ?_
            refine lv_iload_n hx hb dX5_sent_55 rfl (lv_at hl 1 rfl) ?_
            obtain ⟨zk4, ezk4, hw⟩ := hw
            refine z_st (st' := [.int (nI zk4), .ref q_hd]) (by rw [ezk4]) ?_
            obtain ⟨zh5, hw⟩ := hw
            obtain ⟨zh6, hw⟩ := hw
            obtain ⟨zh7, hw⟩ := hw
            have hPc : va_P D vwCl [(q_hd, .inr (0, [.ref q_nt])), (q_nt, .inr (2, [.ref q_en, .ref q_ba, .ref q_de, .int (nI n), .int (nI (prs t))])), (q_en, .inl (cI, 32, .inl (aE t))), (q_ba, .inl (cZ, 32, .inl (aB w))), (q_de, .inl (cI, 8, .inl (aN (dg t))))] zs.heap := hP.sub [5, 1, 2, 3, 4] rfl
            refine z_ro (va_runV (As := [.int (nI zk4)]) (rest := []) ⟨hx, hb, hml, hown, hts⟩ (k_X0_ringLength q_hd q_nt q_en q_ba q_de n t w zk4 zh5 zh6 zh7) (cwV 1 hts gX5_sent_X0_ringLength rfl rfl rfl (by decide +kernel) ⟨Nat.le_of_ble_eq_true rfl, Nat.le_of_ble_eq_true rfl⟩) (zPr_V hZ hPc 0 rfl rfl) rfl rfl hl.1 rfl (lv_room (Nat.le_of_ble_eq_true rfl)) dX5_sent_56 ⟨Nat.zero_le _, Nat.zero_le _⟩) (fun zr10 hzr10 => ?_)
            obtain ⟨zy8, zp9, ez⟩ := hzr10
            replace hw := hw zy8 zp9
            rw [ez]
            clear ez
            refine lv_istore_n (lv' := [(3, .int zy8), (0, .ref q_x), (1, .int p), (2, .int what)]) hx hb dX5_sent_59 rfl hl (by decide) rfl (fun ls hl => ?_)
            refine lv_iload_n hx hb dX5_sent_60 rfl (lv_at hl 0 rfl) ?_
            refine lv_bipush (v := (-7)) hx hb dX5_sent_61 (by decide +kernel) ?_
            obtain ⟨hwt, hwf⟩ := hw
            refine lv_icmp_ne hx hb (tgt := 69) dX5_sent_63 (by decide) (fun cc => ?_) (fun cc => ?_)
            · replace hw := hwt cc
              refine lv_aload_n hx hb dX5_sent_69 rfl (lv_at hl 1 rfl) ?_
              refine va_get (D := D) (ci := 5) (v := .ref q_hd) (C := RX5) (T := TX5) (N := 6) hx hb hts i_X5_sent_X5 hown hZ.1 hP 0 rfl rfl 3 (by decide) (hts _ m_X5_sent_f31) (fun _ h9 => h9) rfl dX5_sent_70 ?_
              refine lv_iload_n hx hb dX5_sent_73 rfl (lv_at hl 2 rfl) ?_
              refine lv_iload_n hx hb dX5_sent_74 rfl (lv_at hl 0 rfl) ?_
              obtain ⟨zk11, ezk11, hw⟩ := hw
              refine z_st (st' := [.int zy8, .int (nI zk11), .ref q_hd]) (by rw [ezk11]) ?_
              obtain ⟨zk12, ezk12, hw⟩ := hw
              refine z_st (st' := [.int (nI zk12), .int (nI zk11), .ref q_hd]) (by rw [ezk12]) ?_
              obtain ⟨zh13, hw⟩ := hw
              obtain ⟨zh14, hw⟩ := hw
              obtain ⟨zh15, hw⟩ := hw
              obtain ⟨zh16, hw⟩ := hw
              obtain ⟨zh17, hw⟩ := hw
              have hPc : va_P D vwCl [(q_hd, .inr (0, [.ref q_nt])), (q_nt, .inr (2, [.ref q_en, .ref q_ba, .ref q_de, .int (nI n), .int (nI (prs t))])), (q_en, .inl (cI, 32, .inl (aE t))), (q_ba, .inl (cZ, 32, .inl (aB w))), (q_de, .inl (cI, 8, .inl (aN (dg t))))] zs.heap := hP.sub [5, 1, 2, 3, 4] rfl
              refine z_ro (va_runV (As := [.int (nI zk11), .int (nI zk12)]) (rest := []) ⟨hx, hb, hml, hown, hts⟩ (k_X0_stepsAhead q_hd q_nt q_en q_ba q_de n t w zk11 zk12 zh13 zh14 zh15 zh16 zh17) (cwV 2 hts gX5_sent_X0_stepsAhead rfl rfl rfl (by decide +kernel) ⟨Nat.le_of_ble_eq_true rfl, Nat.le_of_ble_eq_true rfl⟩) (zPr_V hZ hPc 0 rfl rfl) rfl rfl hl.1 rfl (lv_room (Nat.le_of_ble_eq_true rfl)) dX5_sent_75 ⟨Nat.zero_le _, Nat.zero_le _⟩) (fun zr20 hzr20 => ?_)
              obtain ⟨zy18, zp19, ez⟩ := hzr20
              replace hw := hw zy18 zp19
              rw [ez]
              clear ez
              refine lv_istore (lv' := [(4, .int zy18), (3, .int zy8), (0, .ref q_x), (1, .int p), (2, .int what)]) hx hb dX5_sent_78 hl (by decide) rfl (fun ls hl => ?_)
              refine lv_iload_n hx hb dX5_sent_80 rfl (lv_at hl 4 rfl) ?_
              refine lv_iconst (v := nI 1) hx hb dX5_sent_81 (by decide +kernel) ?_
              obtain ⟨hwt, hwf⟩ := hw
              refine lv_icmp_eq hx hb (tgt := 92) dX5_sent_82 (by decide) (fun cc => ?_) (fun cc => ?_)
              · replace hw := hwt cc
                refine lv_iload hx hb dX5_sent_92 (lv_at hl 0 rfl) ?_
                refine lv_goto (tgt := 98) hx hb dX5_sent_94 (by decide) ?_
                obtain ⟨y, po0, er⟩ := hw
                exact W.iret (v := zy18) hx hb hr (fun t ht hW => ⟨_, rfl, ⟨y, po0, er⟩, ht⟩) (fun _ h => by cases h) dX5_sent_98
              · replace hw := hwf cc
                refine lv_iload hx hb dX5_sent_85 (lv_at hl 0 rfl) ?_
                refine lv_bipush (v := (-7)) hx hb dX5_sent_87 (by decide +kernel) ?_
                obtain ⟨hwt, hwf⟩ := hw
                refine lv_icmp_ne hx hb (tgt := 97) dX5_sent_89 (by decide) (fun cc => ?_) (fun cc => ?_)
                · replace hw := hwt cc
                  refine lv_iload_n hx hb dX5_sent_97 rfl (lv_at hl 1 rfl) ?_
                  obtain ⟨y, po0, er⟩ := hw
                  exact W.iret (v := zy8) hx hb hr (fun t ht hW => ⟨_, rfl, ⟨y, po0, er⟩, ht⟩) (fun _ h => by cases h) dX5_sent_98
                · replace hw := hwf cc
                  refine lv_iload hx hb dX5_sent_92 (lv_at hl 0 rfl) ?_
                  refine lv_goto (tgt := 98) hx hb dX5_sent_94 (by decide) ?_
                  obtain ⟨y, po0, er⟩ := hw
                  exact W.iret (v := zy18) hx hb hr (fun t ht hW => ⟨_, rfl, ⟨y, po0, er⟩, ht⟩) (fun _ h => by cases h) dX5_sent_98
            · replace hw := hwf cc
              refine lv_bipush (v := (-7)) hx hb dX5_sent_66 (by decide +kernel) ?_
              obtain ⟨y, po0, er⟩ := hw
              exact W.iret (v := (-7)) hx hb hr (fun t ht hW => ⟨_, rfl, ⟨y, po0, er⟩, ht⟩) (fun _ h => by cases h) dX5_sent_68
          · replace hw := hwf cc
            refine lv_aload_n hx hb dX5_sent_42 rfl (lv_at hl 0 rfl) ?_
            refine va_get (D := D) (ci := 5) (v := .ref q_hd) (C := RX5) (T := TX5) (N := 6) hx hb hts i_X5_sent_X5 hown hZ.1 hP 0 rfl rfl 3 (by decide) (hts _ m_X5_sent_f31) (fun _ h9 => h9) rfl dX5_sent_43 ?_
            refine lv_iload_n hx hb dX5_sent_46 rfl (lv_at hl 1 rfl) ?_
            obtain ⟨zk21, ezk21, hw⟩ := hw
            refine z_st (st' := [.int (nI zk21), .ref q_hd]) (by rw [ezk21]) ?_
            obtain ⟨zh22, hw⟩ := hw
            obtain ⟨zh23, hw⟩ := hw
            obtain ⟨zh24, hw⟩ := hw
            have hPc : va_P D vwCl [(q_hd, .inr (0, [.ref q_nt])), (q_nt, .inr (2, [.ref q_en, .ref q_ba, .ref q_de, .int (nI n), .int (nI (prs t))])), (q_en, .inl (cI, 32, .inl (aE t))), (q_ba, .inl (cZ, 32, .inl (aB w))), (q_de, .inl (cI, 8, .inl (aN (dg t))))] zs.heap := hP.sub [5, 1, 2, 3, 4] rfl
            refine z_ro (va_runV (As := [.int (nI zk21)]) (rest := []) ⟨hx, hb, hml, hown, hts⟩ (k_X0_stepsToAll q_hd q_nt q_en q_ba q_de n t w zk21 zh22 zh23 zh24) (cwV 1 hts gX5_sent_X0_stepsToAll rfl rfl rfl (by decide +kernel) ⟨Nat.le_of_ble_eq_true rfl, Nat.le_of_ble_eq_true rfl⟩) (zPr_V hZ hPc 0 rfl rfl) rfl rfl hl.1 rfl (lv_room (Nat.le_of_ble_eq_true rfl)) dX5_sent_47 ⟨Nat.zero_le _, Nat.zero_le _⟩) (fun zr25 hzr25 => ?_)
            have ez := hzr25
            rw [ez]
            clear ez hzr25
            obtain ⟨y, po0, er⟩ := hw
            exact W.iret (v := saV n t w zk21) hx hb hr (fun t ht hW => ⟨_, rfl, ⟨y, po0, er⟩, ht⟩) (fun _ h => by cases h) dX5_sent_50
        · replace hw := hwf cc
          refine lv_bipush (v := (-3)) hx hb dX5_sent_35 (by decide +kernel) ?_
          obtain ⟨y, po0, er⟩ := hw
          exact W.iret (v := (-3)) hx hb hr (fun t ht hW => ⟨_, rfl, ⟨y, po0, er⟩, ht⟩) (fun _ h => by cases h) dX5_sent_37
      · replace hw := hwf cc
        refine lv_bipush (v := (-2)) hx hb dX5_sent_22 (by decide +kernel) ?_
        obtain ⟨y, po0, er⟩ := hw
        exact W.iret (v := (-2)) hx hb hr (fun t ht hW => ⟨_, rfl, ⟨y, po0, er⟩, ht⟩) (fun _ h => by cases h) dX5_sent_24
  · replace hw := hwf cc
    refine lv_iconst (v := (-1)) hx hb dX5_sent_11 (by decide +kernel) ?_
    obtain ⟨y, po0, er⟩ := hw
    exact W.iret (v := (-1)) hx hb hr (fun t ht hW => ⟨_, rfl, ⟨y, po0, er⟩, ht⟩) (fun _ h => by cases h) dX5_sent_12
theorem m_X5_next_f10 : Cond.fieldLink RX5 10 "NetWalkers" "net" "LNetWalkers$Net;" ∈ wsX5_next := by decide +kernel
theorem i_X5_next_X5 : ∀ w ∈ wsX50, w ∈ wsX5_next := by decide +kernel
set_option maxRecDepth 100000 in
set_option maxHeartbeats 4000000 in
theorem w_X5_next {l : Launch} {D : va_G} {cI cZ : ClassId} (k_X2_walkOn : K_X2_walkOn l D cI cZ) (k_X5_postOf : K_X5_postOf l D cI cZ) (k_X2_hasPost : K_X2_hasPost l D cI cZ) (k_X2_isReady : K_X2_isReady l D cI cZ) (k_X5_placeOf : K_X5_placeOf l D cI cZ) (vv : V_X5_next) : K_X5_next l D cI cZ := by
  intro q_x q_nt q_en q_ba q_de q_rw q_rv q_hd q_lk q_rg n t w p hpre0
  have vw := vv n t w p hpre0
  refine Met.ofW (cc := cX5_next) (maxL := 5) (ret := (some .int)) (by decide) rfl ?_
  intro zp ze zs zm zargs zbelow zmeth zc zs1 B hml hv
  obtain ⟨rfl, hZ, hP⟩ := hv
  have hx := B.exec
  have hb := B.bytes
  have hr := B.returns
  have hts := atoms_spec (ws := wsX5_next) B.pre
  have hown : zs.vm.findClass RX5 = some zm.cls := findClass_of_methodNamed B.named
  have hlocks := B.notSynchronized
  have hP : va_P D vwCl [(q_x, .inr (5, [.ref q_nt, .ref q_rw, .ref q_rv, .ref q_hd, .ref q_lk, .ref q_rg])), (q_nt, .inr (2, [.ref q_en, .ref q_ba, .ref q_de, .int (nI n), .int (nI (prs t))])), (q_en, .inl (cI, 32, .inl (aE t))), (q_ba, .inl (cZ, 32, .inl (aB w))), (q_de, .inl (cI, 8, .inl (aN (dg t))))] zs.heap := hP
  have hl := lv_entry ([.ref q_x, .int p]) (n := 5) (Nat.le_of_ble_eq_true rfl)
  rw [lg_entry_eq]
  generalize (lg_sl ([.ref q_x, .int p]) ++ List.replicate (5 - (lg_sl ([.ref q_x, .int p])).length) Slot.unset).toArray = ls at hl ⊢
  have hl : lv_has ls 5 [(0, .ref q_x), (1, .int p)] := hl
  obtain ⟨X39, hX39⟩ : ∃ X : Nat → Nat → Nat → Prop, ∀ (v2 : Nat) (v3 : Nat) (v4 : Nat), X v2 v3 v4 ↔ (∀ ls : Array Slot, lv_has ls 5 [(0, .ref q_x), (1, .int p), (2, .int (nI v2)), (3, .int (nI v3)), (4, .int (nI v4))] → W zp l ze (headSpec wsX5_next ({ frames := 3, cells := 0, slots := 0, locals := 69 } : Room)).room zs zm ([.ref q_x, .int p] : List Value).toArray zbelow zmeth zc zs.heap [] 0 0 (MQ zbelow (vp_Si (fun zr : Int32 => zr = neA n t w p)) ([.ref q_x, .int p] : List Value).toArray zs 0 0 (fun _ => False)) (F0 zm 39 ls [])) := ⟨_, fun _ _ _ => Iff.rfl⟩
  have b39 : ∀ (v2 : Nat) (v3 : Nat) (v4 : Nat), B_X5_next_39 n t w p X39 v2 v3 v4 → X39 v2 v3 v4 := by
    intro v2 v3 v4 hw
    rw [hX39]
    intro ls hl
    unfold B_X5_next_39 at hw
    refine lv_iload hx hb dX5_next_39 (lv_at hl 4 rfl) ?_
    refine lv_bipush (v := nI 32) hx hb dX5_next_41 (by decide +kernel) ?_
    obtain ⟨zh1, hw⟩ := hw
    obtain ⟨hwt, hwf⟩ := hw
    refine z_icmp_ge hx hb zh1 (by decide) (tgt := 72) dX5_next_43 (by decide) (fun cc => ?_) (fun cc => ?_)
    · replace hw := hwt cc
      refine lv_iload_n hx hb dX5_next_72 rfl (lv_at hl 3 rfl) ?_
      have er := hw
      exact W.iret (v := nI v3) hx hb hr (fun t ht hW => ⟨_, rfl, er, ht⟩) (fun _ h => by cases h) dX5_next_73
    · replace hw := hwf cc
      refine lv_aload_n hx hb dX5_next_46 rfl (lv_at hl 0 rfl) ?_
      refine va_get (D := D) (ci := 5) (v := .ref q_nt) (C := RX5) (T := TX5) (N := 6) hx hb hts i_X5_next_X5 hown hZ.1 hP 0 rfl rfl 0 (by decide) (hts _ m_X5_next_f10) (fun _ h9 => h9) rfl dX5_next_47 ?_
      refine lv_iload_n hx hb dX5_next_50 rfl (lv_at hl 2 rfl) ?_
      refine lv_iconst (v := nI 1) hx hb dX5_next_51 (by decide +kernel) ?_
      refine lv_iconst (v := nI 0) hx hb dX5_next_52 (by decide +kernel) ?_
      obtain ⟨zh2, hw⟩ := hw
      obtain ⟨zh3, hw⟩ := hw
      obtain ⟨zh4, hw⟩ := hw
      have hPc : va_P D vwCl [(q_nt, .inr (2, [.ref q_en, .ref q_ba, .ref q_de, .int (nI n), .int (nI (prs t))])), (q_en, .inl (cI, 32, .inl (aE t))), (q_ba, .inl (cZ, 32, .inl (aB w))), (q_de, .inl (cI, 8, .inl (aN (dg t))))] zs.heap := hP.sub [1, 2, 3, 4] rfl
      refine z_ro (va_runV (As := [.int (nI v2), .int (nI 1), .int (nI 0)]) (rest := []) ⟨hx, hb, hml, hown, hts⟩ (k_X2_walkOn q_nt q_en q_ba q_de n t w v2 1 0 zh2 zh3 zh4) (cwV 3 hts gX5_next_X2_walkOn rfl rfl rfl (by decide +kernel) ⟨Nat.le_of_ble_eq_true rfl, Nat.le_of_ble_eq_true rfl⟩) (zPr_V hZ hPc 0 rfl rfl) rfl rfl hl.1 rfl (lv_room (Nat.le_of_ble_eq_true rfl)) dX5_next_53 ⟨Nat.zero_le _, Nat.zero_le _⟩) (fun zr5 hzr5 => ?_)
      have ez := hzr5
      rw [ez]
      clear ez hzr5
      obtain ⟨zx6, ezx6⟩ : ∃ zx6 : Nat, zx6 = wk t w 0 v2 1 := ⟨_, rfl⟩
      replace hw := hw zx6 ezx6
      refine z_st (st' := [.int (nI zx6)]) (by rw [ezx6]) ?_
      refine lv_istore_n (lv' := [(2, .int (nI zx6)), (0, .ref q_x), (1, .int p), (3, .int (nI v3)), (4, .int (nI v4))]) hx hb dX5_next_56 rfl hl (by decide) rfl (fun ls hl => ?_)
      refine lv_iload_n hx hb dX5_next_57 rfl (lv_at hl 3 rfl) ?_
      refine lv_iconst (v := nI 1) hx hb dX5_next_58 (by decide +kernel) ?_
      refine lv_iload_n hx hb dX5_next_59 rfl (lv_at hl 0 rfl) ?_
      obtain ⟨zh7, hw⟩ := hw
      have hPc : va_P D vwCl [] zs.heap := hP.sub [] rfl
      refine z_ro (va_runS (As := [.int (nI zx6)]) (rest := [.int (nI 1), .int (nI v3)]) ⟨hx, hb, hml, hown, hts⟩ (k_X5_postOf zx6 zh7) (va_cwS 1 hts gX5_next_X5_postOf rfl rfl rfl (by decide +kernel) ⟨Nat.le_of_ble_eq_true rfl, Nat.le_of_ble_eq_true rfl⟩) (zPr_S hZ hPc) rfl rfl hl.1 rfl (lv_room (Nat.le_of_ble_eq_true rfl)) dX5_next_60 ⟨Nat.zero_le _, Nat.zero_le _⟩) (fun zr8 hzr8 => ?_)
      have ez := hzr8
      rw [ez]
      clear ez hzr8
      obtain ⟨zh9, hw⟩ := hw
      refine z_ishl hx hb (n_shl _ zh9) dX5_next_63 ?_
      refine z_ior hx hb (n_or _ _) dX5_next_64 ?_
      obtain ⟨zx10, ezx10⟩ : ∃ zx10 : Nat, zx10 = v3 ||| (1 <<< (zx6 / 4)) := ⟨_, rfl⟩
      replace hw := hw zx10 ezx10
      refine z_st (st' := [.int (nI zx10)]) (by rw [ezx10]) ?_
      refine lv_istore_n (lv' := [(3, .int (nI zx10)), (2, .int (nI zx6)), (0, .ref q_x), (1, .int p), (4, .int (nI v4))]) hx hb dX5_next_65 rfl hl (by decide) rfl (fun ls hl => ?_)
      refine lv_iinc (v := nI (v4 + 1)) (lv' := [(4, .int (nI (v4 + 1))), (3, .int (nI zx10)), (2, .int (nI zx6)), (0, .ref q_x), (1, .int p)]) hx hb dX5_next_66 hl (k := 4) rfl (by rw [show Int32.ofInt 1 = nI 1 from by decide +kernel]; exact nI_add _ _) (by decide) rfl (fun ls hl => ?_)
      refine lv_goto (tgt := 39) hx hb dX5_next_69 (by decide) ?_
      exact ((hX39 _ _ _).mp hw) ls (lv_sub hl [3, 4, 2, 1, 0] rfl)
  have hw := vw X39 b39
  unfold B_X5_next_in at hw
  refine lv_aload_n hx hb dX5_next_0 rfl (lv_at hl 0 rfl) ?_
  refine va_get (D := D) (ci := 5) (v := .ref q_nt) (C := RX5) (T := TX5) (N := 6) hx hb hts i_X5_next_X5 hown hZ.1 hP 0 rfl rfl 0 (by decide) (hts _ m_X5_next_f10) (fun _ h9 => h9) rfl dX5_next_1 ?_
  refine lv_iload_n hx hb dX5_next_4 rfl (lv_at hl 1 rfl) ?_
  have hPc : va_P D vwCl [(q_nt, .inr (2, [.ref q_en, .ref q_ba, .ref q_de, .int (nI n), .int (nI (prs t))])), (q_en, .inl (cI, 32, .inl (aE t))), (q_ba, .inl (cZ, 32, .inl (aB w))), (q_de, .inl (cI, 8, .inl (aN (dg t))))] zs.heap := hP.sub [1, 2, 3, 4] rfl
  refine z_ro (va_runV (As := [.int p]) (rest := []) ⟨hx, hb, hml, hown, hts⟩ (k_X2_hasPost q_nt q_en q_ba q_de n t w p) (cwV 1 hts gX5_next_X2_hasPost rfl rfl rfl (by decide +kernel) ⟨Nat.le_of_ble_eq_true rfl, Nat.le_of_ble_eq_true rfl⟩) (zPr_V hZ hPc 0 rfl rfl) rfl rfl hl.1 rfl (lv_room (Nat.le_of_ble_eq_true rfl)) dX5_next_5 ⟨Nat.zero_le _, Nat.zero_le _⟩) (fun zr11 hzr11 => ?_)
  have ez := hzr11
  rw [ez]
  clear ez hzr11
  obtain ⟨hwt, hwf⟩ := hw
  refine z_if_neb hx hb (tgt := 13) dX5_next_8 (by decide) (fun cc => ?_) (fun cc => ?_)
  · replace hw := hwt cc
    refine lv_aload_n hx hb dX5_next_13 rfl (lv_at hl 0 rfl) ?_
    refine va_get (D := D) (ci := 5) (v := .ref q_nt) (C := RX5) (T := TX5) (N := 6) hx hb hts i_X5_next_X5 hown hZ.1 hP 0 rfl rfl 0 (by decide) (hts _ m_X5_next_f10) (fun _ h9 => h9) rfl dX5_next_14 ?_
    obtain ⟨zh12, hw⟩ := hw
    have hPc : va_P D vwCl [(q_nt, .inr (2, [.ref q_en, .ref q_ba, .ref q_de, .int (nI n), .int (nI (prs t))])), (q_en, .inl (cI, 32, .inl (aE t))), (q_ba, .inl (cZ, 32, .inl (aB w))), (q_de, .inl (cI, 8, .inl (aN (dg t))))] zs.heap := hP.sub [1, 2, 3, 4] rfl
    refine z_ro (va_runV (As := []) (rest := []) ⟨hx, hb, hml, hown, hts⟩ (k_X2_isReady q_nt q_en q_ba q_de n t w zh12) (cwV 0 hts gX5_next_X2_isReady rfl rfl rfl (by decide +kernel) ⟨Nat.le_of_ble_eq_true rfl, Nat.le_of_ble_eq_true rfl⟩) (zPr_V hZ hPc 0 rfl rfl) rfl rfl hl.1 rfl (lv_room (Nat.le_of_ble_eq_true rfl)) dX5_next_17 ⟨Nat.zero_le _, Nat.zero_le _⟩) (fun zr13 hzr13 => ?_)
    have ez := hzr13
    rw [ez]
    clear ez hzr13
    obtain ⟨hwt, hwf⟩ := hw
    refine z_if_neb hx hb (tgt := 26) dX5_next_20 (by decide) (fun cc => ?_) (fun cc => ?_)
    · replace hw := hwt cc
      refine lv_iload_n hx hb dX5_next_26 rfl (lv_at hl 1 rfl) ?_
      refine lv_iconst (v := nI 0) hx hb dX5_next_27 (by decide +kernel) ?_
      obtain ⟨zk14, ezk14, hw⟩ := hw
      refine z_st (st' := [.int (nI 0), .int (nI zk14)]) (by rw [ezk14]) ?_
      have hPc : va_P D vwCl [] zs.heap := hP.sub [] rfl
      refine z_ro (va_runS (As := [.int (nI zk14), .int (nI 0)]) (rest := []) ⟨hx, hb, hml, hown, hts⟩ (k_X5_placeOf zk14 0) (va_cwS 2 hts gX5_next_X5_placeOf rfl rfl rfl (by decide +kernel) ⟨Nat.le_of_ble_eq_true rfl, Nat.le_of_ble_eq_true rfl⟩) (zPr_S hZ hPc) rfl rfl hl.1 rfl (lv_room (Nat.le_of_ble_eq_true rfl)) dX5_next_28 ⟨Nat.zero_le _, Nat.zero_le _⟩) (fun zr15 hzr15 => ?_)
      have ez := hzr15
      rw [ez]
      clear ez hzr15
      obtain ⟨zx16, ezx16⟩ : ∃ zx16 : Nat, zx16 = 4 * zk14 + 0 := ⟨_, rfl⟩
      replace hw := hw zx16 ezx16
      refine z_st (st' := [.int (nI zx16)]) (by rw [ezx16]) ?_
      refine lv_istore_n (lv' := [(2, .int (nI zx16)), (0, .ref q_x), (1, .int p)]) hx hb dX5_next_31 rfl hl (by decide) rfl (fun ls hl => ?_)
      refine lv_iconst (v := nI 1) hx hb dX5_next_32 (by decide +kernel) ?_
      refine lv_iload_n hx hb dX5_next_33 rfl (lv_at hl 2 rfl) ?_
      obtain ⟨zk17, ezk17, hw⟩ := hw
      refine z_st (st' := [.int (nI zk17), .int (nI 1)]) (by rw [ezk17]) ?_
      obtain ⟨zh18, hw⟩ := hw
      refine z_ishl hx hb (n_shl _ zh18) dX5_next_34 ?_
      obtain ⟨zx19, ezx19⟩ : ∃ zx19 : Nat, zx19 = 1 <<< zk17 := ⟨_, rfl⟩
      replace hw := hw zx19 ezx19
      refine z_st (st' := [.int (nI zx19)]) (by rw [ezx19]) ?_
      refine lv_istore_n (lv' := [(3, .int (nI zx19)), (2, .int (nI zx16)), (0, .ref q_x), (1, .int p)]) hx hb dX5_next_35 rfl hl (by decide) rfl (fun ls hl => ?_)
      refine lv_iconst (v := nI 0) hx hb dX5_next_36 (by decide +kernel) ?_
      refine lv_istore (lv' := [(4, .int (nI 0)), (3, .int (nI zx19)), (2, .int (nI zx16)), (0, .ref q_x), (1, .int p)]) hx hb dX5_next_37 hl (by decide) rfl (fun ls hl => ?_)
      exact ((hX39 _ _ _).mp hw) ls (lv_sub hl [3, 4, 2, 1, 0] rfl)
    · replace hw := hwf cc
      refine lv_bipush (v := (-3)) hx hb dX5_next_23 (by decide +kernel) ?_
      have er := hw
      exact W.iret (v := (-3)) hx hb hr (fun t ht hW => ⟨_, rfl, er, ht⟩) (fun _ h => by cases h) dX5_next_25
  · replace hw := hwf cc
    refine lv_iconst (v := (-1)) hx hb dX5_next_11 (by decide +kernel) ?_
    have er := hw
    exact W.iret (v := (-1)) hx hb hr (fun t ht hW => ⟨_, rfl, er, ht⟩) (fun _ h => by cases h) dX5_next_12
theorem m_X5_look_f10 : Cond.fieldLink RX5 10 "NetWalkers" "net" "LNetWalkers$Net;" ∈ wsX5_look := by decide +kernel
theorem i_X5_look_X5 : ∀ w ∈ wsX50, w ∈ wsX5_look := by decide +kernel
theorem m_X5_look_f38 : Cond.fieldLink RX5 38 "NetWalkers" "looks" "LNetWalkers$Looks;" ∈ wsX5_look := by decide +kernel
set_option maxRecDepth 100000 in
set_option maxHeartbeats 4000000 in
theorem w_X5_look {l : Launch} {D : va_G} {cI cZ : ClassId} (k_X2_hasPost : K_X2_hasPost l D cI cZ) (k_X5_isDepth : K_X5_isDepth l D cI cZ) (k_X2_isReady : K_X2_isReady l D cI cZ) (k_X1_lookTo : K_X1_lookTo l D cI cZ) (k_X1_kindOf : K_X1_kindOf l D cI cZ) (vv : V_X5_look) : K_X5_look l D cI cZ := by
  intro q_x q_nt q_en q_ba q_de q_lk q_kn q_fi q_rw q_rv q_hd q_rg sz n t w kd fi ct p d hpre0
  have vw := vv n t w kd fi ct p d hpre0
  refine Met.ofW (cc := cX5_look) (maxL := 3) (ret := (some .int)) (by decide) rfl ?_
  intro zp ze zs zm zargs zbelow zmeth zc zs1 B hml hv
  obtain ⟨rfl, hsz, hZ, hP, hD0⟩ := hv
  have hx := B.exec
  have hb := B.bytes
  have hr := B.returns
  have hts := atoms_spec (ws := wsX5_look) B.pre
  have hown : zs.vm.findClass RX5 = some zm.cls := findClass_of_methodNamed B.named
  have hlocks := B.notSynchronized
  subst hsz
  have hD := hD0.self (sz := zs.heap.size)
  generalize hAe : va_A [(q_x, .inr (5, [.ref q_nt, .ref q_rw, .ref q_rv, .ref q_hd, .ref q_lk, .ref q_rg])), (q_nt, .inr (2, [.ref q_en, .ref q_ba, .ref q_de, .int (nI n), .int (nI (prs t))])), (q_en, .inl (cI, 32, .inl (aE t))), (q_ba, .inl (cZ, 32, .inl (aB w))), (q_de, .inl (cI, 8, .inl (aN (dg t)))), (q_lk, .inr (1, [.ref q_nt, .ref q_kn, .ref q_fi, .int (nI ct)])), (q_kn, .inl (cI, 8, .inl (aN kd))), (q_fi, .inl (cI, 8, .inl (aN fi)))] zs.heap.size = A at hD ⊢
  have hA : ∀ q : Nat, zs.heap.size ≤ q → A q := fun q h => by rw [← hAe]; exact Or.inr h
  have hS : va_S A zs.heap zs.heap [] := va_S.rf
  have hP : va_P D vwCl [(q_x, .inr (5, [.ref q_nt, .ref q_rw, .ref q_rv, .ref q_hd, .ref q_lk, .ref q_rg])), (q_nt, .inr (2, [.ref q_en, .ref q_ba, .ref q_de, .int (nI n), .int (nI (prs t))])), (q_en, .inl (cI, 32, .inl (aE t))), (q_ba, .inl (cZ, 32, .inl (aB w))), (q_de, .inl (cI, 8, .inl (aN (dg t)))), (q_lk, .inr (1, [.ref q_nt, .ref q_kn, .ref q_fi, .int (nI ct)])), (q_kn, .inl (cI, 8, .inl (aN kd))), (q_fi, .inl (cI, 8, .inl (aN fi)))] zs.heap := hP
  have hl := lv_entry ([.ref q_x, .int p, .int d]) (n := 3) (Nat.le_of_ble_eq_true rfl)
  rw [lg_entry_eq]
  generalize (lg_sl ([.ref q_x, .int p, .int d]) ++ List.replicate (3 - (lg_sl ([.ref q_x, .int p, .int d])).length) Slot.unset).toArray = ls at hl ⊢
  have hl : lv_has ls 3 [(0, .ref q_x), (1, .int p), (2, .int d)] := hl
  have hw := vw
  unfold B_X5_look_in at hw
  refine lv_aload_n hx hb dX5_look_0 rfl (lv_at hl 0 rfl) ?_
  refine va_get (D := D) (ci := 5) (v := .ref q_nt) (C := RX5) (T := TX5) (N := 6) hx hb hts i_X5_look_X5 hown hZ.1 hP 0 rfl rfl 0 (by decide) (hts _ m_X5_look_f10) (fun _ h9 => h9) rfl dX5_look_1 ?_
  refine lv_iload_n hx hb dX5_look_4 rfl (lv_at hl 1 rfl) ?_
  have hPc : va_P D vwCl [(q_nt, .inr (2, [.ref q_en, .ref q_ba, .ref q_de, .int (nI n), .int (nI (prs t))])), (q_en, .inl (cI, 32, .inl (aE t))), (q_ba, .inl (cZ, 32, .inl (aB w))), (q_de, .inl (cI, 8, .inl (aN (dg t))))] zs.heap := hP.sub [1, 2, 3, 4] rfl
  refine z_ro (va_runV (As := [.int p]) (rest := []) ⟨hx, hb, hml, hown, hts⟩ (k_X2_hasPost q_nt q_en q_ba q_de n t w p) (cwV 1 hts gX5_look_X2_hasPost rfl rfl rfl (by decide +kernel) ⟨Nat.le_of_ble_eq_true rfl, Nat.le_of_ble_eq_true rfl⟩) (zPr_V hZ hPc 0 rfl rfl) rfl rfl hl.1 rfl (lv_room (Nat.le_of_ble_eq_true rfl)) dX5_look_5 ⟨Nat.zero_le _, Nat.zero_le _⟩) (fun zr1 hzr1 => ?_)
  have ez := hzr1
  rw [ez]
  clear ez hzr1
  obtain ⟨hwt, hwf⟩ := hw
  refine z_if_neb hx hb (tgt := 13) dX5_look_8 (by decide) (fun cc => ?_) (fun cc => ?_)
  · replace hw := hwt cc
    refine lv_iload_n hx hb dX5_look_13 rfl (lv_at hl 2 rfl) ?_
    have hPc : va_P D vwCl [] zs.heap := hP.sub [] rfl
    refine z_ro (va_runS (As := [.int d]) (rest := []) ⟨hx, hb, hml, hown, hts⟩ (k_X5_isDepth d) (va_cwS 1 hts gX5_look_X5_isDepth rfl rfl rfl (by decide +kernel) ⟨Nat.le_of_ble_eq_true rfl, Nat.le_of_ble_eq_true rfl⟩) (zPr_S hZ hPc) rfl rfl hl.1 rfl (lv_room (Nat.le_of_ble_eq_true rfl)) dX5_look_14 ⟨Nat.zero_le _, Nat.zero_le _⟩) (fun zr2 hzr2 => ?_)
    have ez := hzr2
    rw [ez]
    clear ez hzr2
    obtain ⟨hwt, hwf⟩ := hw
    refine z_if_neb hx hb (tgt := 23) dX5_look_17 (by decide) (fun cc => ?_) (fun cc => ?_)
    · replace hw := hwt cc
      refine lv_aload_n hx hb dX5_look_23 rfl (lv_at hl 0 rfl) ?_
      refine va_get (D := D) (ci := 5) (v := .ref q_nt) (C := RX5) (T := TX5) (N := 6) hx hb hts i_X5_look_X5 hown hZ.1 hP 0 rfl rfl 0 (by decide) (hts _ m_X5_look_f10) (fun _ h9 => h9) rfl dX5_look_24 ?_
      obtain ⟨zh3, hw⟩ := hw
      have hPc : va_P D vwCl [(q_nt, .inr (2, [.ref q_en, .ref q_ba, .ref q_de, .int (nI n), .int (nI (prs t))])), (q_en, .inl (cI, 32, .inl (aE t))), (q_ba, .inl (cZ, 32, .inl (aB w))), (q_de, .inl (cI, 8, .inl (aN (dg t))))] zs.heap := hP.sub [1, 2, 3, 4] rfl
      refine z_ro (va_runV (As := []) (rest := []) ⟨hx, hb, hml, hown, hts⟩ (k_X2_isReady q_nt q_en q_ba q_de n t w zh3) (cwV 0 hts gX5_look_X2_isReady rfl rfl rfl (by decide +kernel) ⟨Nat.le_of_ble_eq_true rfl, Nat.le_of_ble_eq_true rfl⟩) (zPr_V hZ hPc 0 rfl rfl) rfl rfl hl.1 rfl (lv_room (Nat.le_of_ble_eq_true rfl)) dX5_look_27 ⟨Nat.zero_le _, Nat.zero_le _⟩) (fun zr4 hzr4 => ?_)
      have ez := hzr4
      rw [ez]
      clear ez hzr4
      obtain ⟨hwt, hwf⟩ := hw
      refine z_if_neb hx hb (tgt := 36) dX5_look_30 (by decide) (fun cc => ?_) (fun cc => ?_)
      · replace hw := hwt cc
        refine lv_aload_n hx hb dX5_look_36 rfl (lv_at hl 0 rfl) ?_
        refine va_get (D := D) (ci := 5) (v := .ref q_lk) (C := RX5) (T := TX5) (N := 6) hx hb hts i_X5_look_X5 hown hZ.1 hP 0 rfl rfl 4 (by decide) (hts _ m_X5_look_f38) (fun _ h9 => h9) rfl dX5_look_37 ?_
        refine lv_iload_n hx hb dX5_look_40 rfl (lv_at hl 2 rfl) ?_
        obtain ⟨zk5, ezk5, hw⟩ := hw
        refine z_st (st' := [.int (nI zk5), .ref q_lk]) (by rw [ezk5]) ?_
        obtain ⟨zh6, hw⟩ := hw
        obtain ⟨zh7, hw⟩ := hw
        obtain ⟨zh8, hw⟩ := hw
        have hPc : va_P D vwCl [(q_lk, .inr (1, [.ref q_nt, .ref q_kn, .ref q_fi, .int (nI ct)])), (q_kn, .inl (cI, 8, .inl (aN kd))), (q_fi, .inl (cI, 8, .inl (aN fi))), (q_nt, .inr (2, [.ref q_en, .ref q_ba, .ref q_de, .int (nI n), .int (nI (prs t))])), (q_en, .inl (cI, 32, .inl (aE t))), (q_ba, .inl (cZ, 32, .inl (aB w))), (q_de, .inl (cI, 8, .inl (aN (dg t))))] zs.heap := hP.sub [5, 6, 7, 1, 2, 3, 4] rfl
        have hDc : va_D A [(q_lk, .inr (1, [.ref q_nt, .ref q_kn, .ref q_fi, .int (nI ct)])), (q_kn, .inl (cI, 8, .inl (aN kd))), (q_fi, .inl (cI, 8, .inl (aN fi))), (q_nt, .inr (2, [.ref q_en, .ref q_ba, .ref q_de, .int (nI n), .int (nI (prs t))])), (q_en, .inl (cI, 32, .inl (aE t))), (q_ba, .inl (cZ, 32, .inl (aB w))), (q_de, .inl (cI, 8, .inl (aN (dg t))))] := hD.sub [5, 6, 7, 1, 2, 3, 4] (by decide) rfl
        have hFc := va_free (wc := [(q_lk, .inr (1, [.ref q_nt, .ref q_kn, .ref q_fi, .int (nI ct)])), (q_kn, .inl (cI, 8, .inl (aN kd))), (q_fi, .inl (cI, 8, .inl (aN fi))), (q_nt, .inr (2, [.ref q_en, .ref q_ba, .ref q_de, .int (nI n), .int (nI (prs t))])), (q_en, .inl (cI, 32, .inl (aE t))), (q_ba, .inl (cZ, 32, .inl (aB w))), (q_de, .inl (cI, 8, .inl (aN (dg t))))]) hD hS hA [5, 6, 7, 1, 2, 3, 4] rfl
        refine va_calli (va_runV (As := [.int (nI zk5)]) (rest := []) ⟨hx, hb, hml, hown, hts⟩ (k_X1_lookTo q_lk q_kn q_fi q_nt q_en q_ba q_de zs.heap.size kd fi ct n t w zk5 zh6 zh7 zh8) (cwV 1 hts gX5_look_X1_lookTo rfl rfl rfl (by decide +kernel) ⟨Nat.le_of_ble_eq_true rfl, Nat.le_of_ble_eq_true rfl⟩) (zPw_V hZ hPc (hDc.weaken (fun _ _ _ _ => trivial)) 0 rfl rfl) rfl rfl hl.1 rfl (lv_room (Nat.le_of_ble_eq_true rfl)) dX5_look_41 ⟨Nat.zero_le _, Nat.zero_le _⟩) hS (fun q _ h => hFc q h) hFc (fun zr12 zu zt H1 locs1 ht hvm hq hB hz1 hk1 hS => ?_)
        obtain ⟨zkd99, zfi910⟩ := zu
        obtain ⟨zp11, ez⟩ := hq
        obtain ⟨hP1, hD1⟩ := hB
        rw [ht] at hP1
        replace hw := hw zkd99 zfi910 zp11
        rw [ez]
        clear ez
        obtain ⟨hP, hD⟩ := va_join (wr := [(q_x, .inr (5, [.ref q_nt, .ref q_rw, .ref q_rv, .ref q_hd, .ref q_lk, .ref q_rg]))]) (w1 := [(q_lk, .inr (1, [.ref q_nt, .ref q_kn, .ref q_fi, .int (nI (cK n t zk5))])), (q_kn, .inl (cI, 8, .inl (aN zkd99))), (q_fi, .inl (cI, 8, .inl (aN zfi910))), (q_nt, .inr (2, [.ref q_en, .ref q_ba, .ref q_de, .int (nI n), .int (nI (prs t))])), (q_en, .inl (cI, 32, .inl (aE t))), (q_ba, .inl (cZ, 32, .inl (aB w))), (q_de, .inl (cI, 8, .inl (aN (dg t))))]) hP hD [5, 6, 7, 1, 2, 3, 4] [0] rfl rfl (by decide) (by decide) hk1 hFc hP1 hD1
        have hP : va_P D vwCl [(q_x, .inr (5, [.ref q_nt, .ref q_rw, .ref q_rv, .ref q_hd, .ref q_lk, .ref q_rg])), (q_lk, .inr (1, [.ref q_nt, .ref q_kn, .ref q_fi, .int (nI (cK n t zk5))])), (q_kn, .inl (cI, 8, .inl (aN zkd99))), (q_fi, .inl (cI, 8, .inl (aN zfi910))), (q_nt, .inr (2, [.ref q_en, .ref q_ba, .ref q_de, .int (nI n), .int (nI (prs t))])), (q_en, .inl (cI, 32, .inl (aE t))), (q_ba, .inl (cZ, 32, .inl (aB w))), (q_de, .inl (cI, 8, .inl (aN (dg t))))] H1 := hP
        have hD : va_D A [(q_x, .inr (5, [.ref q_nt, .ref q_rw, .ref q_rv, .ref q_hd, .ref q_lk, .ref q_rg])), (q_lk, .inr (1, [.ref q_nt, .ref q_kn, .ref q_fi, .int (nI (cK n t zk5))])), (q_kn, .inl (cI, 8, .inl (aN zkd99))), (q_fi, .inl (cI, 8, .inl (aN zfi910))), (q_nt, .inr (2, [.ref q_en, .ref q_ba, .ref q_de, .int (nI n), .int (nI (prs t))])), (q_en, .inl (cI, 32, .inl (aE t))), (q_ba, .inl (cZ, 32, .inl (aB w))), (q_de, .inl (cI, 8, .inl (aN (dg t))))] := hD
        clear hP1 hD1 hk1 hz1 hFc hDc hPc ht hvm
        refine lv_pop hx hb dX5_look_44 rfl ?_
        refine lv_aload_n hx hb dX5_look_45 rfl (lv_at hl 0 rfl) ?_
        refine va_get (D := D) (ci := 5) (v := .ref q_lk) (C := RX5) (T := TX5) (N := 6) hx hb hts i_X5_look_X5 hown hZ.1 hP 0 rfl rfl 4 (by decide) (hts _ m_X5_look_f38) (fun _ h9 => h9) rfl dX5_look_46 ?_
        refine lv_iload_n hx hb dX5_look_49 rfl (lv_at hl 1 rfl) ?_
        obtain ⟨zk13, ezk13, hw⟩ := hw
        refine z_st (st' := [.int (nI zk13), .ref q_lk]) (by rw [ezk13]) ?_
        obtain ⟨zh14, hw⟩ := hw
        have hPc : va_P D vwCl [(q_lk, .inr (1, [.ref q_nt, .ref q_kn, .ref q_fi, .int (nI (cK n t zk5))])), (q_kn, .inl (cI, 8, .inl (aN zkd99))), (q_fi, .inl (cI, 8, .inl (aN zfi910))), (q_nt, .inr (2, [.ref q_en, .ref q_ba, .ref q_de, .int (nI n), .int (nI (prs t))])), (q_en, .inl (cI, 32, .inl (aE t))), (q_ba, .inl (cZ, 32, .inl (aB w))), (q_de, .inl (cI, 8, .inl (aN (dg t))))] H1 := hP.sub [1, 2, 3, 4, 5, 6, 7] rfl
        refine z_ro (va_runV (As := [.int (nI zk13)]) (rest := []) ⟨hx, hb, hml, hown, hts⟩ (k_X1_kindOf q_lk q_kn q_fi q_nt q_en q_ba q_de zkd99 zfi910 (cK n t zk5) n t w zk13 zh14) (cwV 1 hts gX5_look_X1_kindOf rfl rfl rfl (by decide +kernel) ⟨Nat.le_of_ble_eq_true rfl, Nat.le_of_ble_eq_true rfl⟩) (zPr_V hZ hPc 0 rfl rfl) rfl rfl hl.1 rfl (lv_room (Nat.le_of_ble_eq_true rfl)) dX5_look_50 ⟨Nat.zero_le _, Nat.zero_le _⟩) (fun zr15 hzr15 => ?_)
        have ez := hzr15
        rw [ez]
        clear ez hzr15
        obtain ⟨kd9, fi9, ct9, er, ec_kn, ec_fi, ec_ct⟩ := hw
        have hP9 : va_P D vwCl [(q_x, .inr (5, [.ref q_nt, .ref q_rw, .ref q_rv, .ref q_hd, .ref q_lk, .ref q_rg])), (q_nt, .inr (2, [.ref q_en, .ref q_ba, .ref q_de, .int (nI n), .int (nI (prs t))])), (q_en, .inl (cI, 32, .inl (aE t))), (q_ba, .inl (cZ, 32, .inl (aB w))), (q_de, .inl (cI, 8, .inl (aN (dg t)))), (q_lk, .inr (1, [.ref q_nt, .ref q_kn, .ref q_fi, .int (nI (cK n t zk5))])), (q_kn, .inl (cI, 8, .inl (aN zkd99))), (q_fi, .inl (cI, 8, .inl (aN zfi910)))] H1 := hP.sub [0, 4, 5, 6, 7, 1, 2, 3] rfl
        have hD9 : va_D A [(q_x, .inr (5, [.ref q_nt, .ref q_rw, .ref q_rv, .ref q_hd, .ref q_lk, .ref q_rg])), (q_nt, .inr (2, [.ref q_en, .ref q_ba, .ref q_de, .int (nI n), .int (nI (prs t))])), (q_en, .inl (cI, 32, .inl (aE t))), (q_ba, .inl (cZ, 32, .inl (aB w))), (q_de, .inl (cI, 8, .inl (aN (dg t)))), (q_lk, .inr (1, [.ref q_nt, .ref q_kn, .ref q_fi, .int (nI (cK n t zk5))])), (q_kn, .inl (cI, 8, .inl (aN zkd99))), (q_fi, .inl (cI, 8, .inl (aN zfi910)))] := hD.sub [0, 4, 5, 6, 7, 1, 2, 3] (by decide) rfl
        have hP9 : va_P D vwCl [(q_x, .inr (5, [.ref q_nt, .ref q_rw, .ref q_rv, .ref q_hd, .ref q_lk, .ref q_rg])), (q_nt, .inr (2, [.ref q_en, .ref q_ba, .ref q_de, .int (nI n), .int (nI (prs t))])), (q_en, .inl (cI, 32, .inl (aE t))), (q_ba, .inl (cZ, 32, .inl (aB w))), (q_de, .inl (cI, 8, .inl (aN (dg t)))), (q_lk, .inr (1, [.ref q_nt, .ref q_kn, .ref q_fi, .int (nI (cK n t zk5))])), (q_kn, .inl (cI, 8, .inl (aN kd9))), (q_fi, .inl (cI, 8, .inl (aN zfi910)))] H1 := z_arr hP9 6 rfl (fun zi hi => congrArg nI (ec_kn zi hi))
        have hD9 : va_D A [(q_x, .inr (5, [.ref q_nt, .ref q_rw, .ref q_rv, .ref q_hd, .ref q_lk, .ref q_rg])), (q_nt, .inr (2, [.ref q_en, .ref q_ba, .ref q_de, .int (nI n), .int (nI (prs t))])), (q_en, .inl (cI, 32, .inl (aE t))), (q_ba, .inl (cZ, 32, .inl (aB w))), (q_de, .inl (cI, 8, .inl (aN (dg t)))), (q_lk, .inr (1, [.ref q_nt, .ref q_kn, .ref q_fi, .int (nI (cK n t zk5))])), (q_kn, .inl (cI, 8, .inl (aN kd9))), (q_fi, .inl (cI, 8, .inl (aN zfi910)))] := hD9.set (p := 6) (e := .inl (cI, 8, .inl (aN kd9))) rfl
        have hP9 : va_P D vwCl [(q_x, .inr (5, [.ref q_nt, .ref q_rw, .ref q_rv, .ref q_hd, .ref q_lk, .ref q_rg])), (q_nt, .inr (2, [.ref q_en, .ref q_ba, .ref q_de, .int (nI n), .int (nI (prs t))])), (q_en, .inl (cI, 32, .inl (aE t))), (q_ba, .inl (cZ, 32, .inl (aB w))), (q_de, .inl (cI, 8, .inl (aN (dg t)))), (q_lk, .inr (1, [.ref q_nt, .ref q_kn, .ref q_fi, .int (nI (cK n t zk5))])), (q_kn, .inl (cI, 8, .inl (aN kd9))), (q_fi, .inl (cI, 8, .inl (aN fi9)))] H1 := z_arr hP9 7 rfl (fun zi hi => congrArg nI (ec_fi zi hi))
        have hD9 : va_D A [(q_x, .inr (5, [.ref q_nt, .ref q_rw, .ref q_rv, .ref q_hd, .ref q_lk, .ref q_rg])), (q_nt, .inr (2, [.ref q_en, .ref q_ba, .ref q_de, .int (nI n), .int (nI (prs t))])), (q_en, .inl (cI, 32, .inl (aE t))), (q_ba, .inl (cZ, 32, .inl (aB w))), (q_de, .inl (cI, 8, .inl (aN (dg t)))), (q_lk, .inr (1, [.ref q_nt, .ref q_kn, .ref q_fi, .int (nI (cK n t zk5))])), (q_kn, .inl (cI, 8, .inl (aN kd9))), (q_fi, .inl (cI, 8, .inl (aN fi9)))] := hD9.set (p := 7) (e := .inl (cI, 8, .inl (aN fi9))) rfl
        have hP9 : va_P D vwCl [(q_x, .inr (5, [.ref q_nt, .ref q_rw, .ref q_rv, .ref q_hd, .ref q_lk, .ref q_rg])), (q_nt, .inr (2, [.ref q_en, .ref q_ba, .ref q_de, .int (nI n), .int (nI (prs t))])), (q_en, .inl (cI, 32, .inl (aE t))), (q_ba, .inl (cZ, 32, .inl (aB w))), (q_de, .inl (cI, 8, .inl (aN (dg t)))), (q_lk, .inr (1, [.ref q_nt, .ref q_kn, .ref q_fi, .int (nI ct9)])), (q_kn, .inl (cI, 8, .inl (aN kd9))), (q_fi, .inl (cI, 8, .inl (aN fi9)))] H1 := (congrArg (fun z9 : Nat => va_P D vwCl [(q_x, .inr (5, [.ref q_nt, .ref q_rw, .ref q_rv, .ref q_hd, .ref q_lk, .ref q_rg])), (q_nt, .inr (2, [.ref q_en, .ref q_ba, .ref q_de, .int (nI n), .int (nI (prs t))])), (q_en, .inl (cI, 32, .inl (aE t))), (q_ba, .inl (cZ, 32, .inl (aB w))), (q_de, .inl (cI, 8, .inl (aN (dg t)))), (q_lk, .inr (1, [.ref q_nt, .ref q_kn, .ref q_fi, .int (nI z9)])), (q_kn, .inl (cI, 8, .inl (aN kd9))), (q_fi, .inl (cI, 8, .inl (aN fi9)))] H1) ec_ct).mp hP9
        have hD9 : va_D A [(q_x, .inr (5, [.ref q_nt, .ref q_rw, .ref q_rv, .ref q_hd, .ref q_lk, .ref q_rg])), (q_nt, .inr (2, [.ref q_en, .ref q_ba, .ref q_de, .int (nI n), .int (nI (prs t))])), (q_en, .inl (cI, 32, .inl (aE t))), (q_ba, .inl (cZ, 32, .inl (aB w))), (q_de, .inl (cI, 8, .inl (aN (dg t)))), (q_lk, .inr (1, [.ref q_nt, .ref q_kn, .ref q_fi, .int (nI ct9)])), (q_kn, .inl (cI, 8, .inl (aN kd9))), (q_fi, .inl (cI, 8, .inl (aN fi9)))] := (congrArg (fun z9 : Nat => va_D A [(q_x, .inr (5, [.ref q_nt, .ref q_rw, .ref q_rv, .ref q_hd, .ref q_lk, .ref q_rg])), (q_nt, .inr (2, [.ref q_en, .ref q_ba, .ref q_de, .int (nI n), .int (nI (prs t))])), (q_en, .inl (cI, 32, .inl (aE t))), (q_ba, .inl (cZ, 32, .inl (aB w))), (q_de, .inl (cI, 8, .inl (aN (dg t)))), (q_lk, .inr (1, [.ref q_nt, .ref q_kn, .ref q_fi, .int (nI z9)])), (q_kn, .inl (cI, 8, .inl (aN kd9))), (q_fi, .inl (cI, 8, .inl (aN fi9)))]) ec_ct).mp hD9
        exact W.iret (v := nI (zkd99 zk13)) hx hb hr (fun t ht hW => ⟨⟨_, (kd9, fi9, ct9), rfl, er, by rw [ht]; exact hP9, hD9⟩, hS.F ht⟩) hS.2.2 dX5_look_53
      · replace hw := hwf cc
        refine lv_bipush (v := (-3)) hx hb dX5_look_33 (by decide +kernel) ?_
        obtain ⟨kd9, fi9, ct9, er, ec_kn, ec_fi, ec_ct⟩ := hw
        have hP9 : va_P D vwCl [(q_x, .inr (5, [.ref q_nt, .ref q_rw, .ref q_rv, .ref q_hd, .ref q_lk, .ref q_rg])), (q_nt, .inr (2, [.ref q_en, .ref q_ba, .ref q_de, .int (nI n), .int (nI (prs t))])), (q_en, .inl (cI, 32, .inl (aE t))), (q_ba, .inl (cZ, 32, .inl (aB w))), (q_de, .inl (cI, 8, .inl (aN (dg t)))), (q_lk, .inr (1, [.ref q_nt, .ref q_kn, .ref q_fi, .int (nI ct)])), (q_kn, .inl (cI, 8, .inl (aN kd))), (q_fi, .inl (cI, 8, .inl (aN fi)))] zs.heap := hP.sub [0, 1, 2, 3, 4, 5, 6, 7] rfl
        have hD9 : va_D A [(q_x, .inr (5, [.ref q_nt, .ref q_rw, .ref q_rv, .ref q_hd, .ref q_lk, .ref q_rg])), (q_nt, .inr (2, [.ref q_en, .ref q_ba, .ref q_de, .int (nI n), .int (nI (prs t))])), (q_en, .inl (cI, 32, .inl (aE t))), (q_ba, .inl (cZ, 32, .inl (aB w))), (q_de, .inl (cI, 8, .inl (aN (dg t)))), (q_lk, .inr (1, [.ref q_nt, .ref q_kn, .ref q_fi, .int (nI ct)])), (q_kn, .inl (cI, 8, .inl (aN kd))), (q_fi, .inl (cI, 8, .inl (aN fi)))] := hD.sub [0, 1, 2, 3, 4, 5, 6, 7] (by decide) rfl
        have hP9 : va_P D vwCl [(q_x, .inr (5, [.ref q_nt, .ref q_rw, .ref q_rv, .ref q_hd, .ref q_lk, .ref q_rg])), (q_nt, .inr (2, [.ref q_en, .ref q_ba, .ref q_de, .int (nI n), .int (nI (prs t))])), (q_en, .inl (cI, 32, .inl (aE t))), (q_ba, .inl (cZ, 32, .inl (aB w))), (q_de, .inl (cI, 8, .inl (aN (dg t)))), (q_lk, .inr (1, [.ref q_nt, .ref q_kn, .ref q_fi, .int (nI ct)])), (q_kn, .inl (cI, 8, .inl (aN kd9))), (q_fi, .inl (cI, 8, .inl (aN fi)))] zs.heap := z_arr hP9 6 rfl (fun zi hi => congrArg nI (ec_kn zi hi))
        have hD9 : va_D A [(q_x, .inr (5, [.ref q_nt, .ref q_rw, .ref q_rv, .ref q_hd, .ref q_lk, .ref q_rg])), (q_nt, .inr (2, [.ref q_en, .ref q_ba, .ref q_de, .int (nI n), .int (nI (prs t))])), (q_en, .inl (cI, 32, .inl (aE t))), (q_ba, .inl (cZ, 32, .inl (aB w))), (q_de, .inl (cI, 8, .inl (aN (dg t)))), (q_lk, .inr (1, [.ref q_nt, .ref q_kn, .ref q_fi, .int (nI ct)])), (q_kn, .inl (cI, 8, .inl (aN kd9))), (q_fi, .inl (cI, 8, .inl (aN fi)))] := hD9.set (p := 6) (e := .inl (cI, 8, .inl (aN kd9))) rfl
        have hP9 : va_P D vwCl [(q_x, .inr (5, [.ref q_nt, .ref q_rw, .ref q_rv, .ref q_hd, .ref q_lk, .ref q_rg])), (q_nt, .inr (2, [.ref q_en, .ref q_ba, .ref q_de, .int (nI n), .int (nI (prs t))])), (q_en, .inl (cI, 32, .inl (aE t))), (q_ba, .inl (cZ, 32, .inl (aB w))), (q_de, .inl (cI, 8, .inl (aN (dg t)))), (q_lk, .inr (1, [.ref q_nt, .ref q_kn, .ref q_fi, .int (nI ct)])), (q_kn, .inl (cI, 8, .inl (aN kd9))), (q_fi, .inl (cI, 8, .inl (aN fi9)))] zs.heap := z_arr hP9 7 rfl (fun zi hi => congrArg nI (ec_fi zi hi))
        have hD9 : va_D A [(q_x, .inr (5, [.ref q_nt, .ref q_rw, .ref q_rv, .ref q_hd, .ref q_lk, .ref q_rg])), (q_nt, .inr (2, [.ref q_en, .ref q_ba, .ref q_de, .int (nI n), .int (nI (prs t))])), (q_en, .inl (cI, 32, .inl (aE t))), (q_ba, .inl (cZ, 32, .inl (aB w))), (q_de, .inl (cI, 8, .inl (aN (dg t)))), (q_lk, .inr (1, [.ref q_nt, .ref q_kn, .ref q_fi, .int (nI ct)])), (q_kn, .inl (cI, 8, .inl (aN kd9))), (q_fi, .inl (cI, 8, .inl (aN fi9)))] := hD9.set (p := 7) (e := .inl (cI, 8, .inl (aN fi9))) rfl
        have hP9 : va_P D vwCl [(q_x, .inr (5, [.ref q_nt, .ref q_rw, .ref q_rv, .ref q_hd, .ref q_lk, .ref q_rg])), (q_nt, .inr (2, [.ref q_en, .ref q_ba, .ref q_de, .int (nI n), .int (nI (prs t))])), (q_en, .inl (cI, 32, .inl (aE t))), (q_ba, .inl (cZ, 32, .inl (aB w))), (q_de, .inl (cI, 8, .inl (aN (dg t)))), (q_lk, .inr (1, [.ref q_nt, .ref q_kn, .ref q_fi, .int (nI ct9)])), (q_kn, .inl (cI, 8, .inl (aN kd9))), (q_fi, .inl (cI, 8, .inl (aN fi9)))] zs.heap := (congrArg (fun z9 : Nat => va_P D vwCl [(q_x, .inr (5, [.ref q_nt, .ref q_rw, .ref q_rv, .ref q_hd, .ref q_lk, .ref q_rg])), (q_nt, .inr (2, [.ref q_en, .ref q_ba, .ref q_de, .int (nI n), .int (nI (prs t))])), (q_en, .inl (cI, 32, .inl (aE t))), (q_ba, .inl (cZ, 32, .inl (aB w))), (q_de, .inl (cI, 8, .inl (aN (dg t)))), (q_lk, .inr (1, [.ref q_nt, .ref q_kn, .ref q_fi, .int (nI z9)])), (q_kn, .inl (cI, 8, .inl (aN kd9))), (q_fi, .inl (cI, 8, .inl (aN fi9)))] zs.heap) ec_ct).mp hP9
        have hD9 : va_D A [(q_x, .inr (5, [.ref q_nt, .ref q_rw, .ref q_rv, .ref q_hd, .ref q_lk, .ref q_rg])), (q_nt, .inr (2, [.ref q_en, .ref q_ba, .ref q_de, .int (nI n), .int (nI (prs t))])), (q_en, .inl (cI, 32, .inl (aE t))), (q_ba, .inl (cZ, 32, .inl (aB w))), (q_de, .inl (cI, 8, .inl (aN (dg t)))), (q_lk, .inr (1, [.ref q_nt, .ref q_kn, .ref q_fi, .int (nI ct9)])), (q_kn, .inl (cI, 8, .inl (aN kd9))), (q_fi, .inl (cI, 8, .inl (aN fi9)))] := (congrArg (fun z9 : Nat => va_D A [(q_x, .inr (5, [.ref q_nt, .ref q_rw, .ref q_rv, .ref q_hd, .ref q_lk, .ref q_rg])), (q_nt, .inr (2, [.ref q_en, .ref q_ba, .ref q_de, .int (nI n), .int (nI (prs t))])), (q_en, .inl (cI, 32, .inl (aE t))), (q_ba, .inl (cZ, 32, .inl (aB w))), (q_de, .inl (cI, 8, .inl (aN (dg t)))), (q_lk, .inr (1, [.ref q_nt, .ref q_kn, .ref q_fi, .int (nI z9)])), (q_kn, .inl (cI, 8, .inl (aN kd9))), (q_fi, .inl (cI, 8, .inl (aN fi9)))]) ec_ct).mp hD9
        exact W.iret (v := (-3)) hx hb hr (fun t ht hW => ⟨⟨_, (kd9, fi9, ct9), rfl, er, by rw [ht]; exact hP9, hD9⟩, hS.F ht⟩) hS.2.2 dX5_look_35
    · replace hw := hwf cc
      refine lv_bipush (v := (-2)) hx hb dX5_look_20 (by decide +kernel) ?_
      obtain ⟨kd9, fi9, ct9, er, ec_kn, ec_fi, ec_ct⟩ := hw
      have hP9 : va_P D vwCl [(q_x, .inr (5, [.ref q_nt, .ref q_rw, .ref q_rv, .ref q_hd, .ref q_lk, .ref q_rg])), (q_nt, .inr (2, [.ref q_en, .ref q_ba, .ref q_de, .int (nI n), .int (nI (prs t))])), (q_en, .inl (cI, 32, .inl (aE t))), (q_ba, .inl (cZ, 32, .inl (aB w))), (q_de, .inl (cI, 8, .inl (aN (dg t)))), (q_lk, .inr (1, [.ref q_nt, .ref q_kn, .ref q_fi, .int (nI ct)])), (q_kn, .inl (cI, 8, .inl (aN kd))), (q_fi, .inl (cI, 8, .inl (aN fi)))] zs.heap := hP.sub [0, 1, 2, 3, 4, 5, 6, 7] rfl
      have hD9 : va_D A [(q_x, .inr (5, [.ref q_nt, .ref q_rw, .ref q_rv, .ref q_hd, .ref q_lk, .ref q_rg])), (q_nt, .inr (2, [.ref q_en, .ref q_ba, .ref q_de, .int (nI n), .int (nI (prs t))])), (q_en, .inl (cI, 32, .inl (aE t))), (q_ba, .inl (cZ, 32, .inl (aB w))), (q_de, .inl (cI, 8, .inl (aN (dg t)))), (q_lk, .inr (1, [.ref q_nt, .ref q_kn, .ref q_fi, .int (nI ct)])), (q_kn, .inl (cI, 8, .inl (aN kd))), (q_fi, .inl (cI, 8, .inl (aN fi)))] := hD.sub [0, 1, 2, 3, 4, 5, 6, 7] (by decide) rfl
      have hP9 : va_P D vwCl [(q_x, .inr (5, [.ref q_nt, .ref q_rw, .ref q_rv, .ref q_hd, .ref q_lk, .ref q_rg])), (q_nt, .inr (2, [.ref q_en, .ref q_ba, .ref q_de, .int (nI n), .int (nI (prs t))])), (q_en, .inl (cI, 32, .inl (aE t))), (q_ba, .inl (cZ, 32, .inl (aB w))), (q_de, .inl (cI, 8, .inl (aN (dg t)))), (q_lk, .inr (1, [.ref q_nt, .ref q_kn, .ref q_fi, .int (nI ct)])), (q_kn, .inl (cI, 8, .inl (aN kd9))), (q_fi, .inl (cI, 8, .inl (aN fi)))] zs.heap := z_arr hP9 6 rfl (fun zi hi => congrArg nI (ec_kn zi hi))
      have hD9 : va_D A [(q_x, .inr (5, [.ref q_nt, .ref q_rw, .ref q_rv, .ref q_hd, .ref q_lk, .ref q_rg])), (q_nt, .inr (2, [.ref q_en, .ref q_ba, .ref q_de, .int (nI n), .int (nI (prs t))])), (q_en, .inl (cI, 32, .inl (aE t))), (q_ba, .inl (cZ, 32, .inl (aB w))), (q_de, .inl (cI, 8, .inl (aN (dg t)))), (q_lk, .inr (1, [.ref q_nt, .ref q_kn, .ref q_fi, .int (nI ct)])), (q_kn, .inl (cI, 8, .inl (aN kd9))), (q_fi, .inl (cI, 8, .inl (aN fi)))] := hD9.set (p := 6) (e := .inl (cI, 8, .inl (aN kd9))) rfl
      have hP9 : va_P D vwCl [(q_x, .inr (5, [.ref q_nt, .ref q_rw, .ref q_rv, .ref q_hd, .ref q_lk, .ref q_rg])), (q_nt, .inr (2, [.ref q_en, .ref q_ba, .ref q_de, .int (nI n), .int (nI (prs t))])), (q_en, .inl (cI, 32, .inl (aE t))), (q_ba, .inl (cZ, 32, .inl (aB w))), (q_de, .inl (cI, 8, .inl (aN (dg t)))), (q_lk, .inr (1, [.ref q_nt, .ref q_kn, .ref q_fi, .int (nI ct)])), (q_kn, .inl (cI, 8, .inl (aN kd9))), (q_fi, .inl (cI, 8, .inl (aN fi9)))] zs.heap := z_arr hP9 7 rfl (fun zi hi => congrArg nI (ec_fi zi hi))
      have hD9 : va_D A [(q_x, .inr (5, [.ref q_nt, .ref q_rw, .ref q_rv, .ref q_hd, .ref q_lk, .ref q_rg])), (q_nt, .inr (2, [.ref q_en, .ref q_ba, .ref q_de, .int (nI n), .int (nI (prs t))])), (q_en, .inl (cI, 32, .inl (aE t))), (q_ba, .inl (cZ, 32, .inl (aB w))), (q_de, .inl (cI, 8, .inl (aN (dg t)))), (q_lk, .inr (1, [.ref q_nt, .ref q_kn, .ref q_fi, .int (nI ct)])), (q_kn, .inl (cI, 8, .inl (aN kd9))), (q_fi, .inl (cI, 8, .inl (aN fi9)))] := hD9.set (p := 7) (e := .inl (cI, 8, .inl (aN fi9))) rfl
      have hP9 : va_P D vwCl [(q_x, .inr (5, [.ref q_nt, .ref q_rw, .ref q_rv, .ref q_hd, .ref q_lk, .ref q_rg])), (q_nt, .inr (2, [.ref q_en, .ref q_ba, .ref q_de, .int (nI n), .int (nI (prs t))])), (q_en, .inl (cI, 32, .inl (aE t))), (q_ba, .inl (cZ, 32, .inl (aB w))), (q_de, .inl (cI, 8, .inl (aN (dg t)))), (q_lk, .inr (1, [.ref q_nt, .ref q_kn, .ref q_fi, .int (nI ct9)])), (q_kn, .inl (cI, 8, .inl (aN kd9))), (q_fi, .inl (cI, 8, .inl (aN fi9)))] zs.heap := (congrArg (fun z9 : Nat => va_P D vwCl [(q_x, .inr (5, [.ref q_nt, .ref q_rw, .ref q_rv, .ref q_hd, .ref q_lk, .ref q_rg])), (q_nt, .inr (2, [.ref q_en, .ref q_ba, .ref q_de, .int (nI n), .int (nI (prs t))])), (q_en, .inl (cI, 32, .inl (aE t))), (q_ba, .inl (cZ, 32, .inl (aB w))), (q_de, .inl (cI, 8, .inl (aN (dg t)))), (q_lk, .inr (1, [.ref q_nt, .ref q_kn, .ref q_fi, .int (nI z9)])), (q_kn, .inl (cI, 8, .inl (aN kd9))), (q_fi, .inl (cI, 8, .inl (aN fi9)))] zs.heap) ec_ct).mp hP9
      have hD9 : va_D A [(q_x, .inr (5, [.ref q_nt, .ref q_rw, .ref q_rv, .ref q_hd, .ref q_lk, .ref q_rg])), (q_nt, .inr (2, [.ref q_en, .ref q_ba, .ref q_de, .int (nI n), .int (nI (prs t))])), (q_en, .inl (cI, 32, .inl (aE t))), (q_ba, .inl (cZ, 32, .inl (aB w))), (q_de, .inl (cI, 8, .inl (aN (dg t)))), (q_lk, .inr (1, [.ref q_nt, .ref q_kn, .ref q_fi, .int (nI ct9)])), (q_kn, .inl (cI, 8, .inl (aN kd9))), (q_fi, .inl (cI, 8, .inl (aN fi9)))] := (congrArg (fun z9 : Nat => va_D A [(q_x, .inr (5, [.ref q_nt, .ref q_rw, .ref q_rv, .ref q_hd, .ref q_lk, .ref q_rg])), (q_nt, .inr (2, [.ref q_en, .ref q_ba, .ref q_de, .int (nI n), .int (nI (prs t))])), (q_en, .inl (cI, 32, .inl (aE t))), (q_ba, .inl (cZ, 32, .inl (aB w))), (q_de, .inl (cI, 8, .inl (aN (dg t)))), (q_lk, .inr (1, [.ref q_nt, .ref q_kn, .ref q_fi, .int (nI z9)])), (q_kn, .inl (cI, 8, .inl (aN kd9))), (q_fi, .inl (cI, 8, .inl (aN fi9)))]) ec_ct).mp hD9
      exact W.iret (v := (-2)) hx hb hr (fun t ht hW => ⟨⟨_, (kd9, fi9, ct9), rfl, er, by rw [ht]; exact hP9, hD9⟩, hS.F ht⟩) hS.2.2 dX5_look_22
  · replace hw := hwf cc
    refine lv_iconst (v := (-1)) hx hb dX5_look_11 (by decide +kernel) ?_
    obtain ⟨kd9, fi9, ct9, er, ec_kn, ec_fi, ec_ct⟩ := hw
    have hP9 : va_P D vwCl [(q_x, .inr (5, [.ref q_nt, .ref q_rw, .ref q_rv, .ref q_hd, .ref q_lk, .ref q_rg])), (q_nt, .inr (2, [.ref q_en, .ref q_ba, .ref q_de, .int (nI n), .int (nI (prs t))])), (q_en, .inl (cI, 32, .inl (aE t))), (q_ba, .inl (cZ, 32, .inl (aB w))), (q_de, .inl (cI, 8, .inl (aN (dg t)))), (q_lk, .inr (1, [.ref q_nt, .ref q_kn, .ref q_fi, .int (nI ct)])), (q_kn, .inl (cI, 8, .inl (aN kd))), (q_fi, .inl (cI, 8, .inl (aN fi)))] zs.heap := hP.sub [0, 1, 2, 3, 4, 5, 6, 7] rfl
    have hD9 : va_D A [(q_x, .inr (5, [.ref q_nt, .ref q_rw, .ref q_rv, .ref q_hd, .ref q_lk, .ref q_rg])), (q_nt, .inr (2, [.ref q_en, .ref q_ba, .ref q_de, .int (nI n), .int (nI (prs t))])), (q_en, .inl (cI, 32, .inl (aE t))), (q_ba, .inl (cZ, 32, .inl (aB w))), (q_de, .inl (cI, 8, .inl (aN (dg t)))), (q_lk, .inr (1, [.ref q_nt, .ref q_kn, .ref q_fi, .int (nI ct)])), (q_kn, .inl (cI, 8, .inl (aN kd))), (q_fi, .inl (cI, 8, .inl (aN fi)))] := hD.sub [0, 1, 2, 3, 4, 5, 6, 7] (by decide) rfl
    have hP9 : va_P D vwCl [(q_x, .inr (5, [.ref q_nt, .ref q_rw, .ref q_rv, .ref q_hd, .ref q_lk, .ref q_rg])), (q_nt, .inr (2, [.ref q_en, .ref q_ba, .ref q_de, .int (nI n), .int (nI (prs t))])), (q_en, .inl (cI, 32, .inl (aE t))), (q_ba, .inl (cZ, 32, .inl (aB w))), (q_de, .inl (cI, 8, .inl (aN (dg t)))), (q_lk, .inr (1, [.ref q_nt, .ref q_kn, .ref q_fi, .int (nI ct)])), (q_kn, .inl (cI, 8, .inl (aN kd9))), (q_fi, .inl (cI, 8, .inl (aN fi)))] zs.heap := z_arr hP9 6 rfl (fun zi hi => congrArg nI (ec_kn zi hi))
    have hD9 : va_D A [(q_x, .inr (5, [.ref q_nt, .ref q_rw, .ref q_rv, .ref q_hd, .ref q_lk, .ref q_rg])), (q_nt, .inr (2, [.ref q_en, .ref q_ba, .ref q_de, .int (nI n), .int (nI (prs t))])), (q_en, .inl (cI, 32, .inl (aE t))), (q_ba, .inl (cZ, 32, .inl (aB w))), (q_de, .inl (cI, 8, .inl (aN (dg t)))), (q_lk, .inr (1, [.ref q_nt, .ref q_kn, .ref q_fi, .int (nI ct)])), (q_kn, .inl (cI, 8, .inl (aN kd9))), (q_fi, .inl (cI, 8, .inl (aN fi)))] := hD9.set (p := 6) (e := .inl (cI, 8, .inl (aN kd9))) rfl
    have hP9 : va_P D vwCl [(q_x, .inr (5, [.ref q_nt, .ref q_rw, .ref q_rv, .ref q_hd, .ref q_lk, .ref q_rg])), (q_nt, .inr (2, [.ref q_en, .ref q_ba, .ref q_de, .int (nI n), .int (nI (prs t))])), (q_en, .inl (cI, 32, .inl (aE t))), (q_ba, .inl (cZ, 32, .inl (aB w))), (q_de, .inl (cI, 8, .inl (aN (dg t)))), (q_lk, .inr (1, [.ref q_nt, .ref q_kn, .ref q_fi, .int (nI ct)])), (q_kn, .inl (cI, 8, .inl (aN kd9))), (q_fi, .inl (cI, 8, .inl (aN fi9)))] zs.heap := z_arr hP9 7 rfl (fun zi hi => congrArg nI (ec_fi zi hi))
    have hD9 : va_D A [(q_x, .inr (5, [.ref q_nt, .ref q_rw, .ref q_rv, .ref q_hd, .ref q_lk, .ref q_rg])), (q_nt, .inr (2, [.ref q_en, .ref q_ba, .ref q_de, .int (nI n), .int (nI (prs t))])), (q_en, .inl (cI, 32, .inl (aE t))), (q_ba, .inl (cZ, 32, .inl (aB w))), (q_de, .inl (cI, 8, .inl (aN (dg t)))), (q_lk, .inr (1, [.ref q_nt, .ref q_kn, .ref q_fi, .int (nI ct)])), (q_kn, .inl (cI, 8, .inl (aN kd9))), (q_fi, .inl (cI, 8, .inl (aN fi9)))] := hD9.set (p := 7) (e := .inl (cI, 8, .inl (aN fi9))) rfl
    have hP9 : va_P D vwCl [(q_x, .inr (5, [.ref q_nt, .ref q_rw, .ref q_rv, .ref q_hd, .ref q_lk, .ref q_rg])), (q_nt, .inr (2, [.ref q_en, .ref q_ba, .ref q_de, .int (nI n), .int (nI (prs t))])), (q_en, .inl (cI, 32, .inl (aE t))), (q_ba, .inl (cZ, 32, .inl (aB w))), (q_de, .inl (cI, 8, .inl (aN (dg t)))), (q_lk, .inr (1, [.ref q_nt, .ref q_kn, .ref q_fi, .int (nI ct9)])), (q_kn, .inl (cI, 8, .inl (aN kd9))), (q_fi, .inl (cI, 8, .inl (aN fi9)))] zs.heap := (congrArg (fun z9 : Nat => va_P D vwCl [(q_x, .inr (5, [.ref q_nt, .ref q_rw, .ref q_rv, .ref q_hd, .ref q_lk, .ref q_rg])), (q_nt, .inr (2, [.ref q_en, .ref q_ba, .ref q_de, .int (nI n), .int (nI (prs t))])), (q_en, .inl (cI, 32, .inl (aE t))), (q_ba, .inl (cZ, 32, .inl (aB w))), (q_de, .inl (cI, 8, .inl (aN (dg t)))), (q_lk, .inr (1, [.ref q_nt, .ref q_kn, .ref q_fi, .int (nI z9)])), (q_kn, .inl (cI, 8, .inl (aN kd9))), (q_fi, .inl (cI, 8, .inl (aN fi9)))] zs.heap) ec_ct).mp hP9
    have hD9 : va_D A [(q_x, .inr (5, [.ref q_nt, .ref q_rw, .ref q_rv, .ref q_hd, .ref q_lk, .ref q_rg])), (q_nt, .inr (2, [.ref q_en, .ref q_ba, .ref q_de, .int (nI n), .int (nI (prs t))])), (q_en, .inl (cI, 32, .inl (aE t))), (q_ba, .inl (cZ, 32, .inl (aB w))), (q_de, .inl (cI, 8, .inl (aN (dg t)))), (q_lk, .inr (1, [.ref q_nt, .ref q_kn, .ref q_fi, .int (nI ct9)])), (q_kn, .inl (cI, 8, .inl (aN kd9))), (q_fi, .inl (cI, 8, .inl (aN fi9)))] := (congrArg (fun z9 : Nat => va_D A [(q_x, .inr (5, [.ref q_nt, .ref q_rw, .ref q_rv, .ref q_hd, .ref q_lk, .ref q_rg])), (q_nt, .inr (2, [.ref q_en, .ref q_ba, .ref q_de, .int (nI n), .int (nI (prs t))])), (q_en, .inl (cI, 32, .inl (aE t))), (q_ba, .inl (cZ, 32, .inl (aB w))), (q_de, .inl (cI, 8, .inl (aN (dg t)))), (q_lk, .inr (1, [.ref q_nt, .ref q_kn, .ref q_fi, .int (nI z9)])), (q_kn, .inl (cI, 8, .inl (aN kd9))), (q_fi, .inl (cI, 8, .inl (aN fi9)))]) ec_ct).mp hD9
    exact W.iret (v := (-1)) hx hb hr (fun t ht hW => ⟨⟨_, (kd9, fi9, ct9), rfl, er, by rw [ht]; exact hP9, hD9⟩, hS.F ht⟩) hS.2.2 dX5_look_12
theorem m_X5_classes_f10 : Cond.fieldLink RX5 10 "NetWalkers" "net" "LNetWalkers$Net;" ∈ wsX5_classes := by decide +kernel
theorem i_X5_classes_X5 : ∀ w ∈ wsX50, w ∈ wsX5_classes := by decide +kernel
theorem m_X5_classes_f38 : Cond.fieldLink RX5 38 "NetWalkers" "looks" "LNetWalkers$Looks;" ∈ wsX5_classes := by decide +kernel
theorem m_X5_classes_f157 : Cond.fieldLink RX5 157 "NetWalkers$Looks" "count" "I" ∈ wsX5_classes := by decide +kernel
theorem i_X5_classes_X1 : ∀ w ∈ wsX10, w ∈ wsX5_classes := by decide +kernel
set_option maxRecDepth 100000 in
set_option maxHeartbeats 4000000 in
theorem w_X5_classes {l : Launch} {D : va_G} {cI cZ : ClassId} (k_X5_isDepth : K_X5_isDepth l D cI cZ) (k_X2_isReady : K_X2_isReady l D cI cZ) (k_X1_lookTo : K_X1_lookTo l D cI cZ) (vv : V_X5_classes) : K_X5_classes l D cI cZ := by
  intro q_x q_nt q_en q_ba q_de q_lk q_kn q_fi q_rw q_rv q_hd q_rg sz n t w kd fi ct d hpre0
  have vw := vv n t w kd fi ct d hpre0
  refine Met.ofW (cc := cX5_classes) (maxL := 2) (ret := (some .int)) (by decide) rfl ?_
  intro zp ze zs zm zargs zbelow zmeth zc zs1 B hml hv
  obtain ⟨rfl, hsz, hZ, hP, hD0⟩ := hv
  have hx := B.exec
  have hb := B.bytes
  have hr := B.returns
  have hts := atoms_spec (ws := wsX5_classes) B.pre
  have hown : zs.vm.findClass RX5 = some zm.cls := findClass_of_methodNamed B.named
  have hlocks := B.notSynchronized
  subst hsz
  have hD := hD0.self (sz := zs.heap.size)
  generalize hAe : va_A [(q_x, .inr (5, [.ref q_nt, .ref q_rw, .ref q_rv, .ref q_hd, .ref q_lk, .ref q_rg])), (q_nt, .inr (2, [.ref q_en, .ref q_ba, .ref q_de, .int (nI n), .int (nI (prs t))])), (q_en, .inl (cI, 32, .inl (aE t))), (q_ba, .inl (cZ, 32, .inl (aB w))), (q_de, .inl (cI, 8, .inl (aN (dg t)))), (q_lk, .inr (1, [.ref q_nt, .ref q_kn, .ref q_fi, .int (nI ct)])), (q_kn, .inl (cI, 8, .inl (aN kd))), (q_fi, .inl (cI, 8, .inl (aN fi)))] zs.heap.size = A at hD ⊢
  have hA : ∀ q : Nat, zs.heap.size ≤ q → A q := fun q h => by rw [← hAe]; exact Or.inr h
  have hS : va_S A zs.heap zs.heap [] := va_S.rf
  have hP : va_P D vwCl [(q_x, .inr (5, [.ref q_nt, .ref q_rw, .ref q_rv, .ref q_hd, .ref q_lk, .ref q_rg])), (q_nt, .inr (2, [.ref q_en, .ref q_ba, .ref q_de, .int (nI n), .int (nI (prs t))])), (q_en, .inl (cI, 32, .inl (aE t))), (q_ba, .inl (cZ, 32, .inl (aB w))), (q_de, .inl (cI, 8, .inl (aN (dg t)))), (q_lk, .inr (1, [.ref q_nt, .ref q_kn, .ref q_fi, .int (nI ct)])), (q_kn, .inl (cI, 8, .inl (aN kd))), (q_fi, .inl (cI, 8, .inl (aN fi)))] zs.heap := hP
  have hl := lv_entry ([.ref q_x, .int d]) (n := 2) (Nat.le_of_ble_eq_true rfl)
  rw [lg_entry_eq]
  generalize (lg_sl ([.ref q_x, .int d]) ++ List.replicate (2 - (lg_sl ([.ref q_x, .int d])).length) Slot.unset).toArray = ls at hl ⊢
  have hl : lv_has ls 2 [(0, .ref q_x), (1, .int d)] := hl
  have hw := vw
  unfold B_X5_classes_in at hw
  refine lv_iload_n hx hb dX5_classes_0 rfl (lv_at hl 1 rfl) ?_
  have hPc : va_P D vwCl [] zs.heap := hP.sub [] rfl
  refine z_ro (va_runS (As := [.int d]) (rest := []) ⟨hx, hb, hml, hown, hts⟩ (k_X5_isDepth d) (va_cwS 1 hts gX5_classes_X5_isDepth rfl rfl rfl (by decide +kernel) ⟨Nat.le_of_ble_eq_true rfl, Nat.le_of_ble_eq_true rfl⟩) (zPr_S hZ hPc) rfl rfl hl.1 rfl (lv_room (Nat.le_of_ble_eq_true rfl)) dX5_classes_1 ⟨Nat.zero_le _, Nat.zero_le _⟩) (fun zr1 hzr1 => ?_)
  have ez := hzr1
  rw [ez]
  clear ez hzr1
  obtain ⟨hwt, hwf⟩ := hw
  refine z_if_neb hx hb (tgt := 10) dX5_classes_4 (by decide) (fun cc => ?_) (fun cc => ?_)
  · replace hw := hwt cc
    refine lv_aload_n hx hb dX5_classes_10 rfl (lv_at hl 0 rfl) ?_
    refine va_get (D := D) (ci := 5) (v := .ref q_nt) (C := RX5) (T := TX5) (N := 6) hx hb hts i_X5_classes_X5 hown hZ.1 hP 0 rfl rfl 0 (by decide) (hts _ m_X5_classes_f10) (fun _ h9 => h9) rfl dX5_classes_11 ?_
    obtain ⟨zh2, hw⟩ := hw
    have hPc : va_P D vwCl [(q_nt, .inr (2, [.ref q_en, .ref q_ba, .ref q_de, .int (nI n), .int (nI (prs t))])), (q_en, .inl (cI, 32, .inl (aE t))), (q_ba, .inl (cZ, 32, .inl (aB w))), (q_de, .inl (cI, 8, .inl (aN (dg t))))] zs.heap := hP.sub [1, 2, 3, 4] rfl
    refine z_ro (va_runV (As := []) (rest := []) ⟨hx, hb, hml, hown, hts⟩ (k_X2_isReady q_nt q_en q_ba q_de n t w zh2) (cwV 0 hts gX5_classes_X2_isReady rfl rfl rfl (by decide +kernel) ⟨Nat.le_of_ble_eq_true rfl, Nat.le_of_ble_eq_true rfl⟩) (zPr_V hZ hPc 0 rfl rfl) rfl rfl hl.1 rfl (lv_room (Nat.le_of_ble_eq_true rfl)) dX5_classes_14 ⟨Nat.zero_le _, Nat.zero_le _⟩) (fun zr3 hzr3 => ?_)
    have ez := hzr3
    rw [ez]
    clear ez hzr3
    obtain ⟨hwt, hwf⟩ := hw
    refine z_if_neb hx hb (tgt := 23) dX5_classes_17 (by decide) (fun cc => ?_) (fun cc => ?_)
    · replace hw := hwt cc
      refine lv_aload_n hx hb dX5_classes_23 rfl (lv_at hl 0 rfl) ?_
      refine va_get (D := D) (ci := 5) (v := .ref q_lk) (C := RX5) (T := TX5) (N := 6) hx hb hts i_X5_classes_X5 hown hZ.1 hP 0 rfl rfl 4 (by decide) (hts _ m_X5_classes_f38) (fun _ h9 => h9) rfl dX5_classes_24 ?_
      refine lv_iload_n hx hb dX5_classes_27 rfl (lv_at hl 1 rfl) ?_
      obtain ⟨zk4, ezk4, hw⟩ := hw
      refine z_st (st' := [.int (nI zk4), .ref q_lk]) (by rw [ezk4]) ?_
      obtain ⟨zh5, hw⟩ := hw
      obtain ⟨zh6, hw⟩ := hw
      obtain ⟨zh7, hw⟩ := hw
      have hPc : va_P D vwCl [(q_lk, .inr (1, [.ref q_nt, .ref q_kn, .ref q_fi, .int (nI ct)])), (q_kn, .inl (cI, 8, .inl (aN kd))), (q_fi, .inl (cI, 8, .inl (aN fi))), (q_nt, .inr (2, [.ref q_en, .ref q_ba, .ref q_de, .int (nI n), .int (nI (prs t))])), (q_en, .inl (cI, 32, .inl (aE t))), (q_ba, .inl (cZ, 32, .inl (aB w))), (q_de, .inl (cI, 8, .inl (aN (dg t))))] zs.heap := hP.sub [5, 6, 7, 1, 2, 3, 4] rfl
      have hDc : va_D A [(q_lk, .inr (1, [.ref q_nt, .ref q_kn, .ref q_fi, .int (nI ct)])), (q_kn, .inl (cI, 8, .inl (aN kd))), (q_fi, .inl (cI, 8, .inl (aN fi))), (q_nt, .inr (2, [.ref q_en, .ref q_ba, .ref q_de, .int (nI n), .int (nI (prs t))])), (q_en, .inl (cI, 32, .inl (aE t))), (q_ba, .inl (cZ, 32, .inl (aB w))), (q_de, .inl (cI, 8, .inl (aN (dg t))))] := hD.sub [5, 6, 7, 1, 2, 3, 4] (by decide) rfl
      have hFc := va_free (wc := [(q_lk, .inr (1, [.ref q_nt, .ref q_kn, .ref q_fi, .int (nI ct)])), (q_kn, .inl (cI, 8, .inl (aN kd))), (q_fi, .inl (cI, 8, .inl (aN fi))), (q_nt, .inr (2, [.ref q_en, .ref q_ba, .ref q_de, .int (nI n), .int (nI (prs t))])), (q_en, .inl (cI, 32, .inl (aE t))), (q_ba, .inl (cZ, 32, .inl (aB w))), (q_de, .inl (cI, 8, .inl (aN (dg t))))]) hD hS hA [5, 6, 7, 1, 2, 3, 4] rfl
      refine va_calli (va_runV (As := [.int (nI zk4)]) (rest := []) ⟨hx, hb, hml, hown, hts⟩ (k_X1_lookTo q_lk q_kn q_fi q_nt q_en q_ba q_de zs.heap.size kd fi ct n t w zk4 zh5 zh6 zh7) (cwV 1 hts gX5_classes_X1_lookTo rfl rfl rfl (by decide +kernel) ⟨Nat.le_of_ble_eq_true rfl, Nat.le_of_ble_eq_true rfl⟩) (zPw_V hZ hPc (hDc.weaken (fun _ _ _ _ => trivial)) 0 rfl rfl) rfl rfl hl.1 rfl (lv_room (Nat.le_of_ble_eq_true rfl)) dX5_classes_28 ⟨Nat.zero_le _, Nat.zero_le _⟩) hS (fun q _ h => hFc q h) hFc (fun zr11 zu zt H1 locs1 ht hvm hq hB hz1 hk1 hS => ?_)
      obtain ⟨zkd98, zfi99⟩ := zu
      obtain ⟨zp10, ez⟩ := hq
      obtain ⟨hP1, hD1⟩ := hB
      rw [ht] at hP1
      replace hw := hw zkd98 zfi99 zp10
      rw [ez]
      clear ez
      obtain ⟨hP, hD⟩ := va_join (wr := [(q_x, .inr (5, [.ref q_nt, .ref q_rw, .ref q_rv, .ref q_hd, .ref q_lk, .ref q_rg]))]) (w1 := [(q_lk, .inr (1, [.ref q_nt, .ref q_kn, .ref q_fi, .int (nI (cK n t zk4))])), (q_kn, .inl (cI, 8, .inl (aN zkd98))), (q_fi, .inl (cI, 8, .inl (aN zfi99))), (q_nt, .inr (2, [.ref q_en, .ref q_ba, .ref q_de, .int (nI n), .int (nI (prs t))])), (q_en, .inl (cI, 32, .inl (aE t))), (q_ba, .inl (cZ, 32, .inl (aB w))), (q_de, .inl (cI, 8, .inl (aN (dg t))))]) hP hD [5, 6, 7, 1, 2, 3, 4] [0] rfl rfl (by decide) (by decide) hk1 hFc hP1 hD1
      have hP : va_P D vwCl [(q_x, .inr (5, [.ref q_nt, .ref q_rw, .ref q_rv, .ref q_hd, .ref q_lk, .ref q_rg])), (q_lk, .inr (1, [.ref q_nt, .ref q_kn, .ref q_fi, .int (nI (cK n t zk4))])), (q_kn, .inl (cI, 8, .inl (aN zkd98))), (q_fi, .inl (cI, 8, .inl (aN zfi99))), (q_nt, .inr (2, [.ref q_en, .ref q_ba, .ref q_de, .int (nI n), .int (nI (prs t))])), (q_en, .inl (cI, 32, .inl (aE t))), (q_ba, .inl (cZ, 32, .inl (aB w))), (q_de, .inl (cI, 8, .inl (aN (dg t))))] H1 := hP
      have hD : va_D A [(q_x, .inr (5, [.ref q_nt, .ref q_rw, .ref q_rv, .ref q_hd, .ref q_lk, .ref q_rg])), (q_lk, .inr (1, [.ref q_nt, .ref q_kn, .ref q_fi, .int (nI (cK n t zk4))])), (q_kn, .inl (cI, 8, .inl (aN zkd98))), (q_fi, .inl (cI, 8, .inl (aN zfi99))), (q_nt, .inr (2, [.ref q_en, .ref q_ba, .ref q_de, .int (nI n), .int (nI (prs t))])), (q_en, .inl (cI, 32, .inl (aE t))), (q_ba, .inl (cZ, 32, .inl (aB w))), (q_de, .inl (cI, 8, .inl (aN (dg t))))] := hD
      clear hP1 hD1 hk1 hz1 hFc hDc hPc ht hvm
      refine lv_pop hx hb dX5_classes_31 rfl ?_
      refine lv_aload_n hx hb dX5_classes_32 rfl (lv_at hl 0 rfl) ?_
      refine va_get (D := D) (ci := 5) (v := .ref q_lk) (C := RX5) (T := TX5) (N := 6) hx hb hts i_X5_classes_X5 hown hZ.1 hP 0 rfl rfl 4 (by decide) (hts _ m_X5_classes_f38) (fun _ h9 => h9) rfl dX5_classes_33 ?_
      refine va_get (D := D) (ci := 1) (v := .int (nI (cK n t zk4))) (C := RX1) (T := TX1) (N := 4) hx hb hts i_X5_classes_X1 hown hZ.1 hP 1 rfl rfl 3 (by decide) (hts _ m_X5_classes_f157) (fun _ h9 => h9) rfl dX5_classes_36 ?_
      obtain ⟨kd9, fi9, ct9, er, ec_kn, ec_fi, ec_ct⟩ := hw
      have hP9 : va_P D vwCl [(q_x, .inr (5, [.ref q_nt, .ref q_rw, .ref q_rv, .ref q_hd, .ref q_lk, .ref q_rg])), (q_nt, .inr (2, [.ref q_en, .ref q_ba, .ref q_de, .int (nI n), .int (nI (prs t))])), (q_en, .inl (cI, 32, .inl (aE t))), (q_ba, .inl (cZ, 32, .inl (aB w))), (q_de, .inl (cI, 8, .inl (aN (dg t)))), (q_lk, .inr (1, [.ref q_nt, .ref q_kn, .ref q_fi, .int (nI (cK n t zk4))])), (q_kn, .inl (cI, 8, .inl (aN zkd98))), (q_fi, .inl (cI, 8, .inl (aN zfi99)))] H1 := hP.sub [0, 4, 5, 6, 7, 1, 2, 3] rfl
      have hD9 : va_D A [(q_x, .inr (5, [.ref q_nt, .ref q_rw, .ref q_rv, .ref q_hd, .ref q_lk, .ref q_rg])), (q_nt, .inr (2, [.ref q_en, .ref q_ba, .ref q_de, .int (nI n), .int (nI (prs t))])), (q_en, .inl (cI, 32, .inl (aE t))), (q_ba, .inl (cZ, 32, .inl (aB w))), (q_de, .inl (cI, 8, .inl (aN (dg t)))), (q_lk, .inr (1, [.ref q_nt, .ref q_kn, .ref q_fi, .int (nI (cK n t zk4))])), (q_kn, .inl (cI, 8, .inl (aN zkd98))), (q_fi, .inl (cI, 8, .inl (aN zfi99)))] := hD.sub [0, 4, 5, 6, 7, 1, 2, 3] (by decide) rfl
      have hP9 : va_P D vwCl [(q_x, .inr (5, [.ref q_nt, .ref q_rw, .ref q_rv, .ref q_hd, .ref q_lk, .ref q_rg])), (q_nt, .inr (2, [.ref q_en, .ref q_ba, .ref q_de, .int (nI n), .int (nI (prs t))])), (q_en, .inl (cI, 32, .inl (aE t))), (q_ba, .inl (cZ, 32, .inl (aB w))), (q_de, .inl (cI, 8, .inl (aN (dg t)))), (q_lk, .inr (1, [.ref q_nt, .ref q_kn, .ref q_fi, .int (nI (cK n t zk4))])), (q_kn, .inl (cI, 8, .inl (aN kd9))), (q_fi, .inl (cI, 8, .inl (aN zfi99)))] H1 := z_arr hP9 6 rfl (fun zi hi => congrArg nI (ec_kn zi hi))
      have hD9 : va_D A [(q_x, .inr (5, [.ref q_nt, .ref q_rw, .ref q_rv, .ref q_hd, .ref q_lk, .ref q_rg])), (q_nt, .inr (2, [.ref q_en, .ref q_ba, .ref q_de, .int (nI n), .int (nI (prs t))])), (q_en, .inl (cI, 32, .inl (aE t))), (q_ba, .inl (cZ, 32, .inl (aB w))), (q_de, .inl (cI, 8, .inl (aN (dg t)))), (q_lk, .inr (1, [.ref q_nt, .ref q_kn, .ref q_fi, .int (nI (cK n t zk4))])), (q_kn, .inl (cI, 8, .inl (aN kd9))), (q_fi, .inl (cI, 8, .inl (aN zfi99)))] := hD9.set (p := 6) (e := .inl (cI, 8, .inl (aN kd9))) rfl
      have hP9 : va_P D vwCl [(q_x, .inr (5, [.ref q_nt, .ref q_rw, .ref q_rv, .ref q_hd, .ref q_lk, .ref q_rg])), (q_nt, .inr (2, [.ref q_en, .ref q_ba, .ref q_de, .int (nI n), .int (nI (prs t))])), (q_en, .inl (cI, 32, .inl (aE t))), (q_ba, .inl (cZ, 32, .inl (aB w))), (q_de, .inl (cI, 8, .inl (aN (dg t)))), (q_lk, .inr (1, [.ref q_nt, .ref q_kn, .ref q_fi, .int (nI (cK n t zk4))])), (q_kn, .inl (cI, 8, .inl (aN kd9))), (q_fi, .inl (cI, 8, .inl (aN fi9)))] H1 := z_arr hP9 7 rfl (fun zi hi => congrArg nI (ec_fi zi hi))
      have hD9 : va_D A [(q_x, .inr (5, [.ref q_nt, .ref q_rw, .ref q_rv, .ref q_hd, .ref q_lk, .ref q_rg])), (q_nt, .inr (2, [.ref q_en, .ref q_ba, .ref q_de, .int (nI n), .int (nI (prs t))])), (q_en, .inl (cI, 32, .inl (aE t))), (q_ba, .inl (cZ, 32, .inl (aB w))), (q_de, .inl (cI, 8, .inl (aN (dg t)))), (q_lk, .inr (1, [.ref q_nt, .ref q_kn, .ref q_fi, .int (nI (cK n t zk4))])), (q_kn, .inl (cI, 8, .inl (aN kd9))), (q_fi, .inl (cI, 8, .inl (aN fi9)))] := hD9.set (p := 7) (e := .inl (cI, 8, .inl (aN fi9))) rfl
      have hP9 : va_P D vwCl [(q_x, .inr (5, [.ref q_nt, .ref q_rw, .ref q_rv, .ref q_hd, .ref q_lk, .ref q_rg])), (q_nt, .inr (2, [.ref q_en, .ref q_ba, .ref q_de, .int (nI n), .int (nI (prs t))])), (q_en, .inl (cI, 32, .inl (aE t))), (q_ba, .inl (cZ, 32, .inl (aB w))), (q_de, .inl (cI, 8, .inl (aN (dg t)))), (q_lk, .inr (1, [.ref q_nt, .ref q_kn, .ref q_fi, .int (nI ct9)])), (q_kn, .inl (cI, 8, .inl (aN kd9))), (q_fi, .inl (cI, 8, .inl (aN fi9)))] H1 := (congrArg (fun z9 : Nat => va_P D vwCl [(q_x, .inr (5, [.ref q_nt, .ref q_rw, .ref q_rv, .ref q_hd, .ref q_lk, .ref q_rg])), (q_nt, .inr (2, [.ref q_en, .ref q_ba, .ref q_de, .int (nI n), .int (nI (prs t))])), (q_en, .inl (cI, 32, .inl (aE t))), (q_ba, .inl (cZ, 32, .inl (aB w))), (q_de, .inl (cI, 8, .inl (aN (dg t)))), (q_lk, .inr (1, [.ref q_nt, .ref q_kn, .ref q_fi, .int (nI z9)])), (q_kn, .inl (cI, 8, .inl (aN kd9))), (q_fi, .inl (cI, 8, .inl (aN fi9)))] H1) ec_ct).mp hP9
      have hD9 : va_D A [(q_x, .inr (5, [.ref q_nt, .ref q_rw, .ref q_rv, .ref q_hd, .ref q_lk, .ref q_rg])), (q_nt, .inr (2, [.ref q_en, .ref q_ba, .ref q_de, .int (nI n), .int (nI (prs t))])), (q_en, .inl (cI, 32, .inl (aE t))), (q_ba, .inl (cZ, 32, .inl (aB w))), (q_de, .inl (cI, 8, .inl (aN (dg t)))), (q_lk, .inr (1, [.ref q_nt, .ref q_kn, .ref q_fi, .int (nI ct9)])), (q_kn, .inl (cI, 8, .inl (aN kd9))), (q_fi, .inl (cI, 8, .inl (aN fi9)))] := (congrArg (fun z9 : Nat => va_D A [(q_x, .inr (5, [.ref q_nt, .ref q_rw, .ref q_rv, .ref q_hd, .ref q_lk, .ref q_rg])), (q_nt, .inr (2, [.ref q_en, .ref q_ba, .ref q_de, .int (nI n), .int (nI (prs t))])), (q_en, .inl (cI, 32, .inl (aE t))), (q_ba, .inl (cZ, 32, .inl (aB w))), (q_de, .inl (cI, 8, .inl (aN (dg t)))), (q_lk, .inr (1, [.ref q_nt, .ref q_kn, .ref q_fi, .int (nI z9)])), (q_kn, .inl (cI, 8, .inl (aN kd9))), (q_fi, .inl (cI, 8, .inl (aN fi9)))]) ec_ct).mp hD9
      exact W.iret (v := nI (cK n t zk4)) hx hb hr (fun t ht hW => ⟨⟨_, (kd9, fi9, ct9), rfl, er, by rw [ht]; exact hP9, hD9⟩, hS.F ht⟩) hS.2.2 dX5_classes_39
    · replace hw := hwf cc
      refine lv_bipush (v := (-3)) hx hb dX5_classes_20 (by decide +kernel) ?_
      obtain ⟨kd9, fi9, ct9, er, ec_kn, ec_fi, ec_ct⟩ := hw
      have hP9 : va_P D vwCl [(q_x, .inr (5, [.ref q_nt, .ref q_rw, .ref q_rv, .ref q_hd, .ref q_lk, .ref q_rg])), (q_nt, .inr (2, [.ref q_en, .ref q_ba, .ref q_de, .int (nI n), .int (nI (prs t))])), (q_en, .inl (cI, 32, .inl (aE t))), (q_ba, .inl (cZ, 32, .inl (aB w))), (q_de, .inl (cI, 8, .inl (aN (dg t)))), (q_lk, .inr (1, [.ref q_nt, .ref q_kn, .ref q_fi, .int (nI ct)])), (q_kn, .inl (cI, 8, .inl (aN kd))), (q_fi, .inl (cI, 8, .inl (aN fi)))] zs.heap := hP.sub [0, 1, 2, 3, 4, 5, 6, 7] rfl
      have hD9 : va_D A [(q_x, .inr (5, [.ref q_nt, .ref q_rw, .ref q_rv, .ref q_hd, .ref q_lk, .ref q_rg])), (q_nt, .inr (2, [.ref q_en, .ref q_ba, .ref q_de, .int (nI n), .int (nI (prs t))])), (q_en, .inl (cI, 32, .inl (aE t))), (q_ba, .inl (cZ, 32, .inl (aB w))), (q_de, .inl (cI, 8, .inl (aN (dg t)))), (q_lk, .inr (1, [.ref q_nt, .ref q_kn, .ref q_fi, .int (nI ct)])), (q_kn, .inl (cI, 8, .inl (aN kd))), (q_fi, .inl (cI, 8, .inl (aN fi)))] := hD.sub [0, 1, 2, 3, 4, 5, 6, 7] (by decide) rfl
      have hP9 : va_P D vwCl [(q_x, .inr (5, [.ref q_nt, .ref q_rw, .ref q_rv, .ref q_hd, .ref q_lk, .ref q_rg])), (q_nt, .inr (2, [.ref q_en, .ref q_ba, .ref q_de, .int (nI n), .int (nI (prs t))])), (q_en, .inl (cI, 32, .inl (aE t))), (q_ba, .inl (cZ, 32, .inl (aB w))), (q_de, .inl (cI, 8, .inl (aN (dg t)))), (q_lk, .inr (1, [.ref q_nt, .ref q_kn, .ref q_fi, .int (nI ct)])), (q_kn, .inl (cI, 8, .inl (aN kd9))), (q_fi, .inl (cI, 8, .inl (aN fi)))] zs.heap := z_arr hP9 6 rfl (fun zi hi => congrArg nI (ec_kn zi hi))
      have hD9 : va_D A [(q_x, .inr (5, [.ref q_nt, .ref q_rw, .ref q_rv, .ref q_hd, .ref q_lk, .ref q_rg])), (q_nt, .inr (2, [.ref q_en, .ref q_ba, .ref q_de, .int (nI n), .int (nI (prs t))])), (q_en, .inl (cI, 32, .inl (aE t))), (q_ba, .inl (cZ, 32, .inl (aB w))), (q_de, .inl (cI, 8, .inl (aN (dg t)))), (q_lk, .inr (1, [.ref q_nt, .ref q_kn, .ref q_fi, .int (nI ct)])), (q_kn, .inl (cI, 8, .inl (aN kd9))), (q_fi, .inl (cI, 8, .inl (aN fi)))] := hD9.set (p := 6) (e := .inl (cI, 8, .inl (aN kd9))) rfl
      have hP9 : va_P D vwCl [(q_x, .inr (5, [.ref q_nt, .ref q_rw, .ref q_rv, .ref q_hd, .ref q_lk, .ref q_rg])), (q_nt, .inr (2, [.ref q_en, .ref q_ba, .ref q_de, .int (nI n), .int (nI (prs t))])), (q_en, .inl (cI, 32, .inl (aE t))), (q_ba, .inl (cZ, 32, .inl (aB w))), (q_de, .inl (cI, 8, .inl (aN (dg t)))), (q_lk, .inr (1, [.ref q_nt, .ref q_kn, .ref q_fi, .int (nI ct)])), (q_kn, .inl (cI, 8, .inl (aN kd9))), (q_fi, .inl (cI, 8, .inl (aN fi9)))] zs.heap := z_arr hP9 7 rfl (fun zi hi => congrArg nI (ec_fi zi hi))
      have hD9 : va_D A [(q_x, .inr (5, [.ref q_nt, .ref q_rw, .ref q_rv, .ref q_hd, .ref q_lk, .ref q_rg])), (q_nt, .inr (2, [.ref q_en, .ref q_ba, .ref q_de, .int (nI n), .int (nI (prs t))])), (q_en, .inl (cI, 32, .inl (aE t))), (q_ba, .inl (cZ, 32, .inl (aB w))), (q_de, .inl (cI, 8, .inl (aN (dg t)))), (q_lk, .inr (1, [.ref q_nt, .ref q_kn, .ref q_fi, .int (nI ct)])), (q_kn, .inl (cI, 8, .inl (aN kd9))), (q_fi, .inl (cI, 8, .inl (aN fi9)))] := hD9.set (p := 7) (e := .inl (cI, 8, .inl (aN fi9))) rfl
      have hP9 : va_P D vwCl [(q_x, .inr (5, [.ref q_nt, .ref q_rw, .ref q_rv, .ref q_hd, .ref q_lk, .ref q_rg])), (q_nt, .inr (2, [.ref q_en, .ref q_ba, .ref q_de, .int (nI n), .int (nI (prs t))])), (q_en, .inl (cI, 32, .inl (aE t))), (q_ba, .inl (cZ, 32, .inl (aB w))), (q_de, .inl (cI, 8, .inl (aN (dg t)))), (q_lk, .inr (1, [.ref q_nt, .ref q_kn, .ref q_fi, .int (nI ct9)])), (q_kn, .inl (cI, 8, .inl (aN kd9))), (q_fi, .inl (cI, 8, .inl (aN fi9)))] zs.heap := (congrArg (fun z9 : Nat => va_P D vwCl [(q_x, .inr (5, [.ref q_nt, .ref q_rw, .ref q_rv, .ref q_hd, .ref q_lk, .ref q_rg])), (q_nt, .inr (2, [.ref q_en, .ref q_ba, .ref q_de, .int (nI n), .int (nI (prs t))])), (q_en, .inl (cI, 32, .inl (aE t))), (q_ba, .inl (cZ, 32, .inl (aB w))), (q_de, .inl (cI, 8, .inl (aN (dg t)))), (q_lk, .inr (1, [.ref q_nt, .ref q_kn, .ref q_fi, .int (nI z9)])), (q_kn, .inl (cI, 8, .inl (aN kd9))), (q_fi, .inl (cI, 8, .inl (aN fi9)))] zs.heap) ec_ct).mp hP9
      have hD9 : va_D A [(q_x, .inr (5, [.ref q_nt, .ref q_rw, .ref q_rv, .ref q_hd, .ref q_lk, .ref q_rg])), (q_nt, .inr (2, [.ref q_en, .ref q_ba, .ref q_de, .int (nI n), .int (nI (prs t))])), (q_en, .inl (cI, 32, .inl (aE t))), (q_ba, .inl (cZ, 32, .inl (aB w))), (q_de, .inl (cI, 8, .inl (aN (dg t)))), (q_lk, .inr (1, [.ref q_nt, .ref q_kn, .ref q_fi, .int (nI ct9)])), (q_kn, .inl (cI, 8, .inl (aN kd9))), (q_fi, .inl (cI, 8, .inl (aN fi9)))] := (congrArg (fun z9 : Nat => va_D A [(q_x, .inr (5, [.ref q_nt, .ref q_rw, .ref q_rv, .ref q_hd, .ref q_lk, .ref q_rg])), (q_nt, .inr (2, [.ref q_en, .ref q_ba, .ref q_de, .int (nI n), .int (nI (prs t))])), (q_en, .inl (cI, 32, .inl (aE t))), (q_ba, .inl (cZ, 32, .inl (aB w))), (q_de, .inl (cI, 8, .inl (aN (dg t)))), (q_lk, .inr (1, [.ref q_nt, .ref q_kn, .ref q_fi, .int (nI z9)])), (q_kn, .inl (cI, 8, .inl (aN kd9))), (q_fi, .inl (cI, 8, .inl (aN fi9)))]) ec_ct).mp hD9
      exact W.iret (v := (-3)) hx hb hr (fun t ht hW => ⟨⟨_, (kd9, fi9, ct9), rfl, er, by rw [ht]; exact hP9, hD9⟩, hS.F ht⟩) hS.2.2 dX5_classes_22
  · replace hw := hwf cc
    refine lv_bipush (v := (-2)) hx hb dX5_classes_7 (by decide +kernel) ?_
    obtain ⟨kd9, fi9, ct9, er, ec_kn, ec_fi, ec_ct⟩ := hw
    have hP9 : va_P D vwCl [(q_x, .inr (5, [.ref q_nt, .ref q_rw, .ref q_rv, .ref q_hd, .ref q_lk, .ref q_rg])), (q_nt, .inr (2, [.ref q_en, .ref q_ba, .ref q_de, .int (nI n), .int (nI (prs t))])), (q_en, .inl (cI, 32, .inl (aE t))), (q_ba, .inl (cZ, 32, .inl (aB w))), (q_de, .inl (cI, 8, .inl (aN (dg t)))), (q_lk, .inr (1, [.ref q_nt, .ref q_kn, .ref q_fi, .int (nI ct)])), (q_kn, .inl (cI, 8, .inl (aN kd))), (q_fi, .inl (cI, 8, .inl (aN fi)))] zs.heap := hP.sub [0, 1, 2, 3, 4, 5, 6, 7] rfl
    have hD9 : va_D A [(q_x, .inr (5, [.ref q_nt, .ref q_rw, .ref q_rv, .ref q_hd, .ref q_lk, .ref q_rg])), (q_nt, .inr (2, [.ref q_en, .ref q_ba, .ref q_de, .int (nI n), .int (nI (prs t))])), (q_en, .inl (cI, 32, .inl (aE t))), (q_ba, .inl (cZ, 32, .inl (aB w))), (q_de, .inl (cI, 8, .inl (aN (dg t)))), (q_lk, .inr (1, [.ref q_nt, .ref q_kn, .ref q_fi, .int (nI ct)])), (q_kn, .inl (cI, 8, .inl (aN kd))), (q_fi, .inl (cI, 8, .inl (aN fi)))] := hD.sub [0, 1, 2, 3, 4, 5, 6, 7] (by decide) rfl
    have hP9 : va_P D vwCl [(q_x, .inr (5, [.ref q_nt, .ref q_rw, .ref q_rv, .ref q_hd, .ref q_lk, .ref q_rg])), (q_nt, .inr (2, [.ref q_en, .ref q_ba, .ref q_de, .int (nI n), .int (nI (prs t))])), (q_en, .inl (cI, 32, .inl (aE t))), (q_ba, .inl (cZ, 32, .inl (aB w))), (q_de, .inl (cI, 8, .inl (aN (dg t)))), (q_lk, .inr (1, [.ref q_nt, .ref q_kn, .ref q_fi, .int (nI ct)])), (q_kn, .inl (cI, 8, .inl (aN kd9))), (q_fi, .inl (cI, 8, .inl (aN fi)))] zs.heap := z_arr hP9 6 rfl (fun zi hi => congrArg nI (ec_kn zi hi))
    have hD9 : va_D A [(q_x, .inr (5, [.ref q_nt, .ref q_rw, .ref q_rv, .ref q_hd, .ref q_lk, .ref q_rg])), (q_nt, .inr (2, [.ref q_en, .ref q_ba, .ref q_de, .int (nI n), .int (nI (prs t))])), (q_en, .inl (cI, 32, .inl (aE t))), (q_ba, .inl (cZ, 32, .inl (aB w))), (q_de, .inl (cI, 8, .inl (aN (dg t)))), (q_lk, .inr (1, [.ref q_nt, .ref q_kn, .ref q_fi, .int (nI ct)])), (q_kn, .inl (cI, 8, .inl (aN kd9))), (q_fi, .inl (cI, 8, .inl (aN fi)))] := hD9.set (p := 6) (e := .inl (cI, 8, .inl (aN kd9))) rfl
    have hP9 : va_P D vwCl [(q_x, .inr (5, [.ref q_nt, .ref q_rw, .ref q_rv, .ref q_hd, .ref q_lk, .ref q_rg])), (q_nt, .inr (2, [.ref q_en, .ref q_ba, .ref q_de, .int (nI n), .int (nI (prs t))])), (q_en, .inl (cI, 32, .inl (aE t))), (q_ba, .inl (cZ, 32, .inl (aB w))), (q_de, .inl (cI, 8, .inl (aN (dg t)))), (q_lk, .inr (1, [.ref q_nt, .ref q_kn, .ref q_fi, .int (nI ct)])), (q_kn, .inl (cI, 8, .inl (aN kd9))), (q_fi, .inl (cI, 8, .inl (aN fi9)))] zs.heap := z_arr hP9 7 rfl (fun zi hi => congrArg nI (ec_fi zi hi))
    have hD9 : va_D A [(q_x, .inr (5, [.ref q_nt, .ref q_rw, .ref q_rv, .ref q_hd, .ref q_lk, .ref q_rg])), (q_nt, .inr (2, [.ref q_en, .ref q_ba, .ref q_de, .int (nI n), .int (nI (prs t))])), (q_en, .inl (cI, 32, .inl (aE t))), (q_ba, .inl (cZ, 32, .inl (aB w))), (q_de, .inl (cI, 8, .inl (aN (dg t)))), (q_lk, .inr (1, [.ref q_nt, .ref q_kn, .ref q_fi, .int (nI ct)])), (q_kn, .inl (cI, 8, .inl (aN kd9))), (q_fi, .inl (cI, 8, .inl (aN fi9)))] := hD9.set (p := 7) (e := .inl (cI, 8, .inl (aN fi9))) rfl
    have hP9 : va_P D vwCl [(q_x, .inr (5, [.ref q_nt, .ref q_rw, .ref q_rv, .ref q_hd, .ref q_lk, .ref q_rg])), (q_nt, .inr (2, [.ref q_en, .ref q_ba, .ref q_de, .int (nI n), .int (nI (prs t))])), (q_en, .inl (cI, 32, .inl (aE t))), (q_ba, .inl (cZ, 32, .inl (aB w))), (q_de, .inl (cI, 8, .inl (aN (dg t)))), (q_lk, .inr (1, [.ref q_nt, .ref q_kn, .ref q_fi, .int (nI ct9)])), (q_kn, .inl (cI, 8, .inl (aN kd9))), (q_fi, .inl (cI, 8, .inl (aN fi9)))] zs.heap := (congrArg (fun z9 : Nat => va_P D vwCl [(q_x, .inr (5, [.ref q_nt, .ref q_rw, .ref q_rv, .ref q_hd, .ref q_lk, .ref q_rg])), (q_nt, .inr (2, [.ref q_en, .ref q_ba, .ref q_de, .int (nI n), .int (nI (prs t))])), (q_en, .inl (cI, 32, .inl (aE t))), (q_ba, .inl (cZ, 32, .inl (aB w))), (q_de, .inl (cI, 8, .inl (aN (dg t)))), (q_lk, .inr (1, [.ref q_nt, .ref q_kn, .ref q_fi, .int (nI z9)])), (q_kn, .inl (cI, 8, .inl (aN kd9))), (q_fi, .inl (cI, 8, .inl (aN fi9)))] zs.heap) ec_ct).mp hP9
    have hD9 : va_D A [(q_x, .inr (5, [.ref q_nt, .ref q_rw, .ref q_rv, .ref q_hd, .ref q_lk, .ref q_rg])), (q_nt, .inr (2, [.ref q_en, .ref q_ba, .ref q_de, .int (nI n), .int (nI (prs t))])), (q_en, .inl (cI, 32, .inl (aE t))), (q_ba, .inl (cZ, 32, .inl (aB w))), (q_de, .inl (cI, 8, .inl (aN (dg t)))), (q_lk, .inr (1, [.ref q_nt, .ref q_kn, .ref q_fi, .int (nI ct9)])), (q_kn, .inl (cI, 8, .inl (aN kd9))), (q_fi, .inl (cI, 8, .inl (aN fi9)))] := (congrArg (fun z9 : Nat => va_D A [(q_x, .inr (5, [.ref q_nt, .ref q_rw, .ref q_rv, .ref q_hd, .ref q_lk, .ref q_rg])), (q_nt, .inr (2, [.ref q_en, .ref q_ba, .ref q_de, .int (nI n), .int (nI (prs t))])), (q_en, .inl (cI, 32, .inl (aE t))), (q_ba, .inl (cZ, 32, .inl (aB w))), (q_de, .inl (cI, 8, .inl (aN (dg t)))), (q_lk, .inr (1, [.ref q_nt, .ref q_kn, .ref q_fi, .int (nI z9)])), (q_kn, .inl (cI, 8, .inl (aN kd9))), (q_fi, .inl (cI, 8, .inl (aN fi9)))]) ec_ct).mp hD9
    exact W.iret (v := (-2)) hx hb hr (fun t ht hW => ⟨⟨_, (kd9, fi9, ct9), rfl, er, by rw [ht]; exact hP9, hD9⟩, hS.F ht⟩) hS.2.2 dX5_classes_9
theorem m_X5_deep_f10 : Cond.fieldLink RX5 10 "NetWalkers" "net" "LNetWalkers$Net;" ∈ wsX5_deep := by decide +kernel
theorem i_X5_deep_X5 : ∀ w ∈ wsX50, w ∈ wsX5_deep := by decide +kernel
theorem m_X5_deep_f38 : Cond.fieldLink RX5 38 "NetWalkers" "looks" "LNetWalkers$Looks;" ∈ wsX5_deep := by decide +kernel
set_option maxRecDepth 100000 in
set_option maxHeartbeats 4000000 in
theorem w_X5_deep {l : Launch} {D : va_G} {cI cZ : ClassId} (k_X2_isReady : K_X2_isReady l D cI cZ) (k_X1_lookTo : K_X1_lookTo l D cI cZ) (vv : V_X5_deep) : K_X5_deep l D cI cZ := by
  intro q_x q_nt q_en q_ba q_de q_lk q_kn q_fi q_rw q_rv q_hd q_rg sz n t w kd fi ct hpre0
  have vw := vv n t w kd fi ct hpre0
  refine Met.ofW (cc := cX5_deep) (maxL := 1) (ret := (some .int)) (by decide) rfl ?_
  intro zp ze zs zm zargs zbelow zmeth zc zs1 B hml hv
  obtain ⟨rfl, hsz, hZ, hP, hD0⟩ := hv
  have hx := B.exec
  have hb := B.bytes
  have hr := B.returns
  have hts := atoms_spec (ws := wsX5_deep) B.pre
  have hown : zs.vm.findClass RX5 = some zm.cls := findClass_of_methodNamed B.named
  have hlocks := B.notSynchronized
  subst hsz
  have hD := hD0.self (sz := zs.heap.size)
  generalize hAe : va_A [(q_x, .inr (5, [.ref q_nt, .ref q_rw, .ref q_rv, .ref q_hd, .ref q_lk, .ref q_rg])), (q_nt, .inr (2, [.ref q_en, .ref q_ba, .ref q_de, .int (nI n), .int (nI (prs t))])), (q_en, .inl (cI, 32, .inl (aE t))), (q_ba, .inl (cZ, 32, .inl (aB w))), (q_de, .inl (cI, 8, .inl (aN (dg t)))), (q_lk, .inr (1, [.ref q_nt, .ref q_kn, .ref q_fi, .int (nI ct)])), (q_kn, .inl (cI, 8, .inl (aN kd))), (q_fi, .inl (cI, 8, .inl (aN fi)))] zs.heap.size = A at hD ⊢
  have hA : ∀ q : Nat, zs.heap.size ≤ q → A q := fun q h => by rw [← hAe]; exact Or.inr h
  have hS : va_S A zs.heap zs.heap [] := va_S.rf
  have hP : va_P D vwCl [(q_x, .inr (5, [.ref q_nt, .ref q_rw, .ref q_rv, .ref q_hd, .ref q_lk, .ref q_rg])), (q_nt, .inr (2, [.ref q_en, .ref q_ba, .ref q_de, .int (nI n), .int (nI (prs t))])), (q_en, .inl (cI, 32, .inl (aE t))), (q_ba, .inl (cZ, 32, .inl (aB w))), (q_de, .inl (cI, 8, .inl (aN (dg t)))), (q_lk, .inr (1, [.ref q_nt, .ref q_kn, .ref q_fi, .int (nI ct)])), (q_kn, .inl (cI, 8, .inl (aN kd))), (q_fi, .inl (cI, 8, .inl (aN fi)))] zs.heap := hP
  have hl := lv_entry ([.ref q_x]) (n := 1) (Nat.le_of_ble_eq_true rfl)
  rw [lg_entry_eq]
  generalize (lg_sl ([.ref q_x]) ++ List.replicate (1 - (lg_sl ([.ref q_x])).length) Slot.unset).toArray = ls at hl ⊢
  have hl : lv_has ls 1 [(0, .ref q_x)] := hl
  have hw := vw
  unfold B_X5_deep_in at hw
  refine lv_aload_n hx hb dX5_deep_0 rfl (lv_at hl 0 rfl) ?_
  refine va_get (D := D) (ci := 5) (v := .ref q_nt) (C := RX5) (T := TX5) (N := 6) hx hb hts i_X5_deep_X5 hown hZ.1 hP 0 rfl rfl 0 (by decide) (hts _ m_X5_deep_f10) (fun _ h9 => h9) rfl dX5_deep_1 ?_
  obtain ⟨zh1, hw⟩ := hw
  have hPc : va_P D vwCl [(q_nt, .inr (2, [.ref q_en, .ref q_ba, .ref q_de, .int (nI n), .int (nI (prs t))])), (q_en, .inl (cI, 32, .inl (aE t))), (q_ba, .inl (cZ, 32, .inl (aB w))), (q_de, .inl (cI, 8, .inl (aN (dg t))))] zs.heap := hP.sub [1, 2, 3, 4] rfl
  refine z_ro (va_runV (As := []) (rest := []) ⟨hx, hb, hml, hown, hts⟩ (k_X2_isReady q_nt q_en q_ba q_de n t w zh1) (cwV 0 hts gX5_deep_X2_isReady rfl rfl rfl (by decide +kernel) ⟨Nat.le_of_ble_eq_true rfl, Nat.le_of_ble_eq_true rfl⟩) (zPr_V hZ hPc 0 rfl rfl) rfl rfl hl.1 rfl (lv_room (Nat.le_of_ble_eq_true rfl)) dX5_deep_4 ⟨Nat.zero_le _, Nat.zero_le _⟩) (fun zr2 hzr2 => ?_)
  have ez := hzr2
  rw [ez]
  clear ez hzr2
  obtain ⟨hwt, hwf⟩ := hw
  refine z_if_eqb hx hb (tgt := 22) dX5_deep_7 (by decide) (fun cc => ?_) (fun cc => ?_)
  · replace hw := hwt cc
    refine lv_bipush (v := (-3)) hx hb dX5_deep_22 (by decide +kernel) ?_
    obtain ⟨kd9, fi9, ct9, er, ec_kn, ec_fi, ec_ct⟩ := hw
    have hP9 : va_P D vwCl [(q_x, .inr (5, [.ref q_nt, .ref q_rw, .ref q_rv, .ref q_hd, .ref q_lk, .ref q_rg])), (q_nt, .inr (2, [.ref q_en, .ref q_ba, .ref q_de, .int (nI n), .int (nI (prs t))])), (q_en, .inl (cI, 32, .inl (aE t))), (q_ba, .inl (cZ, 32, .inl (aB w))), (q_de, .inl (cI, 8, .inl (aN (dg t)))), (q_lk, .inr (1, [.ref q_nt, .ref q_kn, .ref q_fi, .int (nI ct)])), (q_kn, .inl (cI, 8, .inl (aN kd))), (q_fi, .inl (cI, 8, .inl (aN fi)))] zs.heap := hP.sub [0, 1, 2, 3, 4, 5, 6, 7] rfl
    have hD9 : va_D A [(q_x, .inr (5, [.ref q_nt, .ref q_rw, .ref q_rv, .ref q_hd, .ref q_lk, .ref q_rg])), (q_nt, .inr (2, [.ref q_en, .ref q_ba, .ref q_de, .int (nI n), .int (nI (prs t))])), (q_en, .inl (cI, 32, .inl (aE t))), (q_ba, .inl (cZ, 32, .inl (aB w))), (q_de, .inl (cI, 8, .inl (aN (dg t)))), (q_lk, .inr (1, [.ref q_nt, .ref q_kn, .ref q_fi, .int (nI ct)])), (q_kn, .inl (cI, 8, .inl (aN kd))), (q_fi, .inl (cI, 8, .inl (aN fi)))] := hD.sub [0, 1, 2, 3, 4, 5, 6, 7] (by decide) rfl
    have hP9 : va_P D vwCl [(q_x, .inr (5, [.ref q_nt, .ref q_rw, .ref q_rv, .ref q_hd, .ref q_lk, .ref q_rg])), (q_nt, .inr (2, [.ref q_en, .ref q_ba, .ref q_de, .int (nI n), .int (nI (prs t))])), (q_en, .inl (cI, 32, .inl (aE t))), (q_ba, .inl (cZ, 32, .inl (aB w))), (q_de, .inl (cI, 8, .inl (aN (dg t)))), (q_lk, .inr (1, [.ref q_nt, .ref q_kn, .ref q_fi, .int (nI ct)])), (q_kn, .inl (cI, 8, .inl (aN kd9))), (q_fi, .inl (cI, 8, .inl (aN fi)))] zs.heap := z_arr hP9 6 rfl (fun zi hi => congrArg nI (ec_kn zi hi))
    have hD9 : va_D A [(q_x, .inr (5, [.ref q_nt, .ref q_rw, .ref q_rv, .ref q_hd, .ref q_lk, .ref q_rg])), (q_nt, .inr (2, [.ref q_en, .ref q_ba, .ref q_de, .int (nI n), .int (nI (prs t))])), (q_en, .inl (cI, 32, .inl (aE t))), (q_ba, .inl (cZ, 32, .inl (aB w))), (q_de, .inl (cI, 8, .inl (aN (dg t)))), (q_lk, .inr (1, [.ref q_nt, .ref q_kn, .ref q_fi, .int (nI ct)])), (q_kn, .inl (cI, 8, .inl (aN kd9))), (q_fi, .inl (cI, 8, .inl (aN fi)))] := hD9.set (p := 6) (e := .inl (cI, 8, .inl (aN kd9))) rfl
    have hP9 : va_P D vwCl [(q_x, .inr (5, [.ref q_nt, .ref q_rw, .ref q_rv, .ref q_hd, .ref q_lk, .ref q_rg])), (q_nt, .inr (2, [.ref q_en, .ref q_ba, .ref q_de, .int (nI n), .int (nI (prs t))])), (q_en, .inl (cI, 32, .inl (aE t))), (q_ba, .inl (cZ, 32, .inl (aB w))), (q_de, .inl (cI, 8, .inl (aN (dg t)))), (q_lk, .inr (1, [.ref q_nt, .ref q_kn, .ref q_fi, .int (nI ct)])), (q_kn, .inl (cI, 8, .inl (aN kd9))), (q_fi, .inl (cI, 8, .inl (aN fi9)))] zs.heap := z_arr hP9 7 rfl (fun zi hi => congrArg nI (ec_fi zi hi))
    have hD9 : va_D A [(q_x, .inr (5, [.ref q_nt, .ref q_rw, .ref q_rv, .ref q_hd, .ref q_lk, .ref q_rg])), (q_nt, .inr (2, [.ref q_en, .ref q_ba, .ref q_de, .int (nI n), .int (nI (prs t))])), (q_en, .inl (cI, 32, .inl (aE t))), (q_ba, .inl (cZ, 32, .inl (aB w))), (q_de, .inl (cI, 8, .inl (aN (dg t)))), (q_lk, .inr (1, [.ref q_nt, .ref q_kn, .ref q_fi, .int (nI ct)])), (q_kn, .inl (cI, 8, .inl (aN kd9))), (q_fi, .inl (cI, 8, .inl (aN fi9)))] := hD9.set (p := 7) (e := .inl (cI, 8, .inl (aN fi9))) rfl
    have hP9 : va_P D vwCl [(q_x, .inr (5, [.ref q_nt, .ref q_rw, .ref q_rv, .ref q_hd, .ref q_lk, .ref q_rg])), (q_nt, .inr (2, [.ref q_en, .ref q_ba, .ref q_de, .int (nI n), .int (nI (prs t))])), (q_en, .inl (cI, 32, .inl (aE t))), (q_ba, .inl (cZ, 32, .inl (aB w))), (q_de, .inl (cI, 8, .inl (aN (dg t)))), (q_lk, .inr (1, [.ref q_nt, .ref q_kn, .ref q_fi, .int (nI ct9)])), (q_kn, .inl (cI, 8, .inl (aN kd9))), (q_fi, .inl (cI, 8, .inl (aN fi9)))] zs.heap := (congrArg (fun z9 : Nat => va_P D vwCl [(q_x, .inr (5, [.ref q_nt, .ref q_rw, .ref q_rv, .ref q_hd, .ref q_lk, .ref q_rg])), (q_nt, .inr (2, [.ref q_en, .ref q_ba, .ref q_de, .int (nI n), .int (nI (prs t))])), (q_en, .inl (cI, 32, .inl (aE t))), (q_ba, .inl (cZ, 32, .inl (aB w))), (q_de, .inl (cI, 8, .inl (aN (dg t)))), (q_lk, .inr (1, [.ref q_nt, .ref q_kn, .ref q_fi, .int (nI z9)])), (q_kn, .inl (cI, 8, .inl (aN kd9))), (q_fi, .inl (cI, 8, .inl (aN fi9)))] zs.heap) ec_ct).mp hP9
    have hD9 : va_D A [(q_x, .inr (5, [.ref q_nt, .ref q_rw, .ref q_rv, .ref q_hd, .ref q_lk, .ref q_rg])), (q_nt, .inr (2, [.ref q_en, .ref q_ba, .ref q_de, .int (nI n), .int (nI (prs t))])), (q_en, .inl (cI, 32, .inl (aE t))), (q_ba, .inl (cZ, 32, .inl (aB w))), (q_de, .inl (cI, 8, .inl (aN (dg t)))), (q_lk, .inr (1, [.ref q_nt, .ref q_kn, .ref q_fi, .int (nI ct9)])), (q_kn, .inl (cI, 8, .inl (aN kd9))), (q_fi, .inl (cI, 8, .inl (aN fi9)))] := (congrArg (fun z9 : Nat => va_D A [(q_x, .inr (5, [.ref q_nt, .ref q_rw, .ref q_rv, .ref q_hd, .ref q_lk, .ref q_rg])), (q_nt, .inr (2, [.ref q_en, .ref q_ba, .ref q_de, .int (nI n), .int (nI (prs t))])), (q_en, .inl (cI, 32, .inl (aE t))), (q_ba, .inl (cZ, 32, .inl (aB w))), (q_de, .inl (cI, 8, .inl (aN (dg t)))), (q_lk, .inr (1, [.ref q_nt, .ref q_kn, .ref q_fi, .int (nI z9)])), (q_kn, .inl (cI, 8, .inl (aN kd9))), (q_fi, .inl (cI, 8, .inl (aN fi9)))]) ec_ct).mp hD9
    exact W.iret (v := (-3)) hx hb hr (fun t ht hW => ⟨⟨_, (kd9, fi9, ct9), rfl, er, by rw [ht]; exact hP9, hD9⟩, hS.F ht⟩) hS.2.2 dX5_deep_24
  · replace hw := hwf cc
    refine lv_aload_n hx hb dX5_deep_10 rfl (lv_at hl 0 rfl) ?_
    refine va_get (D := D) (ci := 5) (v := .ref q_lk) (C := RX5) (T := TX5) (N := 6) hx hb hts i_X5_deep_X5 hown hZ.1 hP 0 rfl rfl 4 (by decide) (hts _ m_X5_deep_f38) (fun _ h9 => h9) rfl dX5_deep_11 ?_
    refine lv_bipush (v := nI 20) hx hb dX5_deep_14 (by decide +kernel) ?_
    obtain ⟨zh3, hw⟩ := hw
    obtain ⟨zh4, hw⟩ := hw
    obtain ⟨zh5, hw⟩ := hw
    have hPc : va_P D vwCl [(q_lk, .inr (1, [.ref q_nt, .ref q_kn, .ref q_fi, .int (nI ct)])), (q_kn, .inl (cI, 8, .inl (aN kd))), (q_fi, .inl (cI, 8, .inl (aN fi))), (q_nt, .inr (2, [.ref q_en, .ref q_ba, .ref q_de, .int (nI n), .int (nI (prs t))])), (q_en, .inl (cI, 32, .inl (aE t))), (q_ba, .inl (cZ, 32, .inl (aB w))), (q_de, .inl (cI, 8, .inl (aN (dg t))))] zs.heap := hP.sub [5, 6, 7, 1, 2, 3, 4] rfl
    have hDc : va_D A [(q_lk, .inr (1, [.ref q_nt, .ref q_kn, .ref q_fi, .int (nI ct)])), (q_kn, .inl (cI, 8, .inl (aN kd))), (q_fi, .inl (cI, 8, .inl (aN fi))), (q_nt, .inr (2, [.ref q_en, .ref q_ba, .ref q_de, .int (nI n), .int (nI (prs t))])), (q_en, .inl (cI, 32, .inl (aE t))), (q_ba, .inl (cZ, 32, .inl (aB w))), (q_de, .inl (cI, 8, .inl (aN (dg t))))] := hD.sub [5, 6, 7, 1, 2, 3, 4] (by decide) rfl
    have hFc := va_free (wc := [(q_lk, .inr (1, [.ref q_nt, .ref q_kn, .ref q_fi, .int (nI ct)])), (q_kn, .inl (cI, 8, .inl (aN kd))), (q_fi, .inl (cI, 8, .inl (aN fi))), (q_nt, .inr (2, [.ref q_en, .ref q_ba, .ref q_de, .int (nI n), .int (nI (prs t))])), (q_en, .inl (cI, 32, .inl (aE t))), (q_ba, .inl (cZ, 32, .inl (aB w))), (q_de, .inl (cI, 8, .inl (aN (dg t))))]) hD hS hA [5, 6, 7, 1, 2, 3, 4] rfl
    refine va_calli (va_runV (As := [.int (nI 20)]) (rest := []) ⟨hx, hb, hml, hown, hts⟩ (k_X1_lookTo q_lk q_kn q_fi q_nt q_en q_ba q_de zs.heap.size kd fi ct n t w 20 zh3 zh4 zh5) (cwV 1 hts gX5_deep_X1_lookTo rfl rfl rfl (by decide +kernel) ⟨Nat.le_of_ble_eq_true rfl, Nat.le_of_ble_eq_true rfl⟩) (zPw_V hZ hPc (hDc.weaken (fun _ _ _ _ => trivial)) 0 rfl rfl) rfl rfl hl.1 rfl (lv_room (Nat.le_of_ble_eq_true rfl)) dX5_deep_16 ⟨Nat.zero_le _, Nat.zero_le _⟩) hS (fun q _ h => hFc q h) hFc (fun zr9 zu zt H1 locs1 ht hvm hq hB hz1 hk1 hS => ?_)
    obtain ⟨zkd96, zfi97⟩ := zu
    obtain ⟨zp8, ez⟩ := hq
    obtain ⟨hP1, hD1⟩ := hB
    rw [ht] at hP1
    replace hw := hw zkd96 zfi97 zp8
    rw [ez]
    clear ez
    obtain ⟨hP, hD⟩ := va_join (wr := [(q_x, .inr (5, [.ref q_nt, .ref q_rw, .ref q_rv, .ref q_hd, .ref q_lk, .ref q_rg]))]) (w1 := [(q_lk, .inr (1, [.ref q_nt, .ref q_kn, .ref q_fi, .int (nI (cK n t 20))])), (q_kn, .inl (cI, 8, .inl (aN zkd96))), (q_fi, .inl (cI, 8, .inl (aN zfi97))), (q_nt, .inr (2, [.ref q_en, .ref q_ba, .ref q_de, .int (nI n), .int (nI (prs t))])), (q_en, .inl (cI, 32, .inl (aE t))), (q_ba, .inl (cZ, 32, .inl (aB w))), (q_de, .inl (cI, 8, .inl (aN (dg t))))]) hP hD [5, 6, 7, 1, 2, 3, 4] [0] rfl rfl (by decide) (by decide) hk1 hFc hP1 hD1
    have hP : va_P D vwCl [(q_x, .inr (5, [.ref q_nt, .ref q_rw, .ref q_rv, .ref q_hd, .ref q_lk, .ref q_rg])), (q_lk, .inr (1, [.ref q_nt, .ref q_kn, .ref q_fi, .int (nI (cK n t 20))])), (q_kn, .inl (cI, 8, .inl (aN zkd96))), (q_fi, .inl (cI, 8, .inl (aN zfi97))), (q_nt, .inr (2, [.ref q_en, .ref q_ba, .ref q_de, .int (nI n), .int (nI (prs t))])), (q_en, .inl (cI, 32, .inl (aE t))), (q_ba, .inl (cZ, 32, .inl (aB w))), (q_de, .inl (cI, 8, .inl (aN (dg t))))] H1 := hP
    have hD : va_D A [(q_x, .inr (5, [.ref q_nt, .ref q_rw, .ref q_rv, .ref q_hd, .ref q_lk, .ref q_rg])), (q_lk, .inr (1, [.ref q_nt, .ref q_kn, .ref q_fi, .int (nI (cK n t 20))])), (q_kn, .inl (cI, 8, .inl (aN zkd96))), (q_fi, .inl (cI, 8, .inl (aN zfi97))), (q_nt, .inr (2, [.ref q_en, .ref q_ba, .ref q_de, .int (nI n), .int (nI (prs t))])), (q_en, .inl (cI, 32, .inl (aE t))), (q_ba, .inl (cZ, 32, .inl (aB w))), (q_de, .inl (cI, 8, .inl (aN (dg t))))] := hD
    clear hP1 hD1 hk1 hz1 hFc hDc hPc ht hvm
    refine lv_goto (tgt := 24) hx hb dX5_deep_19 (by decide) ?_
    obtain ⟨kd9, fi9, ct9, er, ec_kn, ec_fi, ec_ct⟩ := hw
    have hP9 : va_P D vwCl [(q_x, .inr (5, [.ref q_nt, .ref q_rw, .ref q_rv, .ref q_hd, .ref q_lk, .ref q_rg])), (q_nt, .inr (2, [.ref q_en, .ref q_ba, .ref q_de, .int (nI n), .int (nI (prs t))])), (q_en, .inl (cI, 32, .inl (aE t))), (q_ba, .inl (cZ, 32, .inl (aB w))), (q_de, .inl (cI, 8, .inl (aN (dg t)))), (q_lk, .inr (1, [.ref q_nt, .ref q_kn, .ref q_fi, .int (nI (cK n t 20))])), (q_kn, .inl (cI, 8, .inl (aN zkd96))), (q_fi, .inl (cI, 8, .inl (aN zfi97)))] H1 := hP.sub [0, 4, 5, 6, 7, 1, 2, 3] rfl
    have hD9 : va_D A [(q_x, .inr (5, [.ref q_nt, .ref q_rw, .ref q_rv, .ref q_hd, .ref q_lk, .ref q_rg])), (q_nt, .inr (2, [.ref q_en, .ref q_ba, .ref q_de, .int (nI n), .int (nI (prs t))])), (q_en, .inl (cI, 32, .inl (aE t))), (q_ba, .inl (cZ, 32, .inl (aB w))), (q_de, .inl (cI, 8, .inl (aN (dg t)))), (q_lk, .inr (1, [.ref q_nt, .ref q_kn, .ref q_fi, .int (nI (cK n t 20))])), (q_kn, .inl (cI, 8, .inl (aN zkd96))), (q_fi, .inl (cI, 8, .inl (aN zfi97)))] := hD.sub [0, 4, 5, 6, 7, 1, 2, 3] (by decide) rfl
    have hP9 : va_P D vwCl [(q_x, .inr (5, [.ref q_nt, .ref q_rw, .ref q_rv, .ref q_hd, .ref q_lk, .ref q_rg])), (q_nt, .inr (2, [.ref q_en, .ref q_ba, .ref q_de, .int (nI n), .int (nI (prs t))])), (q_en, .inl (cI, 32, .inl (aE t))), (q_ba, .inl (cZ, 32, .inl (aB w))), (q_de, .inl (cI, 8, .inl (aN (dg t)))), (q_lk, .inr (1, [.ref q_nt, .ref q_kn, .ref q_fi, .int (nI (cK n t 20))])), (q_kn, .inl (cI, 8, .inl (aN kd9))), (q_fi, .inl (cI, 8, .inl (aN zfi97)))] H1 := z_arr hP9 6 rfl (fun zi hi => congrArg nI (ec_kn zi hi))
    have hD9 : va_D A [(q_x, .inr (5, [.ref q_nt, .ref q_rw, .ref q_rv, .ref q_hd, .ref q_lk, .ref q_rg])), (q_nt, .inr (2, [.ref q_en, .ref q_ba, .ref q_de, .int (nI n), .int (nI (prs t))])), (q_en, .inl (cI, 32, .inl (aE t))), (q_ba, .inl (cZ, 32, .inl (aB w))), (q_de, .inl (cI, 8, .inl (aN (dg t)))), (q_lk, .inr (1, [.ref q_nt, .ref q_kn, .ref q_fi, .int (nI (cK n t 20))])), (q_kn, .inl (cI, 8, .inl (aN kd9))), (q_fi, .inl (cI, 8, .inl (aN zfi97)))] := hD9.set (p := 6) (e := .inl (cI, 8, .inl (aN kd9))) rfl
    have hP9 : va_P D vwCl [(q_x, .inr (5, [.ref q_nt, .ref q_rw, .ref q_rv, .ref q_hd, .ref q_lk, .ref q_rg])), (q_nt, .inr (2, [.ref q_en, .ref q_ba, .ref q_de, .int (nI n), .int (nI (prs t))])), (q_en, .inl (cI, 32, .inl (aE t))), (q_ba, .inl (cZ, 32, .inl (aB w))), (q_de, .inl (cI, 8, .inl (aN (dg t)))), (q_lk, .inr (1, [.ref q_nt, .ref q_kn, .ref q_fi, .int (nI (cK n t 20))])), (q_kn, .inl (cI, 8, .inl (aN kd9))), (q_fi, .inl (cI, 8, .inl (aN fi9)))] H1 := z_arr hP9 7 rfl (fun zi hi => congrArg nI (ec_fi zi hi))
    have hD9 : va_D A [(q_x, .inr (5, [.ref q_nt, .ref q_rw, .ref q_rv, .ref q_hd, .ref q_lk, .ref q_rg])), (q_nt, .inr (2, [.ref q_en, .ref q_ba, .ref q_de, .int (nI n), .int (nI (prs t))])), (q_en, .inl (cI, 32, .inl (aE t))), (q_ba, .inl (cZ, 32, .inl (aB w))), (q_de, .inl (cI, 8, .inl (aN (dg t)))), (q_lk, .inr (1, [.ref q_nt, .ref q_kn, .ref q_fi, .int (nI (cK n t 20))])), (q_kn, .inl (cI, 8, .inl (aN kd9))), (q_fi, .inl (cI, 8, .inl (aN fi9)))] := hD9.set (p := 7) (e := .inl (cI, 8, .inl (aN fi9))) rfl
    have hP9 : va_P D vwCl [(q_x, .inr (5, [.ref q_nt, .ref q_rw, .ref q_rv, .ref q_hd, .ref q_lk, .ref q_rg])), (q_nt, .inr (2, [.ref q_en, .ref q_ba, .ref q_de, .int (nI n), .int (nI (prs t))])), (q_en, .inl (cI, 32, .inl (aE t))), (q_ba, .inl (cZ, 32, .inl (aB w))), (q_de, .inl (cI, 8, .inl (aN (dg t)))), (q_lk, .inr (1, [.ref q_nt, .ref q_kn, .ref q_fi, .int (nI ct9)])), (q_kn, .inl (cI, 8, .inl (aN kd9))), (q_fi, .inl (cI, 8, .inl (aN fi9)))] H1 := (congrArg (fun z9 : Nat => va_P D vwCl [(q_x, .inr (5, [.ref q_nt, .ref q_rw, .ref q_rv, .ref q_hd, .ref q_lk, .ref q_rg])), (q_nt, .inr (2, [.ref q_en, .ref q_ba, .ref q_de, .int (nI n), .int (nI (prs t))])), (q_en, .inl (cI, 32, .inl (aE t))), (q_ba, .inl (cZ, 32, .inl (aB w))), (q_de, .inl (cI, 8, .inl (aN (dg t)))), (q_lk, .inr (1, [.ref q_nt, .ref q_kn, .ref q_fi, .int (nI z9)])), (q_kn, .inl (cI, 8, .inl (aN kd9))), (q_fi, .inl (cI, 8, .inl (aN fi9)))] H1) ec_ct).mp hP9
    have hD9 : va_D A [(q_x, .inr (5, [.ref q_nt, .ref q_rw, .ref q_rv, .ref q_hd, .ref q_lk, .ref q_rg])), (q_nt, .inr (2, [.ref q_en, .ref q_ba, .ref q_de, .int (nI n), .int (nI (prs t))])), (q_en, .inl (cI, 32, .inl (aE t))), (q_ba, .inl (cZ, 32, .inl (aB w))), (q_de, .inl (cI, 8, .inl (aN (dg t)))), (q_lk, .inr (1, [.ref q_nt, .ref q_kn, .ref q_fi, .int (nI ct9)])), (q_kn, .inl (cI, 8, .inl (aN kd9))), (q_fi, .inl (cI, 8, .inl (aN fi9)))] := (congrArg (fun z9 : Nat => va_D A [(q_x, .inr (5, [.ref q_nt, .ref q_rw, .ref q_rv, .ref q_hd, .ref q_lk, .ref q_rg])), (q_nt, .inr (2, [.ref q_en, .ref q_ba, .ref q_de, .int (nI n), .int (nI (prs t))])), (q_en, .inl (cI, 32, .inl (aE t))), (q_ba, .inl (cZ, 32, .inl (aB w))), (q_de, .inl (cI, 8, .inl (aN (dg t)))), (q_lk, .inr (1, [.ref q_nt, .ref q_kn, .ref q_fi, .int (nI z9)])), (q_kn, .inl (cI, 8, .inl (aN kd9))), (q_fi, .inl (cI, 8, .inl (aN fi9)))]) ec_ct).mp hD9
    exact W.iret (v := nI (dpF n t 20 0)) hx hb hr (fun t ht hW => ⟨⟨_, (kd9, fi9, ct9), rfl, er, by rw [ht]; exact hP9, hD9⟩, hS.F ht⟩) hS.2.2 dX5_deep_24
theorem m_X5_apart_f10 : Cond.fieldLink RX5 10 "NetWalkers" "net" "LNetWalkers$Net;" ∈ wsX5_apart := by decide +kernel
theorem i_X5_apart_X5 : ∀ w ∈ wsX50, w ∈ wsX5_apart := by decide +kernel
theorem m_X5_apart_f38 : Cond.fieldLink RX5 38 "NetWalkers" "looks" "LNetWalkers$Looks;" ∈ wsX5_apart := by decide +kernel
set_option maxRecDepth 100000 in
set_option maxHeartbeats 4000000 in
theorem w_X5_apart {l : Launch} {D : va_G} {cI cZ : ClassId} (k_X2_hasPost : K_X2_hasPost l D cI cZ) (k_X2_isReady : K_X2_isReady l D cI cZ) (k_X1_depthApart : K_X1_depthApart l D cI cZ) (vv : V_X5_apart) : K_X5_apart l D cI cZ := by
  intro q_x q_nt q_en q_ba q_de q_lk q_kn q_fi q_rw q_rv q_hd q_rg sz n t w kd fi ct a b hpre0
  have vw := vv n t w kd fi ct a b hpre0
  refine Met.ofW (cc := cX5_apart) (maxL := 3) (ret := (some .int)) (by decide) rfl ?_
  intro zp ze zs zm zargs zbelow zmeth zc zs1 B hml hv
  obtain ⟨rfl, hsz, hZ, hP, hD0⟩ := hv
  have hx := B.exec
  have hb := B.bytes
  have hr := B.returns
  have hts := atoms_spec (ws := wsX5_apart) B.pre
  have hown : zs.vm.findClass RX5 = some zm.cls := findClass_of_methodNamed B.named
  have hlocks := B.notSynchronized
  subst hsz
  have hD := hD0.self (sz := zs.heap.size)
  generalize hAe : va_A [(q_x, .inr (5, [.ref q_nt, .ref q_rw, .ref q_rv, .ref q_hd, .ref q_lk, .ref q_rg])), (q_nt, .inr (2, [.ref q_en, .ref q_ba, .ref q_de, .int (nI n), .int (nI (prs t))])), (q_en, .inl (cI, 32, .inl (aE t))), (q_ba, .inl (cZ, 32, .inl (aB w))), (q_de, .inl (cI, 8, .inl (aN (dg t)))), (q_lk, .inr (1, [.ref q_nt, .ref q_kn, .ref q_fi, .int (nI ct)])), (q_kn, .inl (cI, 8, .inl (aN kd))), (q_fi, .inl (cI, 8, .inl (aN fi)))] zs.heap.size = A at hD ⊢
  have hA : ∀ q : Nat, zs.heap.size ≤ q → A q := fun q h => by rw [← hAe]; exact Or.inr h
  have hS : va_S A zs.heap zs.heap [] := va_S.rf
  have hP : va_P D vwCl [(q_x, .inr (5, [.ref q_nt, .ref q_rw, .ref q_rv, .ref q_hd, .ref q_lk, .ref q_rg])), (q_nt, .inr (2, [.ref q_en, .ref q_ba, .ref q_de, .int (nI n), .int (nI (prs t))])), (q_en, .inl (cI, 32, .inl (aE t))), (q_ba, .inl (cZ, 32, .inl (aB w))), (q_de, .inl (cI, 8, .inl (aN (dg t)))), (q_lk, .inr (1, [.ref q_nt, .ref q_kn, .ref q_fi, .int (nI ct)])), (q_kn, .inl (cI, 8, .inl (aN kd))), (q_fi, .inl (cI, 8, .inl (aN fi)))] zs.heap := hP
  have hl := lv_entry ([.ref q_x, .int a, .int b]) (n := 3) (Nat.le_of_ble_eq_true rfl)
  rw [lg_entry_eq]
  generalize (lg_sl ([.ref q_x, .int a, .int b]) ++ List.replicate (3 - (lg_sl ([.ref q_x, .int a, .int b])).length) Slot.unset).toArray = ls at hl ⊢
  have hl : lv_has ls 3 [(0, .ref q_x), (1, .int a), (2, .int b)] := hl
  have hw := vw
  unfold B_X5_apart_in at hw
  refine lv_aload_n hx hb dX5_apart_0 rfl (lv_at hl 0 rfl) ?_
  refine va_get (D := D) (ci := 5) (v := .ref q_nt) (C := RX5) (T := TX5) (N := 6) hx hb hts i_X5_apart_X5 hown hZ.1 hP 0 rfl rfl 0 (by decide) (hts _ m_X5_apart_f10) (fun _ h9 => h9) rfl dX5_apart_1 ?_
  refine lv_iload_n hx hb dX5_apart_4 rfl (lv_at hl 1 rfl) ?_
  have hPc : va_P D vwCl [(q_nt, .inr (2, [.ref q_en, .ref q_ba, .ref q_de, .int (nI n), .int (nI (prs t))])), (q_en, .inl (cI, 32, .inl (aE t))), (q_ba, .inl (cZ, 32, .inl (aB w))), (q_de, .inl (cI, 8, .inl (aN (dg t))))] zs.heap := hP.sub [1, 2, 3, 4] rfl
  refine z_ro (va_runV (As := [.int a]) (rest := []) ⟨hx, hb, hml, hown, hts⟩ (k_X2_hasPost q_nt q_en q_ba q_de n t w a) (cwV 1 hts gX5_apart_X2_hasPost rfl rfl rfl (by decide +kernel) ⟨Nat.le_of_ble_eq_true rfl, Nat.le_of_ble_eq_true rfl⟩) (zPr_V hZ hPc 0 rfl rfl) rfl rfl hl.1 rfl (lv_room (Nat.le_of_ble_eq_true rfl)) dX5_apart_5 ⟨Nat.zero_le _, Nat.zero_le _⟩) (fun zr1 hzr1 => ?_)
  have ez := hzr1
  rw [ez]
  clear ez hzr1
  obtain ⟨hwt, hwf⟩ := hw
  refine z_if_eqb hx hb (tgt := 22) dX5_apart_8 (by decide) (fun cc => ?_) (fun cc => ?_)
  · replace hw := hwt cc
    refine lv_iconst (v := (-1)) hx hb dX5_apart_22 (by decide +kernel) ?_
    obtain ⟨kd9, fi9, ct9, er, ec_kn, ec_fi, ec_ct⟩ := hw
    have hP9 : va_P D vwCl [(q_x, .inr (5, [.ref q_nt, .ref q_rw, .ref q_rv, .ref q_hd, .ref q_lk, .ref q_rg])), (q_nt, .inr (2, [.ref q_en, .ref q_ba, .ref q_de, .int (nI n), .int (nI (prs t))])), (q_en, .inl (cI, 32, .inl (aE t))), (q_ba, .inl (cZ, 32, .inl (aB w))), (q_de, .inl (cI, 8, .inl (aN (dg t)))), (q_lk, .inr (1, [.ref q_nt, .ref q_kn, .ref q_fi, .int (nI ct)])), (q_kn, .inl (cI, 8, .inl (aN kd))), (q_fi, .inl (cI, 8, .inl (aN fi)))] zs.heap := hP.sub [0, 1, 2, 3, 4, 5, 6, 7] rfl
    have hD9 : va_D A [(q_x, .inr (5, [.ref q_nt, .ref q_rw, .ref q_rv, .ref q_hd, .ref q_lk, .ref q_rg])), (q_nt, .inr (2, [.ref q_en, .ref q_ba, .ref q_de, .int (nI n), .int (nI (prs t))])), (q_en, .inl (cI, 32, .inl (aE t))), (q_ba, .inl (cZ, 32, .inl (aB w))), (q_de, .inl (cI, 8, .inl (aN (dg t)))), (q_lk, .inr (1, [.ref q_nt, .ref q_kn, .ref q_fi, .int (nI ct)])), (q_kn, .inl (cI, 8, .inl (aN kd))), (q_fi, .inl (cI, 8, .inl (aN fi)))] := hD.sub [0, 1, 2, 3, 4, 5, 6, 7] (by decide) rfl
    have hP9 : va_P D vwCl [(q_x, .inr (5, [.ref q_nt, .ref q_rw, .ref q_rv, .ref q_hd, .ref q_lk, .ref q_rg])), (q_nt, .inr (2, [.ref q_en, .ref q_ba, .ref q_de, .int (nI n), .int (nI (prs t))])), (q_en, .inl (cI, 32, .inl (aE t))), (q_ba, .inl (cZ, 32, .inl (aB w))), (q_de, .inl (cI, 8, .inl (aN (dg t)))), (q_lk, .inr (1, [.ref q_nt, .ref q_kn, .ref q_fi, .int (nI ct)])), (q_kn, .inl (cI, 8, .inl (aN kd9))), (q_fi, .inl (cI, 8, .inl (aN fi)))] zs.heap := z_arr hP9 6 rfl (fun zi hi => congrArg nI (ec_kn zi hi))
    have hD9 : va_D A [(q_x, .inr (5, [.ref q_nt, .ref q_rw, .ref q_rv, .ref q_hd, .ref q_lk, .ref q_rg])), (q_nt, .inr (2, [.ref q_en, .ref q_ba, .ref q_de, .int (nI n), .int (nI (prs t))])), (q_en, .inl (cI, 32, .inl (aE t))), (q_ba, .inl (cZ, 32, .inl (aB w))), (q_de, .inl (cI, 8, .inl (aN (dg t)))), (q_lk, .inr (1, [.ref q_nt, .ref q_kn, .ref q_fi, .int (nI ct)])), (q_kn, .inl (cI, 8, .inl (aN kd9))), (q_fi, .inl (cI, 8, .inl (aN fi)))] := hD9.set (p := 6) (e := .inl (cI, 8, .inl (aN kd9))) rfl
    have hP9 : va_P D vwCl [(q_x, .inr (5, [.ref q_nt, .ref q_rw, .ref q_rv, .ref q_hd, .ref q_lk, .ref q_rg])), (q_nt, .inr (2, [.ref q_en, .ref q_ba, .ref q_de, .int (nI n), .int (nI (prs t))])), (q_en, .inl (cI, 32, .inl (aE t))), (q_ba, .inl (cZ, 32, .inl (aB w))), (q_de, .inl (cI, 8, .inl (aN (dg t)))), (q_lk, .inr (1, [.ref q_nt, .ref q_kn, .ref q_fi, .int (nI ct)])), (q_kn, .inl (cI, 8, .inl (aN kd9))), (q_fi, .inl (cI, 8, .inl (aN fi9)))] zs.heap := z_arr hP9 7 rfl (fun zi hi => congrArg nI (ec_fi zi hi))
    have hD9 : va_D A [(q_x, .inr (5, [.ref q_nt, .ref q_rw, .ref q_rv, .ref q_hd, .ref q_lk, .ref q_rg])), (q_nt, .inr (2, [.ref q_en, .ref q_ba, .ref q_de, .int (nI n), .int (nI (prs t))])), (q_en, .inl (cI, 32, .inl (aE t))), (q_ba, .inl (cZ, 32, .inl (aB w))), (q_de, .inl (cI, 8, .inl (aN (dg t)))), (q_lk, .inr (1, [.ref q_nt, .ref q_kn, .ref q_fi, .int (nI ct)])), (q_kn, .inl (cI, 8, .inl (aN kd9))), (q_fi, .inl (cI, 8, .inl (aN fi9)))] := hD9.set (p := 7) (e := .inl (cI, 8, .inl (aN fi9))) rfl
    have hP9 : va_P D vwCl [(q_x, .inr (5, [.ref q_nt, .ref q_rw, .ref q_rv, .ref q_hd, .ref q_lk, .ref q_rg])), (q_nt, .inr (2, [.ref q_en, .ref q_ba, .ref q_de, .int (nI n), .int (nI (prs t))])), (q_en, .inl (cI, 32, .inl (aE t))), (q_ba, .inl (cZ, 32, .inl (aB w))), (q_de, .inl (cI, 8, .inl (aN (dg t)))), (q_lk, .inr (1, [.ref q_nt, .ref q_kn, .ref q_fi, .int (nI ct9)])), (q_kn, .inl (cI, 8, .inl (aN kd9))), (q_fi, .inl (cI, 8, .inl (aN fi9)))] zs.heap := (congrArg (fun z9 : Nat => va_P D vwCl [(q_x, .inr (5, [.ref q_nt, .ref q_rw, .ref q_rv, .ref q_hd, .ref q_lk, .ref q_rg])), (q_nt, .inr (2, [.ref q_en, .ref q_ba, .ref q_de, .int (nI n), .int (nI (prs t))])), (q_en, .inl (cI, 32, .inl (aE t))), (q_ba, .inl (cZ, 32, .inl (aB w))), (q_de, .inl (cI, 8, .inl (aN (dg t)))), (q_lk, .inr (1, [.ref q_nt, .ref q_kn, .ref q_fi, .int (nI z9)])), (q_kn, .inl (cI, 8, .inl (aN kd9))), (q_fi, .inl (cI, 8, .inl (aN fi9)))] zs.heap) ec_ct).mp hP9
    have hD9 : va_D A [(q_x, .inr (5, [.ref q_nt, .ref q_rw, .ref q_rv, .ref q_hd, .ref q_lk, .ref q_rg])), (q_nt, .inr (2, [.ref q_en, .ref q_ba, .ref q_de, .int (nI n), .int (nI (prs t))])), (q_en, .inl (cI, 32, .inl (aE t))), (q_ba, .inl (cZ, 32, .inl (aB w))), (q_de, .inl (cI, 8, .inl (aN (dg t)))), (q_lk, .inr (1, [.ref q_nt, .ref q_kn, .ref q_fi, .int (nI ct9)])), (q_kn, .inl (cI, 8, .inl (aN kd9))), (q_fi, .inl (cI, 8, .inl (aN fi9)))] := (congrArg (fun z9 : Nat => va_D A [(q_x, .inr (5, [.ref q_nt, .ref q_rw, .ref q_rv, .ref q_hd, .ref q_lk, .ref q_rg])), (q_nt, .inr (2, [.ref q_en, .ref q_ba, .ref q_de, .int (nI n), .int (nI (prs t))])), (q_en, .inl (cI, 32, .inl (aE t))), (q_ba, .inl (cZ, 32, .inl (aB w))), (q_de, .inl (cI, 8, .inl (aN (dg t)))), (q_lk, .inr (1, [.ref q_nt, .ref q_kn, .ref q_fi, .int (nI z9)])), (q_kn, .inl (cI, 8, .inl (aN kd9))), (q_fi, .inl (cI, 8, .inl (aN fi9)))]) ec_ct).mp hD9
    exact W.iret (v := (-1)) hx hb hr (fun t ht hW => ⟨⟨_, (kd9, fi9, ct9), rfl, er, by rw [ht]; exact hP9, hD9⟩, hS.F ht⟩) hS.2.2 dX5_apart_23
  · replace hw := hwf cc
    refine lv_aload_n hx hb dX5_apart_11 rfl (lv_at hl 0 rfl) ?_
    refine va_get (D := D) (ci := 5) (v := .ref q_nt) (C := RX5) (T := TX5) (N := 6) hx hb hts i_X5_apart_X5 hown hZ.1 hP 0 rfl rfl 0 (by decide) (hts _ m_X5_apart_f10) (fun _ h9 => h9) rfl dX5_apart_12 ?_
    refine lv_iload_n hx hb dX5_apart_15 rfl (lv_at hl 2 rfl) ?_
    have hPc : va_P D vwCl [(q_nt, .inr (2, [.ref q_en, .ref q_ba, .ref q_de, .int (nI n), .int (nI (prs t))])), (q_en, .inl (cI, 32, .inl (aE t))), (q_ba, .inl (cZ, 32, .inl (aB w))), (q_de, .inl (cI, 8, .inl (aN (dg t))))] zs.heap := hP.sub [1, 2, 3, 4] rfl
    refine z_ro (va_runV (As := [.int b]) (rest := []) ⟨hx, hb, hml, hown, hts⟩ (k_X2_hasPost q_nt q_en q_ba q_de n t w b) (cwV 1 hts gX5_apart_X2_hasPost rfl rfl rfl (by decide +kernel) ⟨Nat.le_of_ble_eq_true rfl, Nat.le_of_ble_eq_true rfl⟩) (zPr_V hZ hPc 0 rfl rfl) rfl rfl hl.1 rfl (lv_room (Nat.le_of_ble_eq_true rfl)) dX5_apart_16 ⟨Nat.zero_le _, Nat.zero_le _⟩) (fun zr2 hzr2 => ?_)
    have ez := hzr2
    rw [ez]
    clear ez hzr2
    obtain ⟨hwt, hwf⟩ := hw
    refine z_if_neb hx hb (tgt := 24) dX5_apart_19 (by decide) (fun cc => ?_) (fun cc => ?_)
    · replace hw := hwt cc
      refine lv_aload_n hx hb dX5_apart_24 rfl (lv_at hl 0 rfl) ?_
      refine va_get (D := D) (ci := 5) (v := .ref q_nt) (C := RX5) (T := TX5) (N := 6) hx hb hts i_X5_apart_X5 hown hZ.1 hP 0 rfl rfl 0 (by decide) (hts _ m_X5_apart_f10) (fun _ h9 => h9) rfl dX5_apart_25 ?_
      obtain ⟨zh3, hw⟩ := hw
      have hPc : va_P D vwCl [(q_nt, .inr (2, [.ref q_en, .ref q_ba, .ref q_de, .int (nI n), .int (nI (prs t))])), (q_en, .inl (cI, 32, .inl (aE t))), (q_ba, .inl (cZ, 32, .inl (aB w))), (q_de, .inl (cI, 8, .inl (aN (dg t))))] zs.heap := hP.sub [1, 2, 3, 4] rfl
      refine z_ro (va_runV (As := []) (rest := []) ⟨hx, hb, hml, hown, hts⟩ (k_X2_isReady q_nt q_en q_ba q_de n t w zh3) (cwV 0 hts gX5_apart_X2_isReady rfl rfl rfl (by decide +kernel) ⟨Nat.le_of_ble_eq_true rfl, Nat.le_of_ble_eq_true rfl⟩) (zPr_V hZ hPc 0 rfl rfl) rfl rfl hl.1 rfl (lv_room (Nat.le_of_ble_eq_true rfl)) dX5_apart_28 ⟨Nat.zero_le _, Nat.zero_le _⟩) (fun zr4 hzr4 => ?_)
      have ez := hzr4
      rw [ez]
      clear ez hzr4
      obtain ⟨hwt, hwf⟩ := hw
      refine z_if_eqb hx hb (tgt := 46) dX5_apart_31 (by decide) (fun cc => ?_) (fun cc => ?_)
      · replace hw := hwt cc
        refine lv_bipush (v := (-3)) hx hb dX5_apart_46 (by decide +kernel) ?_
        obtain ⟨kd9, fi9, ct9, er, ec_kn, ec_fi, ec_ct⟩ := hw
        have hP9 : va_P D vwCl [(q_x, .inr (5, [.ref q_nt, .ref q_rw, .ref q_rv, .ref q_hd, .ref q_lk, .ref q_rg])), (q_nt, .inr (2, [.ref q_en, .ref q_ba, .ref q_de, .int (nI n), .int (nI (prs t))])), (q_en, .inl (cI, 32, .inl (aE t))), (q_ba, .inl (cZ, 32, .inl (aB w))), (q_de, .inl (cI, 8, .inl (aN (dg t)))), (q_lk, .inr (1, [.ref q_nt, .ref q_kn, .ref q_fi, .int (nI ct)])), (q_kn, .inl (cI, 8, .inl (aN kd))), (q_fi, .inl (cI, 8, .inl (aN fi)))] zs.heap := hP.sub [0, 1, 2, 3, 4, 5, 6, 7] rfl
        have hD9 : va_D A [(q_x, .inr (5, [.ref q_nt, .ref q_rw, .ref q_rv, .ref q_hd, .ref q_lk, .ref q_rg])), (q_nt, .inr (2, [.ref q_en, .ref q_ba, .ref q_de, .int (nI n), .int (nI (prs t))])), (q_en, .inl (cI, 32, .inl (aE t))), (q_ba, .inl (cZ, 32, .inl (aB w))), (q_de, .inl (cI, 8, .inl (aN (dg t)))), (q_lk, .inr (1, [.ref q_nt, .ref q_kn, .ref q_fi, .int (nI ct)])), (q_kn, .inl (cI, 8, .inl (aN kd))), (q_fi, .inl (cI, 8, .inl (aN fi)))] := hD.sub [0, 1, 2, 3, 4, 5, 6, 7] (by decide) rfl
        have hP9 : va_P D vwCl [(q_x, .inr (5, [.ref q_nt, .ref q_rw, .ref q_rv, .ref q_hd, .ref q_lk, .ref q_rg])), (q_nt, .inr (2, [.ref q_en, .ref q_ba, .ref q_de, .int (nI n), .int (nI (prs t))])), (q_en, .inl (cI, 32, .inl (aE t))), (q_ba, .inl (cZ, 32, .inl (aB w))), (q_de, .inl (cI, 8, .inl (aN (dg t)))), (q_lk, .inr (1, [.ref q_nt, .ref q_kn, .ref q_fi, .int (nI ct)])), (q_kn, .inl (cI, 8, .inl (aN kd9))), (q_fi, .inl (cI, 8, .inl (aN fi)))] zs.heap := z_arr hP9 6 rfl (fun zi hi => congrArg nI (ec_kn zi hi))
        have hD9 : va_D A [(q_x, .inr (5, [.ref q_nt, .ref q_rw, .ref q_rv, .ref q_hd, .ref q_lk, .ref q_rg])), (q_nt, .inr (2, [.ref q_en, .ref q_ba, .ref q_de, .int (nI n), .int (nI (prs t))])), (q_en, .inl (cI, 32, .inl (aE t))), (q_ba, .inl (cZ, 32, .inl (aB w))), (q_de, .inl (cI, 8, .inl (aN (dg t)))), (q_lk, .inr (1, [.ref q_nt, .ref q_kn, .ref q_fi, .int (nI ct)])), (q_kn, .inl (cI, 8, .inl (aN kd9))), (q_fi, .inl (cI, 8, .inl (aN fi)))] := hD9.set (p := 6) (e := .inl (cI, 8, .inl (aN kd9))) rfl
        have hP9 : va_P D vwCl [(q_x, .inr (5, [.ref q_nt, .ref q_rw, .ref q_rv, .ref q_hd, .ref q_lk, .ref q_rg])), (q_nt, .inr (2, [.ref q_en, .ref q_ba, .ref q_de, .int (nI n), .int (nI (prs t))])), (q_en, .inl (cI, 32, .inl (aE t))), (q_ba, .inl (cZ, 32, .inl (aB w))), (q_de, .inl (cI, 8, .inl (aN (dg t)))), (q_lk, .inr (1, [.ref q_nt, .ref q_kn, .ref q_fi, .int (nI ct)])), (q_kn, .inl (cI, 8, .inl (aN kd9))), (q_fi, .inl (cI, 8, .inl (aN fi9)))] zs.heap := z_arr hP9 7 rfl (fun zi hi => congrArg nI (ec_fi zi hi))
        have hD9 : va_D A [(q_x, .inr (5, [.ref q_nt, .ref q_rw, .ref q_rv, .ref q_hd, .ref q_lk, .ref q_rg])), (q_nt, .inr (2, [.ref q_en, .ref q_ba, .ref q_de, .int (nI n), .int (nI (prs t))])), (q_en, .inl (cI, 32, .inl (aE t))), (q_ba, .inl (cZ, 32, .inl (aB w))), (q_de, .inl (cI, 8, .inl (aN (dg t)))), (q_lk, .inr (1, [.ref q_nt, .ref q_kn, .ref q_fi, .int (nI ct)])), (q_kn, .inl (cI, 8, .inl (aN kd9))), (q_fi, .inl (cI, 8, .inl (aN fi9)))] := hD9.set (p := 7) (e := .inl (cI, 8, .inl (aN fi9))) rfl
        have hP9 : va_P D vwCl [(q_x, .inr (5, [.ref q_nt, .ref q_rw, .ref q_rv, .ref q_hd, .ref q_lk, .ref q_rg])), (q_nt, .inr (2, [.ref q_en, .ref q_ba, .ref q_de, .int (nI n), .int (nI (prs t))])), (q_en, .inl (cI, 32, .inl (aE t))), (q_ba, .inl (cZ, 32, .inl (aB w))), (q_de, .inl (cI, 8, .inl (aN (dg t)))), (q_lk, .inr (1, [.ref q_nt, .ref q_kn, .ref q_fi, .int (nI ct9)])), (q_kn, .inl (cI, 8, .inl (aN kd9))), (q_fi, .inl (cI, 8, .inl (aN fi9)))] zs.heap := (congrArg (fun z9 : Nat => va_P D vwCl [(q_x, .inr (5, [.ref q_nt, .ref q_rw, .ref q_rv, .ref q_hd, .ref q_lk, .ref q_rg])), (q_nt, .inr (2, [.ref q_en, .ref q_ba, .ref q_de, .int (nI n), .int (nI (prs t))])), (q_en, .inl (cI, 32, .inl (aE t))), (q_ba, .inl (cZ, 32, .inl (aB w))), (q_de, .inl (cI, 8, .inl (aN (dg t)))), (q_lk, .inr (1, [.ref q_nt, .ref q_kn, .ref q_fi, .int (nI z9)])), (q_kn, .inl (cI, 8, .inl (aN kd9))), (q_fi, .inl (cI, 8, .inl (aN fi9)))] zs.heap) ec_ct).mp hP9
        have hD9 : va_D A [(q_x, .inr (5, [.ref q_nt, .ref q_rw, .ref q_rv, .ref q_hd, .ref q_lk, .ref q_rg])), (q_nt, .inr (2, [.ref q_en, .ref q_ba, .ref q_de, .int (nI n), .int (nI (prs t))])), (q_en, .inl (cI, 32, .inl (aE t))), (q_ba, .inl (cZ, 32, .inl (aB w))), (q_de, .inl (cI, 8, .inl (aN (dg t)))), (q_lk, .inr (1, [.ref q_nt, .ref q_kn, .ref q_fi, .int (nI ct9)])), (q_kn, .inl (cI, 8, .inl (aN kd9))), (q_fi, .inl (cI, 8, .inl (aN fi9)))] := (congrArg (fun z9 : Nat => va_D A [(q_x, .inr (5, [.ref q_nt, .ref q_rw, .ref q_rv, .ref q_hd, .ref q_lk, .ref q_rg])), (q_nt, .inr (2, [.ref q_en, .ref q_ba, .ref q_de, .int (nI n), .int (nI (prs t))])), (q_en, .inl (cI, 32, .inl (aE t))), (q_ba, .inl (cZ, 32, .inl (aB w))), (q_de, .inl (cI, 8, .inl (aN (dg t)))), (q_lk, .inr (1, [.ref q_nt, .ref q_kn, .ref q_fi, .int (nI z9)])), (q_kn, .inl (cI, 8, .inl (aN kd9))), (q_fi, .inl (cI, 8, .inl (aN fi9)))]) ec_ct).mp hD9
        exact W.iret (v := (-3)) hx hb hr (fun t ht hW => ⟨⟨_, (kd9, fi9, ct9), rfl, er, by rw [ht]; exact hP9, hD9⟩, hS.F ht⟩) hS.2.2 dX5_apart_48
      · replace hw := hwf cc
        refine lv_aload_n hx hb dX5_apart_34 rfl (lv_at hl 0 rfl) ?_
        refine va_get (D := D) (ci := 5) (v := .ref q_lk) (C := RX5) (T := TX5) (N := 6) hx hb hts i_X5_apart_X5 hown hZ.1 hP 0 rfl rfl 4 (by decide) (hts _ m_X5_apart_f38) (fun _ h9 => h9) rfl dX5_apart_35 ?_
        refine lv_iload_n hx hb dX5_apart_38 rfl (lv_at hl 1 rfl) ?_
        refine lv_iload_n hx hb dX5_apart_39 rfl (lv_at hl 2 rfl) ?_
        obtain ⟨zk5, ezk5, hw⟩ := hw
        refine z_st (st' := [.int b, .int (nI zk5), .ref q_lk]) (by rw [ezk5]) ?_
        obtain ⟨zk6, ezk6, hw⟩ := hw
        refine z_st (st' := [.int (nI zk6), .int (nI zk5), .ref q_lk]) (by rw [ezk6]) ?_
        obtain ⟨zh7, hw⟩ := hw
        obtain ⟨zh8, hw⟩ := hw
        obtain ⟨zh9, hw⟩ := hw
        obtain ⟨zh10, hw⟩ := hw
        have hPc : va_P D vwCl [(q_lk, .inr (1, [.ref q_nt, .ref q_kn, .ref q_fi, .int (nI ct)])), (q_kn, .inl (cI, 8, .inl (aN kd))), (q_fi, .inl (cI, 8, .inl (aN fi))), (q_nt, .inr (2, [.ref q_en, .ref q_ba, .ref q_de, .int (nI n), .int (nI (prs t))])), (q_en, .inl (cI, 32, .inl (aE t))), (q_ba, .inl (cZ, 32, .inl (aB w))), (q_de, .inl (cI, 8, .inl (aN (dg t))))] zs.heap := hP.sub [5, 6, 7, 1, 2, 3, 4] rfl
        have hDc : va_D A [(q_lk, .inr (1, [.ref q_nt, .ref q_kn, .ref q_fi, .int (nI ct)])), (q_kn, .inl (cI, 8, .inl (aN kd))), (q_fi, .inl (cI, 8, .inl (aN fi))), (q_nt, .inr (2, [.ref q_en, .ref q_ba, .ref q_de, .int (nI n), .int (nI (prs t))])), (q_en, .inl (cI, 32, .inl (aE t))), (q_ba, .inl (cZ, 32, .inl (aB w))), (q_de, .inl (cI, 8, .inl (aN (dg t))))] := hD.sub [5, 6, 7, 1, 2, 3, 4] (by decide) rfl
        have hFc := va_free (wc := [(q_lk, .inr (1, [.ref q_nt, .ref q_kn, .ref q_fi, .int (nI ct)])), (q_kn, .inl (cI, 8, .inl (aN kd))), (q_fi, .inl (cI, 8, .inl (aN fi))), (q_nt, .inr (2, [.ref q_en, .ref q_ba, .ref q_de, .int (nI n), .int (nI (prs t))])), (q_en, .inl (cI, 32, .inl (aE t))), (q_ba, .inl (cZ, 32, .inl (aB w))), (q_de, .inl (cI, 8, .inl (aN (dg t))))]) hD hS hA [5, 6, 7, 1, 2, 3, 4] rfl
        refine va_calli (va_runV (As := [.int (nI zk5), .int (nI zk6)]) (rest := []) ⟨hx, hb, hml, hown, hts⟩ (k_X1_depthApart q_lk q_kn q_fi q_nt q_en q_ba q_de zs.heap.size kd fi ct n t w zk5 zk6 zh7 zh8 zh9 zh10) (cwV 2 hts gX5_apart_X1_depthApart rfl rfl rfl (by decide +kernel) ⟨Nat.le_of_ble_eq_true rfl, Nat.le_of_ble_eq_true rfl⟩) (zPw_V hZ hPc (hDc.weaken (fun _ _ _ _ => trivial)) 0 rfl rfl) rfl rfl hl.1 rfl (lv_room (Nat.le_of_ble_eq_true rfl)) dX5_apart_40 ⟨Nat.zero_le _, Nat.zero_le _⟩) hS (fun q _ h => hFc q h) hFc (fun zr14 zu zt H1 locs1 ht hvm hq hB hz1 hk1 hS => ?_)
        obtain ⟨zkd911, zfi912, zct913⟩ := zu
        have ez := hq
        obtain ⟨hP1, hD1⟩ := hB
        rw [ht] at hP1
        replace hw := hw zkd911 zfi912 zct913
        rw [ez]
        clear ez
        obtain ⟨hP, hD⟩ := va_join (wr := [(q_x, .inr (5, [.ref q_nt, .ref q_rw, .ref q_rv, .ref q_hd, .ref q_lk, .ref q_rg]))]) (w1 := [(q_lk, .inr (1, [.ref q_nt, .ref q_kn, .ref q_fi, .int (nI zct913)])), (q_kn, .inl (cI, 8, .inl (aN zkd911))), (q_fi, .inl (cI, 8, .inl (aN zfi912))), (q_nt, .inr (2, [.ref q_en, .ref q_ba, .ref q_de, .int (nI n), .int (nI (prs t))])), (q_en, .inl (cI, 32, .inl (aE t))), (q_ba, .inl (cZ, 32, .inl (aB w))), (q_de, .inl (cI, 8, .inl (aN (dg t))))]) hP hD [5, 6, 7, 1, 2, 3, 4] [0] rfl rfl (by decide) (by decide) hk1 hFc hP1 hD1
        have hP : va_P D vwCl [(q_x, .inr (5, [.ref q_nt, .ref q_rw, .ref q_rv, .ref q_hd, .ref q_lk, .ref q_rg])), (q_lk, .inr (1, [.ref q_nt, .ref q_kn, .ref q_fi, .int (nI zct913)])), (q_kn, .inl (cI, 8, .inl (aN zkd911))), (q_fi, .inl (cI, 8, .inl (aN zfi912))), (q_nt, .inr (2, [.ref q_en, .ref q_ba, .ref q_de, .int (nI n), .int (nI (prs t))])), (q_en, .inl (cI, 32, .inl (aE t))), (q_ba, .inl (cZ, 32, .inl (aB w))), (q_de, .inl (cI, 8, .inl (aN (dg t))))] H1 := hP
        have hD : va_D A [(q_x, .inr (5, [.ref q_nt, .ref q_rw, .ref q_rv, .ref q_hd, .ref q_lk, .ref q_rg])), (q_lk, .inr (1, [.ref q_nt, .ref q_kn, .ref q_fi, .int (nI zct913)])), (q_kn, .inl (cI, 8, .inl (aN zkd911))), (q_fi, .inl (cI, 8, .inl (aN zfi912))), (q_nt, .inr (2, [.ref q_en, .ref q_ba, .ref q_de, .int (nI n), .int (nI (prs t))])), (q_en, .inl (cI, 32, .inl (aE t))), (q_ba, .inl (cZ, 32, .inl (aB w))), (q_de, .inl (cI, 8, .inl (aN (dg t))))] := hD
        clear hP1 hD1 hk1 hz1 hFc hDc hPc ht hvm
        refine lv_goto (tgt := 48) hx hb dX5_apart_43 (by decide) ?_
        obtain ⟨kd9, fi9, ct9, er, ec_kn, ec_fi, ec_ct⟩ := hw
        have hP9 : va_P D vwCl [(q_x, .inr (5, [.ref q_nt, .ref q_rw, .ref q_rv, .ref q_hd, .ref q_lk, .ref q_rg])), (q_nt, .inr (2, [.ref q_en, .ref q_ba, .ref q_de, .int (nI n), .int (nI (prs t))])), (q_en, .inl (cI, 32, .inl (aE t))), (q_ba, .inl (cZ, 32, .inl (aB w))), (q_de, .inl (cI, 8, .inl (aN (dg t)))), (q_lk, .inr (1, [.ref q_nt, .ref q_kn, .ref q_fi, .int (nI zct913)])), (q_kn, .inl (cI, 8, .inl (aN zkd911))), (q_fi, .inl (cI, 8, .inl (aN zfi912)))] H1 := hP.sub [0, 4, 5, 6, 7, 1, 2, 3] rfl
        have hD9 : va_D A [(q_x, .inr (5, [.ref q_nt, .ref q_rw, .ref q_rv, .ref q_hd, .ref q_lk, .ref q_rg])), (q_nt, .inr (2, [.ref q_en, .ref q_ba, .ref q_de, .int (nI n), .int (nI (prs t))])), (q_en, .inl (cI, 32, .inl (aE t))), (q_ba, .inl (cZ, 32, .inl (aB w))), (q_de, .inl (cI, 8, .inl (aN (dg t)))), (q_lk, .inr (1, [.ref q_nt, .ref q_kn, .ref q_fi, .int (nI zct913)])), (q_kn, .inl (cI, 8, .inl (aN zkd911))), (q_fi, .inl (cI, 8, .inl (aN zfi912)))] := hD.sub [0, 4, 5, 6, 7, 1, 2, 3] (by decide) rfl
        have hP9 : va_P D vwCl [(q_x, .inr (5, [.ref q_nt, .ref q_rw, .ref q_rv, .ref q_hd, .ref q_lk, .ref q_rg])), (q_nt, .inr (2, [.ref q_en, .ref q_ba, .ref q_de, .int (nI n), .int (nI (prs t))])), (q_en, .inl (cI, 32, .inl (aE t))), (q_ba, .inl (cZ, 32, .inl (aB w))), (q_de, .inl (cI, 8, .inl (aN (dg t)))), (q_lk, .inr (1, [.ref q_nt, .ref q_kn, .ref q_fi, .int (nI zct913)])), (q_kn, .inl (cI, 8, .inl (aN kd9))), (q_fi, .inl (cI, 8, .inl (aN zfi912)))] H1 := z_arr hP9 6 rfl (fun zi hi => congrArg nI (ec_kn zi hi))
        have hD9 : va_D A [(q_x, .inr (5, [.ref q_nt, .ref q_rw, .ref q_rv, .ref q_hd, .ref q_lk, .ref q_rg])), (q_nt, .inr (2, [.ref q_en, .ref q_ba, .ref q_de, .int (nI n), .int (nI (prs t))])), (q_en, .inl (cI, 32, .inl (aE t))), (q_ba, .inl (cZ, 32, .inl (aB w))), (q_de, .inl (cI, 8, .inl (aN (dg t)))), (q_lk, .inr (1, [.ref q_nt, .ref q_kn, .ref q_fi, .int (nI zct913)])), (q_kn, .inl (cI, 8, .inl (aN kd9))), (q_fi, .inl (cI, 8, .inl (aN zfi912)))] := hD9.set (p := 6) (e := .inl (cI, 8, .inl (aN kd9))) rfl
        have hP9 : va_P D vwCl [(q_x, .inr (5, [.ref q_nt, .ref q_rw, .ref q_rv, .ref q_hd, .ref q_lk, .ref q_rg])), (q_nt, .inr (2, [.ref q_en, .ref q_ba, .ref q_de, .int (nI n), .int (nI (prs t))])), (q_en, .inl (cI, 32, .inl (aE t))), (q_ba, .inl (cZ, 32, .inl (aB w))), (q_de, .inl (cI, 8, .inl (aN (dg t)))), (q_lk, .inr (1, [.ref q_nt, .ref q_kn, .ref q_fi, .int (nI zct913)])), (q_kn, .inl (cI, 8, .inl (aN kd9))), (q_fi, .inl (cI, 8, .inl (aN fi9)))] H1 := z_arr hP9 7 rfl (fun zi hi => congrArg nI (ec_fi zi hi))
        have hD9 : va_D A [(q_x, .inr (5, [.ref q_nt, .ref q_rw, .ref q_rv, .ref q_hd, .ref q_lk, .ref q_rg])), (q_nt, .inr (2, [.ref q_en, .ref q_ba, .ref q_de, .int (nI n), .int (nI (prs t))])), (q_en, .inl (cI, 32, .inl (aE t))), (q_ba, .inl (cZ, 32, .inl (aB w))), (q_de, .inl (cI, 8, .inl (aN (dg t)))), (q_lk, .inr (1, [.ref q_nt, .ref q_kn, .ref q_fi, .int (nI zct913)])), (q_kn, .inl (cI, 8, .inl (aN kd9))), (q_fi, .inl (cI, 8, .inl (aN fi9)))] := hD9.set (p := 7) (e := .inl (cI, 8, .inl (aN fi9))) rfl
        have hP9 : va_P D vwCl [(q_x, .inr (5, [.ref q_nt, .ref q_rw, .ref q_rv, .ref q_hd, .ref q_lk, .ref q_rg])), (q_nt, .inr (2, [.ref q_en, .ref q_ba, .ref q_de, .int (nI n), .int (nI (prs t))])), (q_en, .inl (cI, 32, .inl (aE t))), (q_ba, .inl (cZ, 32, .inl (aB w))), (q_de, .inl (cI, 8, .inl (aN (dg t)))), (q_lk, .inr (1, [.ref q_nt, .ref q_kn, .ref q_fi, .int (nI ct9)])), (q_kn, .inl (cI, 8, .inl (aN kd9))), (q_fi, .inl (cI, 8, .inl (aN fi9)))] H1 := (congrArg (fun z9 : Nat => va_P D vwCl [(q_x, .inr (5, [.ref q_nt, .ref q_rw, .ref q_rv, .ref q_hd, .ref q_lk, .ref q_rg])), (q_nt, .inr (2, [.ref q_en, .ref q_ba, .ref q_de, .int (nI n), .int (nI (prs t))])), (q_en, .inl (cI, 32, .inl (aE t))), (q_ba, .inl (cZ, 32, .inl (aB w))), (q_de, .inl (cI, 8, .inl (aN (dg t)))), (q_lk, .inr (1, [.ref q_nt, .ref q_kn, .ref q_fi, .int (nI z9)])), (q_kn, .inl (cI, 8, .inl (aN kd9))), (q_fi, .inl (cI, 8, .inl (aN fi9)))] H1) ec_ct).mp hP9
        have hD9 : va_D A [(q_x, .inr (5, [.ref q_nt, .ref q_rw, .ref q_rv, .ref q_hd, .ref q_lk, .ref q_rg])), (q_nt, .inr (2, [.ref q_en, .ref q_ba, .ref q_de, .int (nI n), .int (nI (prs t))])), (q_en, .inl (cI, 32, .inl (aE t))), (q_ba, .inl (cZ, 32, .inl (aB w))), (q_de, .inl (cI, 8, .inl (aN (dg t)))), (q_lk, .inr (1, [.ref q_nt, .ref q_kn, .ref q_fi, .int (nI ct9)])), (q_kn, .inl (cI, 8, .inl (aN kd9))), (q_fi, .inl (cI, 8, .inl (aN fi9)))] := (congrArg (fun z9 : Nat => va_D A [(q_x, .inr (5, [.ref q_nt, .ref q_rw, .ref q_rv, .ref q_hd, .ref q_lk, .ref q_rg])), (q_nt, .inr (2, [.ref q_en, .ref q_ba, .ref q_de, .int (nI n), .int (nI (prs t))])), (q_en, .inl (cI, 32, .inl (aE t))), (q_ba, .inl (cZ, 32, .inl (aB w))), (q_de, .inl (cI, 8, .inl (aN (dg t)))), (q_lk, .inr (1, [.ref q_nt, .ref q_kn, .ref q_fi, .int (nI z9)])), (q_kn, .inl (cI, 8, .inl (aN kd9))), (q_fi, .inl (cI, 8, .inl (aN fi9)))]) ec_ct).mp hD9
        exact W.iret (v := apV n t zk5 zk6) hx hb hr (fun t ht hW => ⟨⟨_, (kd9, fi9, ct9), rfl, er, by rw [ht]; exact hP9, hD9⟩, hS.F ht⟩) hS.2.2 dX5_apart_48
    · replace hw := hwf cc
      refine lv_iconst (v := (-1)) hx hb dX5_apart_22 (by decide +kernel) ?_
      obtain ⟨kd9, fi9, ct9, er, ec_kn, ec_fi, ec_ct⟩ := hw
      have hP9 : va_P D vwCl [(q_x, .inr (5, [.ref q_nt, .ref q_rw, .ref q_rv, .ref q_hd, .ref q_lk, .ref q_rg])), (q_nt, .inr (2, [.ref q_en, .ref q_ba, .ref q_de, .int (nI n), .int (nI (prs t))])), (q_en, .inl (cI, 32, .inl (aE t))), (q_ba, .inl (cZ, 32, .inl (aB w))), (q_de, .inl (cI, 8, .inl (aN (dg t)))), (q_lk, .inr (1, [.ref q_nt, .ref q_kn, .ref q_fi, .int (nI ct)])), (q_kn, .inl (cI, 8, .inl (aN kd))), (q_fi, .inl (cI, 8, .inl (aN fi)))] zs.heap := hP.sub [0, 1, 2, 3, 4, 5, 6, 7] rfl
      have hD9 : va_D A [(q_x, .inr (5, [.ref q_nt, .ref q_rw, .ref q_rv, .ref q_hd, .ref q_lk, .ref q_rg])), (q_nt, .inr (2, [.ref q_en, .ref q_ba, .ref q_de, .int (nI n), .int (nI (prs t))])), (q_en, .inl (cI, 32, .inl (aE t))), (q_ba, .inl (cZ, 32, .inl (aB w))), (q_de, .inl (cI, 8, .inl (aN (dg t)))), (q_lk, .inr (1, [.ref q_nt, .ref q_kn, .ref q_fi, .int (nI ct)])), (q_kn, .inl (cI, 8, .inl (aN kd))), (q_fi, .inl (cI, 8, .inl (aN fi)))] := hD.sub [0, 1, 2, 3, 4, 5, 6, 7] (by decide) rfl
      have hP9 : va_P D vwCl [(q_x, .inr (5, [.ref q_nt, .ref q_rw, .ref q_rv, .ref q_hd, .ref q_lk, .ref q_rg])), (q_nt, .inr (2, [.ref q_en, .ref q_ba, .ref q_de, .int (nI n), .int (nI (prs t))])), (q_en, .inl (cI, 32, .inl (aE t))), (q_ba, .inl (cZ, 32, .inl (aB w))), (q_de, .inl (cI, 8, .inl (aN (dg t)))), (q_lk, .inr (1, [.ref q_nt, .ref q_kn, .ref q_fi, .int (nI ct)])), (q_kn, .inl (cI, 8, .inl (aN kd9))), (q_fi, .inl (cI, 8, .inl (aN fi)))] zs.heap := z_arr hP9 6 rfl (fun zi hi => congrArg nI (ec_kn zi hi))
      have hD9 : va_D A [(q_x, .inr (5, [.ref q_nt, .ref q_rw, .ref q_rv, .ref q_hd, .ref q_lk, .ref q_rg])), (q_nt, .inr (2, [.ref q_en, .ref q_ba, .ref q_de, .int (nI n), .int (nI (prs t))])), (q_en, .inl (cI, 32, .inl (aE t))), (q_ba, .inl (cZ, 32, .inl (aB w))), (q_de, .inl (cI, 8, .inl (aN (dg t)))), (q_lk, .inr (1, [.ref q_nt, .ref q_kn, .ref q_fi, .int (nI ct)])), (q_kn, .inl (cI, 8, .inl (aN kd9))), (q_fi, .inl (cI, 8, .inl (aN fi)))] := hD9.set (p := 6) (e := .inl (cI, 8, .inl (aN kd9))) rfl
      have hP9 : va_P D vwCl [(q_x, .inr (5, [.ref q_nt, .ref q_rw, .ref q_rv, .ref q_hd, .ref q_lk, .ref q_rg])), (q_nt, .inr (2, [.ref q_en, .ref q_ba, .ref q_de, .int (nI n), .int (nI (prs t))])), (q_en, .inl (cI, 32, .inl (aE t))), (q_ba, .inl (cZ, 32, .inl (aB w))), (q_de, .inl (cI, 8, .inl (aN (dg t)))), (q_lk, .inr (1, [.ref q_nt, .ref q_kn, .ref q_fi, .int (nI ct)])), (q_kn, .inl (cI, 8, .inl (aN kd9))), (q_fi, .inl (cI, 8, .inl (aN fi9)))] zs.heap := z_arr hP9 7 rfl (fun zi hi => congrArg nI (ec_fi zi hi))
      have hD9 : va_D A [(q_x, .inr (5, [.ref q_nt, .ref q_rw, .ref q_rv, .ref q_hd, .ref q_lk, .ref q_rg])), (q_nt, .inr (2, [.ref q_en, .ref q_ba, .ref q_de, .int (nI n), .int (nI (prs t))])), (q_en, .inl (cI, 32, .inl (aE t))), (q_ba, .inl (cZ, 32, .inl (aB w))), (q_de, .inl (cI, 8, .inl (aN (dg t)))), (q_lk, .inr (1, [.ref q_nt, .ref q_kn, .ref q_fi, .int (nI ct)])), (q_kn, .inl (cI, 8, .inl (aN kd9))), (q_fi, .inl (cI, 8, .inl (aN fi9)))] := hD9.set (p := 7) (e := .inl (cI, 8, .inl (aN fi9))) rfl
      have hP9 : va_P D vwCl [(q_x, .inr (5, [.ref q_nt, .ref q_rw, .ref q_rv, .ref q_hd, .ref q_lk, .ref q_rg])), (q_nt, .inr (2, [.ref q_en, .ref q_ba, .ref q_de, .int (nI n), .int (nI (prs t))])), (q_en, .inl (cI, 32, .inl (aE t))), (q_ba, .inl (cZ, 32, .inl (aB w))), (q_de, .inl (cI, 8, .inl (aN (dg t)))), (q_lk, .inr (1, [.ref q_nt, .ref q_kn, .ref q_fi, .int (nI ct9)])), (q_kn, .inl (cI, 8, .inl (aN kd9))), (q_fi, .inl (cI, 8, .inl (aN fi9)))] zs.heap := (congrArg (fun z9 : Nat => va_P D vwCl [(q_x, .inr (5, [.ref q_nt, .ref q_rw, .ref q_rv, .ref q_hd, .ref q_lk, .ref q_rg])), (q_nt, .inr (2, [.ref q_en, .ref q_ba, .ref q_de, .int (nI n), .int (nI (prs t))])), (q_en, .inl (cI, 32, .inl (aE t))), (q_ba, .inl (cZ, 32, .inl (aB w))), (q_de, .inl (cI, 8, .inl (aN (dg t)))), (q_lk, .inr (1, [.ref q_nt, .ref q_kn, .ref q_fi, .int (nI z9)])), (q_kn, .inl (cI, 8, .inl (aN kd9))), (q_fi, .inl (cI, 8, .inl (aN fi9)))] zs.heap) ec_ct).mp hP9
      have hD9 : va_D A [(q_x, .inr (5, [.ref q_nt, .ref q_rw, .ref q_rv, .ref q_hd, .ref q_lk, .ref q_rg])), (q_nt, .inr (2, [.ref q_en, .ref q_ba, .ref q_de, .int (nI n), .int (nI (prs t))])), (q_en, .inl (cI, 32, .inl (aE t))), (q_ba, .inl (cZ, 32, .inl (aB w))), (q_de, .inl (cI, 8, .inl (aN (dg t)))), (q_lk, .inr (1, [.ref q_nt, .ref q_kn, .ref q_fi, .int (nI ct9)])), (q_kn, .inl (cI, 8, .inl (aN kd9))), (q_fi, .inl (cI, 8, .inl (aN fi9)))] := (congrArg (fun z9 : Nat => va_D A [(q_x, .inr (5, [.ref q_nt, .ref q_rw, .ref q_rv, .ref q_hd, .ref q_lk, .ref q_rg])), (q_nt, .inr (2, [.ref q_en, .ref q_ba, .ref q_de, .int (nI n), .int (nI (prs t))])), (q_en, .inl (cI, 32, .inl (aE t))), (q_ba, .inl (cZ, 32, .inl (aB w))), (q_de, .inl (cI, 8, .inl (aN (dg t)))), (q_lk, .inr (1, [.ref q_nt, .ref q_kn, .ref q_fi, .int (nI z9)])), (q_kn, .inl (cI, 8, .inl (aN kd9))), (q_fi, .inl (cI, 8, .inl (aN fi9)))]) ec_ct).mp hD9
      exact W.iret (v := (-1)) hx hb hr (fun t ht hW => ⟨⟨_, (kd9, fi9, ct9), rfl, er, by rw [ht]; exact hP9, hD9⟩, hS.F ht⟩) hS.2.2 dX5_apart_23
theorem m_X5_meetingStep_f19 : Cond.fieldLink RX5 19 "NetWalkers" "row" "LNetWalkers$Row;" ∈ wsX5_meetingStep := by decide +kernel
theorem i_X5_meetingStep_X5 : ∀ w ∈ wsX50, w ∈ wsX5_meetingStep := by decide +kernel
theorem m_X5_meetingStep_f116 : Cond.fieldLink RX5 116 "NetWalkers$Row" "length" "I" ∈ wsX5_meetingStep := by decide +kernel
theorem i_X5_meetingStep_X4 : ∀ w ∈ wsX40, w ∈ wsX5_meetingStep := by decide +kernel
theorem m_X5_meetingStep_mx1 : Cond.methodLink RX5 170 Lib.Math.max.name ∈ wsX5_meetingStep := by decide +kernel
theorem m_X5_meetingStep_mx2 : Cond.static Lib.Math.max.name ∈ wsX5_meetingStep := by decide +kernel
theorem m_X5_meetingStep_mx3 : Cond.initialized "java/lang/Math" ∈ wsX5_meetingStep := by decide +kernel
theorem m_X5_meetingStep_mx4 : Cond.code Lib.Math.max.name Lib.Math.max.code 2 (some .int) ∈ wsX5_meetingStep := by decide +kernel
set_option maxRecDepth 100000 in
set_option maxHeartbeats 4000000 in
theorem w_X5_meetingStep {l : Launch} {D : va_G} {cI cZ : ClassId} (k_X5_postOf : K_X5_postOf l D cI cZ) (k_X5_follow : K_X5_follow l D cI cZ) (k_X5_placeOf : K_X5_placeOf l D cI cZ) (vv : V_X5_meetingStep) : K_X5_meetingStep l D cI cZ := by
  intro q_x q_nt q_en q_ba q_de q_rw q_nm q_pw q_np q_rv q_hd q_lk q_rg n t w r L r3 L3 a b d hpre0 hpre1 hpre2 hpre3 hpre4 hpre5
  have vw := vv n t w r L r3 L3 a b d hpre0 hpre1 hpre2 hpre3 hpre4 hpre5
  refine Met.ofW (cc := cX5_meetingStep) (maxL := 9) (ret := (some .int)) (by decide) rfl ?_
  intro zp ze zs zm zargs zbelow zmeth zc zs1 B hml hv
  obtain ⟨rfl, hZ, hP⟩ := hv
  have hx := B.exec
  have hb := B.bytes
  have hr := B.returns
  have hts := atoms_spec (ws := wsX5_meetingStep) B.pre
  have hown : zs.vm.findClass RX5 = some zm.cls := findClass_of_methodNamed B.named
  have hlocks := B.notSynchronized
  have hP : va_P D vwCl [(q_x, .inr (5, [.ref q_nt, .ref q_rw, .ref q_rv, .ref q_hd, .ref q_lk, .ref q_rg])), (q_nt, .inr (2, [.ref q_en, .ref q_ba, .ref q_de, .int (nI n), .int (nI (prs t))])), (q_en, .inl (cI, 32, .inl (aE t))), (q_ba, .inl (cZ, 32, .inl (aB w))), (q_de, .inl (cI, 8, .inl (aN (dg t)))), (q_rw, .inr (4, [.ref q_nm, .int (nI L)])), (q_nm, .inl (cI, 40, .inl (aN r))), (q_pw, .inr (4, [.ref q_np, .int (nI L3)])), (q_np, .inl (cI, 40, .inl (aN r3)))] zs.heap := hP
  have hl := lv_entry ([.ref q_x, .int (nI a), .int (nI b), .int (nI d), .ref q_pw]) (n := 9) (Nat.le_of_ble_eq_true rfl)
  rw [lg_entry_eq]
  generalize (lg_sl ([.ref q_x, .int (nI a), .int (nI b), .int (nI d), .ref q_pw]) ++ List.replicate (9 - (lg_sl ([.ref q_x, .int (nI a), .int (nI b), .int (nI d), .ref q_pw])).length) Slot.unset).toArray = ls at hl ⊢
  have hl : lv_has ls 9 [(0, .ref q_x), (1, .int (nI a)), (2, .int (nI b)), (3, .int (nI d)), (4, .ref q_pw)] := hl
  obtain ⟨X36, hX36⟩ : ∃ X : Nat → Nat → Nat → Nat → Prop, ∀ (v5 : Nat) (v6 : Nat) (v7 : Nat) (v8 : Nat), X v5 v6 v7 v8 ↔ (∀ ls : Array Slot, lv_has ls 9 [(0, .ref q_x), (1, .int (nI a)), (2, .int (nI b)), (3, .int (nI d)), (4, .ref q_pw), (5, .int (nI v5)), (6, .int (nI v6)), (7, .int (nI v7)), (8, .int (nI v8))] → W zp l ze (headSpec wsX5_meetingStep ({ frames := 4, cells := 0, slots := 0, locals := 93 } : Room)).room zs zm ([.ref q_x, .int (nI a), .int (nI b), .int (nI d), .ref q_pw] : List Value).toArray zbelow zmeth zc zs.heap [] 0 0 (MQ zbelow (vp_Si (fun zr : Int32 => zr = mtV t w L r L3 r3 a b d)) ([.ref q_x, .int (nI a), .int (nI b), .int (nI d), .ref q_pw] : List Value).toArray zs 0 0 (fun _ => False)) (F0 zm 36 ls [])) := ⟨_, fun _ _ _ _ => Iff.rfl⟩
  have b36 : ∀ (v5 : Nat) (v6 : Nat) (v7 : Nat) (v8 : Nat), B_X5_meetingStep_36 n t w r L r3 L3 a b d X36 v5 v6 v7 v8 → X36 v5 v6 v7 v8 := by
    intro v5 v6 v7 v8 hw
    rw [hX36]
    intro ls hl
    unfold B_X5_meetingStep_36 at hw
    refine lv_iload hx hb dX5_meetingStep_36 (lv_at hl 8 rfl) ?_
    refine lv_iload hx hb dX5_meetingStep_38 (lv_at hl 7 rfl) ?_
    obtain ⟨zh1, hw⟩ := hw
    obtain ⟨zh2, hw⟩ := hw
    obtain ⟨hwt, hwf⟩ := hw
    refine z_icmp_gt hx hb zh1 zh2 (tgt := 95) dX5_meetingStep_40 (by decide) (fun cc => ?_) (fun cc => ?_)
    · replace hw := hwt cc
      refine lv_bipush (v := (-6)) hx hb dX5_meetingStep_95 (by decide +kernel) ?_
      have er := hw
      exact W.iret (v := (-6)) hx hb hr (fun t ht hW => ⟨_, rfl, er, ht⟩) (fun _ h => by cases h) dX5_meetingStep_97
    · replace hw := hwf cc
      refine lv_iload hx hb dX5_meetingStep_43 (lv_at hl 5 rfl) ?_
      obtain ⟨zh3, hw⟩ := hw
      have hPc : va_P D vwCl [] zs.heap := hP.sub [] rfl
      refine z_ro (va_runS (As := [.int (nI v5)]) (rest := []) ⟨hx, hb, hml, hown, hts⟩ (k_X5_postOf v5 zh3) (va_cwS 1 hts gX5_meetingStep_X5_postOf rfl rfl rfl (by decide +kernel) ⟨Nat.le_of_ble_eq_true rfl, Nat.le_of_ble_eq_true rfl⟩) (zPr_S hZ hPc) rfl rfl hl.1 rfl (lv_room (Nat.le_of_ble_eq_true rfl)) dX5_meetingStep_45 ⟨Nat.zero_le _, Nat.zero_le _⟩) (fun zr4 hzr4 => ?_)
      have ez := hzr4
      rw [ez]
      clear ez hzr4
      refine lv_iload hx hb dX5_meetingStep_48 (lv_at hl 6 rfl) ?_
      obtain ⟨zh5, hw⟩ := hw
      have hPc : va_P D vwCl [] zs.heap := hP.sub [] rfl
      refine z_ro (va_runS (As := [.int (nI v6)]) (rest := [.int (nI (v5 / 4))]) ⟨hx, hb, hml, hown, hts⟩ (k_X5_postOf v6 zh5) (va_cwS 1 hts gX5_meetingStep_X5_postOf rfl rfl rfl (by decide +kernel) ⟨Nat.le_of_ble_eq_true rfl, Nat.le_of_ble_eq_true rfl⟩) (zPr_S hZ hPc) rfl rfl hl.1 rfl (lv_room (Nat.le_of_ble_eq_true rfl)) dX5_meetingStep_50 ⟨Nat.zero_le _, Nat.zero_le _⟩) (fun zr6 hzr6 => ?_)
      have ez := hzr6
      rw [ez]
      clear ez hzr6
      obtain ⟨zh7, hw⟩ := hw
      obtain ⟨zh8, hw⟩ := hw
      obtain ⟨hwt, hwf⟩ := hw
      refine z_icmp_ne hx hb zh7 zh8 (tgt := 59) dX5_meetingStep_53 (by decide) (fun cc => ?_) (fun cc => ?_)
      · replace hw := hwt cc
        refine lv_aload_n hx hb dX5_meetingStep_59 rfl (lv_at hl 0 rfl) ?_
        refine lv_iload hx hb dX5_meetingStep_60 (lv_at hl 5 rfl) ?_
        refine lv_aload_n hx hb dX5_meetingStep_62 rfl (lv_at hl 0 rfl) ?_
        refine va_get (D := D) (ci := 5) (v := .ref q_rw) (C := RX5) (T := TX5) (N := 6) hx hb hts i_X5_meetingStep_X5 hown hZ.1 hP 0 rfl rfl 1 (by decide) (hts _ m_X5_meetingStep_f19) (fun _ h9 => h9) rfl dX5_meetingStep_63 ?_
        refine lv_iload hx hb dX5_meetingStep_66 (lv_at hl 8 rfl) ?_
        refine lv_iconst (v := nI 0) hx hb dX5_meetingStep_68 (by decide +kernel) ?_
        obtain ⟨zh9, hw⟩ := hw
        obtain ⟨zh10, hw⟩ := hw
        obtain ⟨zh11, hw⟩ := hw
        have hPc : va_P D vwCl [(q_x, .inr (5, [.ref q_nt, .ref q_rw, .ref q_rv, .ref q_hd, .ref q_lk, .ref q_rg])), (q_nt, .inr (2, [.ref q_en, .ref q_ba, .ref q_de, .int (nI n), .int (nI (prs t))])), (q_en, .inl (cI, 32, .inl (aE t))), (q_ba, .inl (cZ, 32, .inl (aB w))), (q_de, .inl (cI, 8, .inl (aN (dg t)))), (q_rw, .inr (4, [.ref q_nm, .int (nI L)])), (q_nm, .inl (cI, 40, .inl (aN r)))] zs.heap := hP.sub [0, 1, 2, 3, 4, 5, 6] rfl
        refine z_ro (va_runV (As := [.int (nI v5), .ref q_rw, .int (nI v8), .int (nI 0)]) (rest := []) ⟨hx, hb, hml, hown, hts⟩ (k_X5_follow q_x q_nt q_en q_ba q_de q_rw q_nm q_rw q_rv q_hd q_lk q_rg n t w r L v5 (nI v8) 0 zh9 zh10 zh11) (cwV 4 hts gX5_meetingStep_X5_follow rfl rfl rfl (by decide +kernel) ⟨Nat.le_of_ble_eq_true rfl, Nat.le_of_ble_eq_true rfl⟩) (zPr_V hZ hPc 0 rfl rfl) rfl rfl hl.1 rfl (lv_room (Nat.le_of_ble_eq_true rfl)) dX5_meetingStep_69 ⟨Nat.zero_le _, Nat.zero_le _⟩) (fun zr12 hzr12 => ?_)
        have ez := hzr12
        rw [ez]
        clear ez hzr12
        obtain ⟨zx13, ezx13⟩ : ∃ zx13 : Nat, zx13 = folI t w L r 0 v5 (nI v8) := ⟨_, rfl⟩
        replace hw := hw zx13 ezx13
        refine z_st (st' := [.int (nI zx13)]) (by rw [ezx13]) ?_
        refine lv_istore (lv' := [(5, .int (nI zx13)), (0, .ref q_x), (1, .int (nI a)), (2, .int (nI b)), (3, .int (nI d)), (4, .ref q_pw), (6, .int (nI v6)), (7, .int (nI v7)), (8, .int (nI v8))]) hx hb dX5_meetingStep_72 hl (by decide) rfl (fun ls hl => ?_)
        refine lv_aload_n hx hb dX5_meetingStep_74 rfl (lv_at hl 1 rfl) ?_
        refine lv_iload hx hb dX5_meetingStep_75 (lv_at hl 6 rfl) ?_
        refine lv_aload hx hb dX5_meetingStep_77 (lv_at hl 5 rfl) ?_
        refine lv_iload hx hb dX5_meetingStep_79 (lv_at hl 8 rfl) ?_
        refine lv_iload_n hx hb dX5_meetingStep_81 rfl (lv_at hl 4 rfl) ?_
        refine z_isub hx hb rfl dX5_meetingStep_82 ?_
        refine lv_iconst (v := nI 0) hx hb dX5_meetingStep_83 (by decide +kernel) ?_
        obtain ⟨zh14, hw⟩ := hw
        obtain ⟨zh15, hw⟩ := hw
        obtain ⟨zh16, hw⟩ := hw
        have hPc : va_P D vwCl [(q_x, .inr (5, [.ref q_nt, .ref q_rw, .ref q_rv, .ref q_hd, .ref q_lk, .ref q_rg])), (q_nt, .inr (2, [.ref q_en, .ref q_ba, .ref q_de, .int (nI n), .int (nI (prs t))])), (q_en, .inl (cI, 32, .inl (aE t))), (q_ba, .inl (cZ, 32, .inl (aB w))), (q_de, .inl (cI, 8, .inl (aN (dg t)))), (q_pw, .inr (4, [.ref q_np, .int (nI L3)])), (q_np, .inl (cI, 40, .inl (aN r3)))] zs.heap := hP.sub [0, 1, 2, 3, 4, 7, 8] rfl
        refine z_ro (va_runV (As := [.int (nI v6), .ref q_pw, .int ((nI v8) - (nI d)), .int (nI 0)]) (rest := []) ⟨hx, hb, hml, hown, hts⟩ (k_X5_follow q_x q_nt q_en q_ba q_de q_pw q_np q_rw q_rv q_hd q_lk q_rg n t w r3 L3 v6 ((nI v8) - (nI d)) 0 zh14 zh15 zh16) (cwV 4 hts gX5_meetingStep_X5_follow rfl rfl rfl (by decide +kernel) ⟨Nat.le_of_ble_eq_true rfl, Nat.le_of_ble_eq_true rfl⟩) (zPr_V hZ hPc 0 rfl rfl) rfl rfl hl.1 rfl (lv_room (Nat.le_of_ble_eq_true rfl)) dX5_meetingStep_84 ⟨Nat.zero_le _, Nat.zero_le _⟩) (fun zr17 hzr17 => ?_)
        have ez := hzr17
        rw [ez]
        clear ez hzr17
        obtain ⟨zx18, ezx18⟩ : ∃ zx18 : Nat, zx18 = folI t w L3 r3 0 v6 ((nI v8) - (nI d)) := ⟨_, rfl⟩
        replace hw := hw zx18 ezx18
        refine z_st (st' := [.int (nI zx18)]) (by rw [ezx18]) ?_
        refine lv_istore (lv' := [(6, .int (nI zx18)), (5, .int (nI zx13)), (0, .ref q_x), (1, .int (nI a)), (2, .int (nI b)), (3, .int (nI d)), (4, .ref q_pw), (7, .int (nI v7)), (8, .int (nI v8))]) hx hb dX5_meetingStep_87 hl (by decide) rfl (fun ls hl => ?_)
        refine lv_iinc (v := nI (v8 + 1)) (lv' := [(8, .int (nI (v8 + 1))), (6, .int (nI zx18)), (5, .int (nI zx13)), (0, .ref q_x), (1, .int (nI a)), (2, .int (nI b)), (3, .int (nI d)), (4, .ref q_pw), (7, .int (nI v7))]) hx hb dX5_meetingStep_89 hl (k := 8) rfl (by rw [show Int32.ofInt 1 = nI 1 from by decide +kernel]; exact nI_add _ _) (by decide) rfl (fun ls hl => ?_)
        refine lv_goto (tgt := 36) hx hb dX5_meetingStep_92 (by decide) ?_
        exact ((hX36 _ _ _ _).mp hw) ls (lv_sub hl [3, 4, 5, 6, 7, 2, 1, 8, 0] rfl)
      · replace hw := hwf cc
        refine lv_iload hx hb dX5_meetingStep_56 (lv_at hl 8 rfl) ?_
        have er := hw
        exact W.iret (v := nI v8) hx hb hr (fun t ht hW => ⟨_, rfl, er, ht⟩) (fun _ h => by cases h) dX5_meetingStep_58
  have hw := vw X36 b36
  unfold B_X5_meetingStep_in at hw
  refine lv_iload_n hx hb dX5_meetingStep_0 rfl (lv_at hl 1 rfl) ?_
  refine lv_iconst (v := nI 0) hx hb dX5_meetingStep_1 (by decide +kernel) ?_
  have hPc : va_P D vwCl [] zs.heap := hP.sub [] rfl
  refine z_ro (va_runS (As := [.int (nI a), .int (nI 0)]) (rest := []) ⟨hx, hb, hml, hown, hts⟩ (k_X5_placeOf a 0) (va_cwS 2 hts gX5_meetingStep_X5_placeOf rfl rfl rfl (by decide +kernel) ⟨Nat.le_of_ble_eq_true rfl, Nat.le_of_ble_eq_true rfl⟩) (zPr_S hZ hPc) rfl rfl hl.1 rfl (lv_room (Nat.le_of_ble_eq_true rfl)) dX5_meetingStep_2 ⟨Nat.zero_le _, Nat.zero_le _⟩) (fun zr19 hzr19 => ?_)
  have ez := hzr19
  rw [ez]
  clear ez hzr19
  obtain ⟨zx20, ezx20⟩ : ∃ zx20 : Nat, zx20 = 4 * a + 0 := ⟨_, rfl⟩
  replace hw := hw zx20 ezx20
  refine z_st (st' := [.int (nI zx20)]) (by rw [ezx20]) ?_
  refine lv_istore (lv' := [(5, .int (nI zx20)), (0, .ref q_x), (1, .int (nI a)), (2, .int (nI b)), (3, .int (nI d)), (4, .ref q_pw)]) hx hb dX5_meetingStep_5 hl (by decide) rfl (fun ls hl => ?_)
  refine lv_iload_n hx hb dX5_meetingStep_7 rfl (lv_at hl 3 rfl) ?_
  refine lv_iconst (v := nI 0) hx hb dX5_meetingStep_8 (by decide +kernel) ?_
  have hPc : va_P D vwCl [] zs.heap := hP.sub [] rfl
  refine z_ro (va_runS (As := [.int (nI b), .int (nI 0)]) (rest := []) ⟨hx, hb, hml, hown, hts⟩ (k_X5_placeOf b 0) (va_cwS 2 hts gX5_meetingStep_X5_placeOf rfl rfl rfl (by decide +kernel) ⟨Nat.le_of_ble_eq_true rfl, Nat.le_of_ble_eq_true rfl⟩) (zPr_S hZ hPc) rfl rfl hl.1 rfl (lv_room (Nat.le_of_ble_eq_true rfl)) dX5_meetingStep_9 ⟨Nat.zero_le _, Nat.zero_le _⟩) (fun zr21 hzr21 => ?_)
  have ez := hzr21
  rw [ez]
  clear ez hzr21
  obtain ⟨zx22, ezx22⟩ : ∃ zx22 : Nat, zx22 = 4 * b + 0 := ⟨_, rfl⟩
  replace hw := hw zx22 ezx22
  refine z_st (st' := [.int (nI zx22)]) (by rw [ezx22]) ?_
  refine lv_istore (lv' := [(6, .int (nI zx22)), (5, .int (nI zx20)), (0, .ref q_x), (1, .int (nI a)), (2, .int (nI b)), (3, .int (nI d)), (4, .ref q_pw)]) hx hb dX5_meetingStep_12 hl (by decide) rfl (fun ls hl => ?_)
  refine lv_aload_n hx hb dX5_meetingStep_14 rfl (lv_at hl 2 rfl) ?_
  refine va_get (D := D) (ci := 5) (v := .ref q_rw) (C := RX5) (T := TX5) (N := 6) hx hb hts i_X5_meetingStep_X5 hown hZ.1 hP 0 rfl rfl 1 (by decide) (hts _ m_X5_meetingStep_f19) (fun _ h9 => h9) rfl dX5_meetingStep_15 ?_
  refine va_get (D := D) (ci := 4) (v := .int (nI L)) (C := RX4) (T := TX4) (N := 2) hx hb hts i_X5_meetingStep_X4 hown hZ.1 hP 5 rfl rfl 1 (by decide) (hts _ m_X5_meetingStep_f116) (fun _ h9 => h9) rfl dX5_meetingStep_18 ?_
  refine lv_iload_n hx hb dX5_meetingStep_21 rfl (lv_at hl 5 rfl) ?_
  refine lv_aload hx hb dX5_meetingStep_22 (lv_at hl 6 rfl) ?_
  refine va_get (D := D) (ci := 4) (v := .int (nI L3)) (C := RX4) (T := TX4) (N := 2) hx hb hts i_X5_meetingStep_X4 hown hZ.1 hP 7 rfl rfl 1 (by decide) (hts _ m_X5_meetingStep_f116) (fun _ h9 => h9) rfl dX5_meetingStep_24 ?_
  refine z_iadd hx hb (nI_add _ _) dX5_meetingStep_27 ?_
  refine va_mmax hx hb (hml.trans hl.1.symm) hown (hts _ m_X5_meetingStep_mx1) (hts _ m_X5_meetingStep_mx2) (hts _ m_X5_meetingStep_mx3) (hts _ m_X5_meetingStep_mx4) (Nat.le_of_ble_eq_true rfl) (Nat.le_of_ble_eq_true rfl) (Nat.zero_le _) (Nat.zero_le _) dX5_meetingStep_28 ?_
  obtain ⟨zh23, hw⟩ := hw
  obtain ⟨zh24, hw⟩ := hw
  refine z_st (st' := [.int (nI (if L < d + L3 then d + L3 else L))]) (by rw [n_max zh23 zh24]) ?_
  obtain ⟨zx25, ezx25⟩ : ∃ zx25 : Nat, zx25 = (if L < d + L3 then d + L3 else L) := ⟨_, rfl⟩
  replace hw := hw zx25 ezx25
  refine z_st (st' := [.int (nI zx25)]) (by rw [ezx25]) ?_
  refine lv_istore (lv' := [(7, .int (nI zx25)), (6, .int (nI zx22)), (5, .int (nI zx20)), (0, .ref q_x), (1, .int (nI a)), (2, .int (nI b)), (3, .int (nI d)), (4, .ref q_pw)]) hx hb dX5_meetingStep_31 hl (by decide) rfl (fun ls hl => ?_)
  refine lv_iconst (v := nI 0) hx hb dX5_meetingStep_33 (by decide +kernel) ?_
  refine lv_istore (lv' := [(8, .int (nI 0)), (7, .int (nI zx25)), (6, .int (nI zx22)), (5, .int (nI zx20)), (0, .ref q_x), (1, .int (nI a)), (2, .int (nI b)), (3, .int (nI d)), (4, .ref q_pw)]) hx hb dX5_meetingStep_34 hl (by decide) rfl (fun ls hl => ?_)
  exact ((hX36 _ _ _ _).mp hw) ls (lv_sub hl [4, 5, 6, 7, 8, 3, 2, 1, 0] rfl)
theorem m_X5_latestMeeting_mx1 : Cond.methodLink RX5 170 Lib.Math.max.name ∈ wsX5_latestMeeting := by decide +kernel
theorem m_X5_latestMeeting_mx2 : Cond.static Lib.Math.max.name ∈ wsX5_latestMeeting := by decide +kernel
theorem m_X5_latestMeeting_mx3 : Cond.initialized "java/lang/Math" ∈ wsX5_latestMeeting := by decide +kernel
theorem m_X5_latestMeeting_mx4 : Cond.code Lib.Math.max.name Lib.Math.max.code 2 (some .int) ∈ wsX5_latestMeeting := by decide +kernel
set_option maxRecDepth 100000 in
set_option maxHeartbeats 4000000 in
theorem w_X5_latestMeeting {l : Launch} {D : va_G} {cI cZ : ClassId} (k_X5_meetingStep : K_X5_meetingStep l D cI cZ) (vv : V_X5_latestMeeting) : K_X5_latestMeeting l D cI cZ := by
  intro q_x q_nt q_en q_ba q_de q_rw q_nm q_pw q_np q_rv q_hd q_lk q_rg n t w r L r3 L3 a b q hpre0 hpre1 hpre2 hpre3 hpre4 hpre5
  have vw := vv n t w r L r3 L3 a b q hpre0 hpre1 hpre2 hpre3 hpre4 hpre5
  refine Met.ofW (cc := cX5_latestMeeting) (maxL := 8) (ret := (some .int)) (by decide) rfl ?_
  intro zp ze zs zm zargs zbelow zmeth zc zs1 B hml hv
  obtain ⟨rfl, hZ, hP⟩ := hv
  have hx := B.exec
  have hb := B.bytes
  have hr := B.returns
  have hts := atoms_spec (ws := wsX5_latestMeeting) B.pre
  have hown : zs.vm.findClass RX5 = some zm.cls := findClass_of_methodNamed B.named
  have hlocks := B.notSynchronized
  have hP : va_P D vwCl [(q_x, .inr (5, [.ref q_nt, .ref q_rw, .ref q_rv, .ref q_hd, .ref q_lk, .ref q_rg])), (q_nt, .inr (2, [.ref q_en, .ref q_ba, .ref q_de, .int (nI n), .int (nI (prs t))])), (q_en, .inl (cI, 32, .inl (aE t))), (q_ba, .inl (cZ, 32, .inl (aB w))), (q_de, .inl (cI, 8, .inl (aN (dg t)))), (q_rw, .inr (4, [.ref q_nm, .int (nI L)])), (q_nm, .inl (cI, 40, .inl (aN r))), (q_pw, .inr (4, [.ref q_np, .int (nI L3)])), (q_np, .inl (cI, 40, .inl (aN r3)))] zs.heap := hP
  have hl := lv_entry ([.ref q_x, .int (nI a), .int (nI b), .int (nI q), .ref q_pw]) (n := 8) (Nat.le_of_ble_eq_true rfl)
  rw [lg_entry_eq]
  generalize (lg_sl ([.ref q_x, .int (nI a), .int (nI b), .int (nI q), .ref q_pw]) ++ List.replicate (8 - (lg_sl ([.ref q_x, .int (nI a), .int (nI b), .int (nI q), .ref q_pw])).length) Slot.unset).toArray = ls at hl ⊢
  have hl : lv_has ls 8 [(0, .ref q_x), (1, .int (nI a)), (2, .int (nI b)), (3, .int (nI q)), (4, .ref q_pw)] := hl
  obtain ⟨X6, hX6⟩ : ∃ X : Nat → Nat → Prop, ∀ (v5 : Nat) (v6 : Nat), X v5 v6 ↔ (∀ ls : Array Slot, lv_has ls 8 [(0, .ref q_x), (1, .int (nI a)), (2, .int (nI b)), (3, .int (nI q)), (4, .ref q_pw), (5, .int (nI v5)), (6, .int (nI v6))] → W zp l ze (headSpec wsX5_latestMeeting ({ frames := 5, cells := 0, slots := 0, locals := 121 } : Room)).room zs zm ([.ref q_x, .int (nI a), .int (nI b), .int (nI q), .ref q_pw] : List Value).toArray zbelow zmeth zc zs.heap [] 0 0 (MQ zbelow (vp_Si (fun zr : Int32 => ∃ y : Int32, laP q (mtV t w L r L3 r3 a b) y ∧ zr = y)) ([.ref q_x, .int (nI a), .int (nI b), .int (nI q), .ref q_pw] : List Value).toArray zs 0 0 (fun _ => False)) (F0 zm 6 ls [])) := ⟨_, fun _ _ => Iff.rfl⟩
  have b6 : ∀ (v5 : Nat) (v6 : Nat), B_X5_latestMeeting_6 n t w r L r3 L3 a b q X6 v5 v6 → X6 v5 v6 := by
    intro v5 v6 hw
    rw [hX6]
    intro ls hl
    unfold B_X5_latestMeeting_6 at hw
    refine lv_iload hx hb dX5_latestMeeting_6 (lv_at hl 6 rfl) ?_
    refine lv_iload_n hx hb dX5_latestMeeting_8 rfl (lv_at hl 3 rfl) ?_
    obtain ⟨zh1, hw⟩ := hw
    obtain ⟨zh2, hw⟩ := hw
    obtain ⟨hwt, hwf⟩ := hw
    refine z_icmp_gt hx hb zh1 zh2 (tgt := 49) dX5_latestMeeting_9 (by decide) (fun cc => ?_) (fun cc => ?_)
    · replace hw := hwt cc
      refine lv_iload hx hb dX5_latestMeeting_49 (lv_at hl 5 rfl) ?_
      obtain ⟨y, po0, er⟩ := hw
      exact W.iret (v := nI v5) hx hb hr (fun t ht hW => ⟨_, rfl, ⟨y, po0, er⟩, ht⟩) (fun _ h => by cases h) dX5_latestMeeting_51
    · replace hw := hwf cc
      refine lv_aload_n hx hb dX5_latestMeeting_12 rfl (lv_at hl 0 rfl) ?_
      refine lv_iload_n hx hb dX5_latestMeeting_13 rfl (lv_at hl 1 rfl) ?_
      refine lv_iload_n hx hb dX5_latestMeeting_14 rfl (lv_at hl 2 rfl) ?_
      refine lv_iload hx hb dX5_latestMeeting_15 (lv_at hl 6 rfl) ?_
      refine lv_aload hx hb dX5_latestMeeting_17 (lv_at hl 4 rfl) ?_
      obtain ⟨zh3, hw⟩ := hw
      obtain ⟨zh4, hw⟩ := hw
      obtain ⟨zh5, hw⟩ := hw
      obtain ⟨zh6, hw⟩ := hw
      obtain ⟨zh7, hw⟩ := hw
      obtain ⟨zh8, hw⟩ := hw
      have hPc : va_P D vwCl [(q_x, .inr (5, [.ref q_nt, .ref q_rw, .ref q_rv, .ref q_hd, .ref q_lk, .ref q_rg])), (q_nt, .inr (2, [.ref q_en, .ref q_ba, .ref q_de, .int (nI n), .int (nI (prs t))])), (q_en, .inl (cI, 32, .inl (aE t))), (q_ba, .inl (cZ, 32, .inl (aB w))), (q_de, .inl (cI, 8, .inl (aN (dg t)))), (q_rw, .inr (4, [.ref q_nm, .int (nI L)])), (q_nm, .inl (cI, 40, .inl (aN r))), (q_pw, .inr (4, [.ref q_np, .int (nI L3)])), (q_np, .inl (cI, 40, .inl (aN r3)))] zs.heap := hP.sub [0, 1, 2, 3, 4, 5, 6, 7, 8] rfl
      refine z_ro (va_runV (As := [.int (nI a), .int (nI b), .int (nI v6), .ref q_pw]) (rest := []) ⟨hx, hb, hml, hown, hts⟩ (k_X5_meetingStep q_x q_nt q_en q_ba q_de q_rw q_nm q_pw q_np q_rv q_hd q_lk q_rg n t w r L r3 L3 a b v6 zh3 zh4 zh5 zh6 zh7 zh8) (cwV 4 hts gX5_latestMeeting_X5_meetingStep rfl rfl rfl (by decide +kernel) ⟨Nat.le_of_ble_eq_true rfl, Nat.le_of_ble_eq_true rfl⟩) (zPr_V hZ hPc 0 rfl rfl) rfl rfl hl.1 rfl (lv_room (Nat.le_of_ble_eq_true rfl)) dX5_latestMeeting_19 ⟨Nat.zero_le _, Nat.zero_le _⟩) (fun zr9 hzr9 => ?_)
      have ez := hzr9
      rw [ez]
      clear ez hzr9
      obtain ⟨zx10, ezx10⟩ : ∃ zx10 : Int32, zx10 = mtV t w L r L3 r3 a b v6 := ⟨_, rfl⟩
      replace hw := hw zx10 ezx10
      refine z_st (st' := [.int zx10]) (by rw [ezx10]) ?_
      refine lv_istore (lv' := [(7, .int zx10), (0, .ref q_x), (1, .int (nI a)), (2, .int (nI b)), (3, .int (nI q)), (4, .ref q_pw), (5, .int (nI v5)), (6, .int (nI v6))]) hx hb dX5_latestMeeting_22 hl (by decide) rfl (fun ls hl => ?_)
      refine lv_iload hx hb dX5_latestMeeting_24 (lv_at hl 0 rfl) ?_
      refine lv_bipush (v := (-6)) hx hb dX5_latestMeeting_26 (by decide +kernel) ?_
      obtain ⟨hwt, hwf⟩ := hw
      refine lv_icmp_ne hx hb (tgt := 34) dX5_latestMeeting_28 (by decide) (fun cc => ?_) (fun cc => ?_)
      · replace hw := hwt cc
        refine lv_iload hx hb dX5_latestMeeting_34 (lv_at hl 6 rfl) ?_
        refine lv_iload hx hb dX5_latestMeeting_36 (lv_at hl 0 rfl) ?_
        refine va_mmax hx hb (hml.trans hl.1.symm) hown (hts _ m_X5_latestMeeting_mx1) (hts _ m_X5_latestMeeting_mx2) (hts _ m_X5_latestMeeting_mx3) (hts _ m_X5_latestMeeting_mx4) (Nat.le_of_ble_eq_true rfl) (Nat.le_of_ble_eq_true rfl) (Nat.zero_le _) (Nat.zero_le _) dX5_latestMeeting_38 ?_
        obtain ⟨zx11, ezx11⟩ : ∃ zx11 : Int32, zx11 = (if nI v5 < zx10 then zx10 else nI v5) := ⟨_, rfl⟩
        replace hw := hw zx11 ezx11
        refine z_st (st' := [.int zx11]) (by rw [ezx11]) ?_
        refine lv_istore (lv' := [(5, .int zx11), (7, .int zx10), (0, .ref q_x), (1, .int (nI a)), (2, .int (nI b)), (3, .int (nI q)), (4, .ref q_pw), (6, .int (nI v6))]) hx hb dX5_latestMeeting_41 hl (by decide) rfl (fun ls hl => ?_)
        refine lv_iinc (v := nI (v6 + 1)) (lv' := [(6, .int (nI (v6 + 1))), (5, .int zx11), (7, .int zx10), (0, .ref q_x), (1, .int (nI a)), (2, .int (nI b)), (3, .int (nI q)), (4, .ref q_pw)]) hx hb dX5_latestMeeting_43 hl (k := 7) rfl (by rw [show Int32.ofInt 1 = nI 1 from by decide +kernel]; exact nI_add _ _) (by decide) rfl (fun ls hl => ?_)
        refine lv_goto (tgt := 6) hx hb dX5_latestMeeting_46 (by decide) ?_
        obtain ⟨zk12, ezk12, hw⟩ := hw
        exact ((hX6 _ _).mp hw) ls (show lv_has ls 8 [(0, .ref q_x), (1, .int (nI a)), (2, .int (nI b)), (3, .int (nI q)), (4, .ref q_pw), (5, .int (nI zk12)), (6, .int (nI (v6 + 1)))] from by rw [← ezk12]; exact lv_sub hl [3, 4, 5, 6, 7, 1, 0] rfl)
      · replace hw := hwf cc
        refine lv_bipush (v := (-6)) hx hb dX5_latestMeeting_31 (by decide +kernel) ?_
        obtain ⟨y, po0, er⟩ := hw
        exact W.iret (v := (-6)) hx hb hr (fun t ht hW => ⟨_, rfl, ⟨y, po0, er⟩, ht⟩) (fun _ h => by cases h) dX5_latestMeeting_33
  have hw := vw X6 b6
  unfold B_X5_latestMeeting_in at hw
  refine lv_iconst (v := nI 0) hx hb dX5_latestMeeting_0 (by decide +kernel) ?_
  refine lv_istore (lv' := [(5, .int (nI 0)), (0, .ref q_x), (1, .int (nI a)), (2, .int (nI b)), (3, .int (nI q)), (4, .ref q_pw)]) hx hb dX5_latestMeeting_1 hl (by decide) rfl (fun ls hl => ?_)
  refine lv_iconst (v := nI 0) hx hb dX5_latestMeeting_3 (by decide +kernel) ?_
  refine lv_istore (lv' := [(6, .int (nI 0)), (5, .int (nI 0)), (0, .ref q_x), (1, .int (nI a)), (2, .int (nI b)), (3, .int (nI q)), (4, .ref q_pw)]) hx hb dX5_latestMeeting_4 hl (by decide) rfl (fun ls hl => ?_)
  exact ((hX6 _ _).mp hw) ls (lv_sub hl [2, 3, 4, 5, 6, 1, 0] rfl)
theorem m_X5_meet_f10 : Cond.fieldLink RX5 10 "NetWalkers" "net" "LNetWalkers$Net;" ∈ wsX5_meet := by decide +kernel
theorem i_X5_meet_X5 : ∀ w ∈ wsX50, w ∈ wsX5_meet := by decide +kernel
set_option maxRecDepth 100000 in
set_option maxHeartbeats 4000000 in
theorem w_X5_meet {l : Launch} {D : va_G} {cI cZ : ClassId} (k_X2_hasPost : K_X2_hasPost l D cI cZ) (k_X2_isReady : K_X2_isReady l D cI cZ) (k_X5_rowOf_t : K_X5_rowOf_t l D cI cZ) (k_X5_meetingStep : K_X5_meetingStep l D cI cZ) (k_X5_rowOf_f : K_X5_rowOf_f l D cI cZ) (vv : V_X5_meet) : K_X5_meet l D cI cZ := by
  intro q_x q_nt q_en q_ba q_de q_rw q_nm q_rv q_nv q_hd q_lk q_rg n t w r L r2 L2 a b d o hpre0 hpre1 hpre2
  have vw := vv n t w r L r2 L2 a b d o hpre0 hpre1 hpre2
  refine Met.ofW (cc := cX5_meet) (maxL := 5) (ret := (some .int)) (by decide) rfl ?_
  intro zp ze zs zm zargs zbelow zmeth zc zs1 B hml hv
  obtain ⟨rfl, hZ, hP⟩ := hv
  have hx := B.exec
  have hb := B.bytes
  have hr := B.returns
  have hts := atoms_spec (ws := wsX5_meet) B.pre
  have hown : zs.vm.findClass RX5 = some zm.cls := findClass_of_methodNamed B.named
  have hlocks := B.notSynchronized
  have hP : va_P D vwCl [(q_x, .inr (5, [.ref q_nt, .ref q_rw, .ref q_rv, .ref q_hd, .ref q_lk, .ref q_rg])), (q_nt, .inr (2, [.ref q_en, .ref q_ba, .ref q_de, .int (nI n), .int (nI (prs t))])), (q_en, .inl (cI, 32, .inl (aE t))), (q_ba, .inl (cZ, 32, .inl (aB w))), (q_de, .inl (cI, 8, .inl (aN (dg t)))), (q_rw, .inr (4, [.ref q_nm, .int (nI L)])), (q_nm, .inl (cI, 40, .inl (aN r))), (q_rv, .inr (4, [.ref q_nv, .int (nI L2)])), (q_nv, .inl (cI, 40, .inl (aN r2)))] zs.heap := hP
  have hl := lv_entry ([.ref q_x, .int a, .int b, .int d, .int (bI o)]) (n := 5) (Nat.le_of_ble_eq_true rfl)
  rw [lg_entry_eq]
  generalize (lg_sl ([.ref q_x, .int a, .int b, .int d, .int (bI o)]) ++ List.replicate (5 - (lg_sl ([.ref q_x, .int a, .int b, .int d, .int (bI o)])).length) Slot.unset).toArray = ls at hl ⊢
  have hl : lv_has ls 5 [(0, .ref q_x), (1, .int a), (2, .int b), (3, .int d), (4, .int (bI o))] := hl
  have hw := vw
  unfold B_X5_meet_in at hw
  refine lv_aload_n hx hb dX5_meet_0 rfl (lv_at hl 0 rfl) ?_
  refine va_get (D := D) (ci := 5) (v := .ref q_nt) (C := RX5) (T := TX5) (N := 6) hx hb hts i_X5_meet_X5 hown hZ.1 hP 0 rfl rfl 0 (by decide) (hts _ m_X5_meet_f10) (fun _ h9 => h9) rfl dX5_meet_1 ?_
  refine lv_iload_n hx hb dX5_meet_4 rfl (lv_at hl 1 rfl) ?_
  have hPc : va_P D vwCl [(q_nt, .inr (2, [.ref q_en, .ref q_ba, .ref q_de, .int (nI n), .int (nI (prs t))])), (q_en, .inl (cI, 32, .inl (aE t))), (q_ba, .inl (cZ, 32, .inl (aB w))), (q_de, .inl (cI, 8, .inl (aN (dg t))))] zs.heap := hP.sub [1, 2, 3, 4] rfl
  refine z_ro (va_runV (As := [.int a]) (rest := []) ⟨hx, hb, hml, hown, hts⟩ (k_X2_hasPost q_nt q_en q_ba q_de n t w a) (cwV 1 hts gX5_meet_X2_hasPost rfl rfl rfl (by decide +kernel) ⟨Nat.le_of_ble_eq_true rfl, Nat.le_of_ble_eq_true rfl⟩) (zPr_V hZ hPc 0 rfl rfl) rfl rfl hl.1 rfl (lv_room (Nat.le_of_ble_eq_true rfl)) dX5_meet_5 ⟨Nat.zero_le _, Nat.zero_le _⟩) (fun zr1 hzr1 => ?_)
  have ez := hzr1
  rw [ez]
  clear ez hzr1
  obtain ⟨hwt, hwf⟩ := hw
  refine z_if_eqb hx hb (tgt := 22) dX5_meet_8 (by decide) (fun cc => ?_) (fun cc => ?_)
  · replace hw := hwt cc
    refine lv_iconst (v := (-1)) hx hb dX5_meet_22 (by decide +kernel) ?_
    have er := hw
    exact W.iret (v := (-1)) hx hb hr (fun t ht hW => ⟨_, rfl, er, ht⟩) (fun _ h => by cases h) dX5_meet_23
  · replace hw := hwf cc
    refine lv_aload_n hx hb dX5_meet_11 rfl (lv_at hl 0 rfl) ?_
    refine va_get (D := D) (ci := 5) (v := .ref q_nt) (C := RX5) (T := TX5) (N := 6) hx hb hts i_X5_meet_X5 hown hZ.1 hP 0 rfl rfl 0 (by decide) (hts _ m_X5_meet_f10) (fun _ h9 => h9) rfl dX5_meet_12 ?_
    refine lv_iload_n hx hb dX5_meet_15 rfl (lv_at hl 2 rfl) ?_
    have hPc : va_P D vwCl [(q_nt, .inr (2, [.ref q_en, .ref q_ba, .ref q_de, .int (nI n), .int (nI (prs t))])), (q_en, .inl (cI, 32, .inl (aE t))), (q_ba, .inl (cZ, 32, .inl (aB w))), (q_de, .inl (cI, 8, .inl (aN (dg t))))] zs.heap := hP.sub [1, 2, 3, 4] rfl
    refine z_ro (va_runV (As := [.int b]) (rest := []) ⟨hx, hb, hml, hown, hts⟩ (k_X2_hasPost q_nt q_en q_ba q_de n t w b) (cwV 1 hts gX5_meet_X2_hasPost rfl rfl rfl (by decide +kernel) ⟨Nat.le_of_ble_eq_true rfl, Nat.le_of_ble_eq_true rfl⟩) (zPr_V hZ hPc 0 rfl rfl) rfl rfl hl.1 rfl (lv_room (Nat.le_of_ble_eq_true rfl)) dX5_meet_16 ⟨Nat.zero_le _, Nat.zero_le _⟩) (fun zr2 hzr2 => ?_)
    have ez := hzr2
    rw [ez]
    clear ez hzr2
    obtain ⟨hwt, hwf⟩ := hw
    refine z_if_neb hx hb (tgt := 24) dX5_meet_19 (by decide) (fun cc => ?_) (fun cc => ?_)
    · replace hw := hwt cc
      refine lv_iload_n hx hb dX5_meet_24 rfl (lv_at hl 3 rfl) ?_
      obtain ⟨hwt, hwf⟩ := hw
      refine lv_if_lt hx hb (tgt := 34) dX5_meet_25 (by decide) (fun cc => ?_) (fun cc => ?_)
      · replace hw := hwt cc
        refine lv_bipush (v := (-2)) hx hb dX5_meet_34 (by decide +kernel) ?_
        have er := hw
        exact W.iret (v := (-2)) hx hb hr (fun t ht hW => ⟨_, rfl, er, ht⟩) (fun _ h => by cases h) dX5_meet_36
      · replace hw := hwf cc
        refine lv_iload_n hx hb dX5_meet_28 rfl (lv_at hl 3 rfl) ?_
        refine lv_bipush (v := nI 20) hx hb dX5_meet_29 (by decide +kernel) ?_
        obtain ⟨hwt, hwf⟩ := hw
        refine lv_icmp_le hx hb (tgt := 37) dX5_meet_31 (by decide) (fun cc => ?_) (fun cc => ?_)
        · replace hw := hwt cc
          refine lv_aload_n hx hb dX5_meet_37 rfl (lv_at hl 0 rfl) ?_
          refine va_get (D := D) (ci := 5) (v := .ref q_nt) (C := RX5) (T := TX5) (N := 6) hx hb hts i_X5_meet_X5 hown hZ.1 hP 0 rfl rfl 0 (by decide) (hts _ m_X5_meet_f10) (fun _ h9 => h9) rfl dX5_meet_38 ?_
          obtain ⟨zh3, hw⟩ := hw
          have hPc : va_P D vwCl [(q_nt, .inr (2, [.ref q_en, .ref q_ba, .ref q_de, .int (nI n), .int (nI (prs t))])), (q_en, .inl (cI, 32, .inl (aE t))), (q_ba, .inl (cZ, 32, .inl (aB w))), (q_de, .inl (cI, 8, .inl (aN (dg t))))] zs.heap := hP.sub [1, 2, 3, 4] rfl
          refine z_ro (va_runV (As := []) (rest := []) ⟨hx, hb, hml, hown, hts⟩ (k_X2_isReady q_nt q_en q_ba q_de n t w zh3) (cwV 0 hts gX5_meet_X2_isReady rfl rfl rfl (by decide +kernel) ⟨Nat.le_of_ble_eq_true rfl, Nat.le_of_ble_eq_true rfl⟩) (zPr_V hZ hPc 0 rfl rfl) rfl rfl hl.1 rfl (lv_room (Nat.le_of_ble_eq_true rfl)) dX5_meet_41 ⟨Nat.zero_le _, Nat.zero_le _⟩) (fun zr4 hzr4 => ?_)
          have ez := hzr4
          rw [ez]
          clear ez hzr4
          obtain ⟨hwt, hwf⟩ := hw
          refine z_if_eqb hx hb (tgt := 63) dX5_meet_44 (by decide) (fun cc => ?_) (fun cc => ?_)
          · replace hw := hwt cc
            refine lv_bipush (v := (-3)) hx hb dX5_meet_63 (by decide +kernel) ?_
            have er := hw
            exact W.iret (v := (-3)) hx hb hr (fun t ht hW => ⟨_, rfl, er, ht⟩) (fun _ h => by cases h) dX5_meet_65
          · replace hw := hwf cc
            refine lv_aload_n hx hb dX5_meet_47 rfl (lv_at hl 0 rfl) ?_
            refine lv_iload_n hx hb dX5_meet_48 rfl (lv_at hl 1 rfl) ?_
            refine lv_iload_n hx hb dX5_meet_49 rfl (lv_at hl 2 rfl) ?_
            refine lv_iload_n hx hb dX5_meet_50 rfl (lv_at hl 3 rfl) ?_
            refine lv_aload_n hx hb dX5_meet_51 rfl (lv_at hl 0 rfl) ?_
            refine lv_iload hx hb dX5_meet_52 (lv_at hl 4 rfl) ?_
            obtain ⟨hwt, hwf⟩ := hw
            rcases (by cases o <;> simp : o = true ∨ o = false) with cb | cb
            · replace hw := hwt cb
              refine z_st (st' := [.int (bI true), .ref q_x, .int d, .int b, .int a, .ref q_x]) (by rw [cb]) ?_
              obtain ⟨zh5, hw⟩ := hw
              have hPc : va_P D vwCl [(q_x, .inr (5, [.ref q_nt, .ref q_rw, .ref q_rv, .ref q_hd, .ref q_lk, .ref q_rg])), (q_rw, .inr (4, [.ref q_nm, .int (nI L)])), (q_nm, .inl (cI, 40, .inl (aN r))), (q_rv, .inr (4, [.ref q_nv, .int (nI L2)])), (q_nv, .inl (cI, 40, .inl (aN r2)))] zs.heap := hP.sub [0, 5, 6, 7, 8] rfl
              refine z_ror (va_runV (As := [.int (bI true)]) (rest := [.int d, .int b, .int a, .ref q_x]) ⟨hx, hb, hml, hown, hts⟩ (k_X5_rowOf_t q_x q_rw q_nm q_rv q_nv q_nt q_hd q_lk q_rg r L r2 L2 true zh5) (cwV 1 hts gX5_meet_X5_rowOf rfl rfl rfl (by decide +kernel) ⟨Nat.le_of_ble_eq_true rfl, Nat.le_of_ble_eq_true rfl⟩) (zPr_V hZ hPc 0 rfl rfl) rfl rfl hl.1 rfl (lv_room (Nat.le_of_ble_eq_true rfl)) dX5_meet_54 ⟨Nat.zero_le _, Nat.zero_le _⟩) ?_
              obtain ⟨zk6, ezk6, hw⟩ := hw
              refine z_st (st' := [.ref q_rv, .int d, .int b, .int (nI zk6), .ref q_x]) (by rw [ezk6]) ?_
              obtain ⟨zk7, ezk7, hw⟩ := hw
              refine z_st (st' := [.ref q_rv, .int d, .int (nI zk7), .int (nI zk6), .ref q_x]) (by rw [ezk7]) ?_
              obtain ⟨zk8, ezk8, hw⟩ := hw
              refine z_st (st' := [.ref q_rv, .int (nI zk8), .int (nI zk7), .int (nI zk6), .ref q_x]) (by rw [ezk8]) ?_
              obtain ⟨zh9, hw⟩ := hw
              obtain ⟨zh10, hw⟩ := hw
              obtain ⟨zh11, hw⟩ := hw
              obtain ⟨zh12, hw⟩ := hw
              obtain ⟨zh13, hw⟩ := hw
              obtain ⟨zh14, hw⟩ := hw
              have hPc : va_P D vwCl [(q_x, .inr (5, [.ref q_nt, .ref q_rw, .ref q_rv, .ref q_hd, .ref q_lk, .ref q_rg])), (q_nt, .inr (2, [.ref q_en, .ref q_ba, .ref q_de, .int (nI n), .int (nI (prs t))])), (q_en, .inl (cI, 32, .inl (aE t))), (q_ba, .inl (cZ, 32, .inl (aB w))), (q_de, .inl (cI, 8, .inl (aN (dg t)))), (q_rw, .inr (4, [.ref q_nm, .int (nI L)])), (q_nm, .inl (cI, 40, .inl (aN r))), (q_rv, .inr (4, [.ref q_nv, .int (nI L2)])), (q_nv, .inl (cI, 40, .inl (aN r2)))] zs.heap := hP.sub [0, 1, 2, 3, 4, 5, 6, 7, 8] rfl
              refine z_ro (va_runV (As := [.int (nI zk6), .int (nI zk7), .int (nI zk8), .ref q_rv]) (rest := []) ⟨hx, hb, hml, hown, hts⟩ (k_X5_meetingStep q_x q_nt q_en q_ba q_de q_rw q_nm q_rv q_nv q_rv q_hd q_lk q_rg n t w r L r2 L2 zk6 zk7 zk8 zh9 zh10 zh11 zh12 zh13 zh14) (cwV 4 hts gX5_meet_X5_meetingStep rfl rfl rfl (by decide +kernel) ⟨Nat.le_of_ble_eq_true rfl, Nat.le_of_ble_eq_true rfl⟩) (zPr_V hZ hPc 0 rfl rfl) rfl rfl hl.1 rfl (lv_room (Nat.le_of_ble_eq_true rfl)) dX5_meet_57 ⟨Nat.zero_le _, Nat.zero_le _⟩) (fun zr15 hzr15 => ?_)
              have ez := hzr15
              rw [ez]
              clear ez hzr15
              refine lv_goto (tgt := 65) hx hb dX5_meet_60 (by decide) ?_
              have er := hw
              exact W.iret (v := mtV t w L r L2 r2 zk6 zk7 zk8) hx hb hr (fun t ht hW => ⟨_, rfl, er, ht⟩) (fun _ h => by cases h) dX5_meet_65
            · replace hw := hwf cb
              refine z_st (st' := [.int (bI false), .ref q_x, .int d, .int b, .int a, .ref q_x]) (by rw [cb]) ?_
              obtain ⟨zh16, hw⟩ := hw
              have hPc : va_P D vwCl [(q_x, .inr (5, [.ref q_nt, .ref q_rw, .ref q_rv, .ref q_hd, .ref q_lk, .ref q_rg])), (q_rw, .inr (4, [.ref q_nm, .int (nI L)])), (q_nm, .inl (cI, 40, .inl (aN r))), (q_rv, .inr (4, [.ref q_nv, .int (nI L2)])), (q_nv, .inl (cI, 40, .inl (aN r2)))] zs.heap := hP.sub [0, 5, 6, 7, 8] rfl
              refine z_ror (va_runV (As := [.int (bI false)]) (rest := [.int d, .int b, .int a, .ref q_x]) ⟨hx, hb, hml, hown, hts⟩ (k_X5_rowOf_f q_x q_rw q_nm q_rv q_nv q_nt q_hd q_lk q_rg r L r2 L2 false zh16) (cwV 1 hts gX5_meet_X5_rowOf rfl rfl rfl (by decide +kernel) ⟨Nat.le_of_ble_eq_true rfl, Nat.le_of_ble_eq_true rfl⟩) (zPr_V hZ hPc 0 rfl rfl) rfl rfl hl.1 rfl (lv_room (Nat.le_of_ble_eq_true rfl)) dX5_meet_54 ⟨Nat.zero_le _, Nat.zero_le _⟩) ?_
              obtain ⟨zk17, ezk17, hw⟩ := hw
              refine z_st (st' := [.ref q_rw, .int d, .int b, .int (nI zk17), .ref q_x]) (by rw [ezk17]) ?_
              obtain ⟨zk18, ezk18, hw⟩ := hw
              refine z_st (st' := [.ref q_rw, .int d, .int (nI zk18), .int (nI zk17), .ref q_x]) (by rw [ezk18]) ?_
              obtain ⟨zk19, ezk19, hw⟩ := hw
              refine z_st (st' := [.ref q_rw, .int (nI zk19), .int (nI zk18), .int (nI zk17), .ref q_x]) (by rw [ezk19]) ?_
              obtain ⟨zh20, hw⟩ := hw
              obtain ⟨zh21, hw⟩ := hw
              obtain ⟨zh22, hw⟩ := hw
              obtain ⟨zh23, hw⟩ := hw
              obtain ⟨zh24, hw⟩ := hw
              obtain ⟨zh25, hw⟩ := hw
              have hPc : va_P D vwCl [(q_x, .inr (5, [.ref q_nt, .ref q_rw, .ref q_rv, .ref q_hd, .ref q_lk, .ref q_rg])), (q_nt, .inr (2, [.ref q_en, .ref q_ba, .ref q_de, .int (nI n), .int (nI (prs t))])), (q_en, .inl (cI, 32, .inl (aE t))), (q_ba, .inl (cZ, 32, .inl (aB w))), (q_de, .inl (cI, 8, .inl (aN (dg t)))), (q_rw, .inr (4, [.ref q_nm, .int (nI L)])), (q_nm, .inl (cI, 40, .inl (aN r))), (q_rw, .inr (4, [.ref q_nm, .int (nI L)])), (q_nm, .inl (cI, 40, .inl (aN r)))] zs.heap := hP.sub [0, 1, 2, 3, 4, 5, 6, 5, 6] rfl
              refine z_ro (va_runV (As := [.int (nI zk17), .int (nI zk18), .int (nI zk19), .ref q_rw]) (rest := []) ⟨hx, hb, hml, hown, hts⟩ (k_X5_meetingStep q_x q_nt q_en q_ba q_de q_rw q_nm q_rw q_nm q_rv q_hd q_lk q_rg n t w r L r L zk17 zk18 zk19 zh20 zh21 zh22 zh23 zh24 zh25) (cwV 4 hts gX5_meet_X5_meetingStep rfl rfl rfl (by decide +kernel) ⟨Nat.le_of_ble_eq_true rfl, Nat.le_of_ble_eq_true rfl⟩) (zPr_V hZ hPc 0 rfl rfl) rfl rfl hl.1 rfl (lv_room (Nat.le_of_ble_eq_true rfl)) dX5_meet_57 ⟨Nat.zero_le _, Nat.zero_le _⟩) (fun zr26 hzr26 => ?_)
              have ez := hzr26
              rw [ez]
              clear ez hzr26
              refine lv_goto (tgt := 65) hx hb dX5_meet_60 (by decide) ?_
              have er := hw
              exact W.iret (v := mtV t w L r L r zk17 zk18 zk19) hx hb hr (fun t ht hW => ⟨_, rfl, er, ht⟩) (fun _ h => by cases h) dX5_meet_65
        · replace hw := hwf cc
          refine lv_bipush (v := (-2)) hx hb dX5_meet_34 (by decide +kernel) ?_
          have er := hw
          exact W.iret (v := (-2)) hx hb hr (fun t ht hW => ⟨_, rfl, er, ht⟩) (fun _ h => by cases h) dX5_meet_36
    · replace hw := hwf cc
      refine lv_iconst (v := (-1)) hx hb dX5_meet_22 (by decide +kernel) ?_
      have er := hw
      exact W.iret (v := (-1)) hx hb hr (fun t ht hW => ⟨_, rfl, er, ht⟩) (fun _ h => by cases h) dX5_meet_23
theorem m_X5_worst_f10 : Cond.fieldLink RX5 10 "NetWalkers" "net" "LNetWalkers$Net;" ∈ wsX5_worst := by decide +kernel
theorem i_X5_worst_X5 : ∀ w ∈ wsX50, w ∈ wsX5_worst := by decide +kernel
theorem m_X5_worst_f49 : Cond.fieldLink RX5 49 "NetWalkers$Net" "size" "I" ∈ wsX5_worst := by decide +kernel
theorem i_X5_worst_X2 : ∀ w ∈ wsX20, w ∈ wsX5_worst := by decide +kernel
theorem m_X5_worst_mx1 : Cond.methodLink RX5 170 Lib.Math.max.name ∈ wsX5_worst := by decide +kernel
theorem m_X5_worst_mx2 : Cond.static Lib.Math.max.name ∈ wsX5_worst := by decide +kernel
theorem m_X5_worst_mx3 : Cond.initialized "java/lang/Math" ∈ wsX5_worst := by decide +kernel
theorem m_X5_worst_mx4 : Cond.code Lib.Math.max.name Lib.Math.max.code 2 (some .int) ∈ wsX5_worst := by decide +kernel
set_option maxRecDepth 100000 in
set_option maxHeartbeats 4000000 in
theorem w_X5_worst {l : Launch} {D : va_G} {cI cZ : ClassId} (k_X5_rowOf_t : K_X5_rowOf_t l D cI cZ) (k_X5_latestMeeting : K_X5_latestMeeting l D cI cZ) (k_X5_rowOf_f : K_X5_rowOf_f l D cI cZ) (k_X2_isReady : K_X2_isReady l D cI cZ) (vv : V_X5_worst) : K_X5_worst l D cI cZ := by
  intro q_x q_nt q_en q_ba q_de q_rw q_nm q_rv q_nv q_hd q_lk q_rg n t w r L r2 L2 q o hpre0 hpre1 hpre2
  have vw := vv n t w r L r2 L2 q o hpre0 hpre1 hpre2
  refine Met.ofW (cc := cX5_worst) (maxL := 7) (ret := (some .int)) (by decide) rfl ?_
  intro zp ze zs zm zargs zbelow zmeth zc zs1 B hml hv
  obtain ⟨rfl, hZ, hP⟩ := hv
  have hx := B.exec
  have hb := B.bytes
  have hr := B.returns
  have hts := atoms_spec (ws := wsX5_worst) B.pre
  have hown : zs.vm.findClass RX5 = some zm.cls := findClass_of_methodNamed B.named
  have hlocks := B.notSynchronized
  have hP : va_P D vwCl [(q_x, .inr (5, [.ref q_nt, .ref q_rw, .ref q_rv, .ref q_hd, .ref q_lk, .ref q_rg])), (q_nt, .inr (2, [.ref q_en, .ref q_ba, .ref q_de, .int (nI n), .int (nI (prs t))])), (q_en, .inl (cI, 32, .inl (aE t))), (q_ba, .inl (cZ, 32, .inl (aB w))), (q_de, .inl (cI, 8, .inl (aN (dg t)))), (q_rw, .inr (4, [.ref q_nm, .int (nI L)])), (q_nm, .inl (cI, 40, .inl (aN r))), (q_rv, .inr (4, [.ref q_nv, .int (nI L2)])), (q_nv, .inl (cI, 40, .inl (aN r2)))] zs.heap := hP
  have hl := lv_entry ([.ref q_x, .int q, .int (bI o)]) (n := 7) (Nat.le_of_ble_eq_true rfl)
  rw [lg_entry_eq]
  generalize (lg_sl ([.ref q_x, .int q, .int (bI o)]) ++ List.replicate (7 - (lg_sl ([.ref q_x, .int q, .int (bI o)])).length) Slot.unset).toArray = ls at hl ⊢
  have hl : lv_has ls 7 [(0, .ref q_x), (1, .int q), (2, .int (bI o))] := hl
  obtain ⟨X31, hX31⟩ : ∃ X : Nat → Nat → Prop, ∀ (v3 : Nat) (v4 : Nat), X v3 v4 ↔ (∀ ls : Array Slot, lv_has ls 7 [(0, .ref q_x), (1, .int q), (2, .int (bI o)), (3, .int (nI v3)), (4, .int (nI v4))] → W zp l ze (headSpec wsX5_worst ({ frames := 6, cells := 0, slots := 0, locals := 148 } : Room)).room zs zm ([.ref q_x, .int q, .int (bI o)] : List Value).toArray zbelow zmeth zc zs.heap [] 0 0 (MQ zbelow (vp_Si (fun zr : Int32 => ∃ y : Int32, woP n t w r L r2 L2 q o y ∧ zr = y)) ([.ref q_x, .int q, .int (bI o)] : List Value).toArray zs 0 0 (fun _ => False)) (F0 zm 31 ls [])) := ⟨_, fun _ _ => Iff.rfl⟩
  obtain ⟨X46, hX46⟩ : ∃ X : Nat → Nat → Nat → Prop, ∀ (v3 : Nat) (v4 : Nat) (v5 : Nat), X v3 v4 v5 ↔ (∀ ls : Array Slot, lv_has ls 7 [(0, .ref q_x), (1, .int q), (2, .int (bI o)), (3, .int (nI v3)), (4, .int (nI v4)), (5, .int (nI v5))] → W zp l ze (headSpec wsX5_worst ({ frames := 6, cells := 0, slots := 0, locals := 148 } : Room)).room zs zm ([.ref q_x, .int q, .int (bI o)] : List Value).toArray zbelow zmeth zc zs.heap [] 0 0 (MQ zbelow (vp_Si (fun zr : Int32 => ∃ y : Int32, woP n t w r L r2 L2 q o y ∧ zr = y)) ([.ref q_x, .int q, .int (bI o)] : List Value).toArray zs 0 0 (fun _ => False)) (F0 zm 46 ls [])) := ⟨_, fun _ _ _ => Iff.rfl⟩
  have b31 : ∀ (v3 : Nat) (v4 : Nat), B_X5_worst_31 n t w r L r2 L2 q o X31 X46 v3 v4 → X31 v3 v4 := by
    intro v3 v4 hw
    rw [hX31]
    intro ls hl
    unfold B_X5_worst_31 at hw
    refine lv_iload hx hb dX5_worst_31 (lv_at hl 4 rfl) ?_
    refine lv_aload_n hx hb dX5_worst_33 rfl (lv_at hl 0 rfl) ?_
    refine va_get (D := D) (ci := 5) (v := .ref q_nt) (C := RX5) (T := TX5) (N := 6) hx hb hts i_X5_worst_X5 hown hZ.1 hP 0 rfl rfl 0 (by decide) (hts _ m_X5_worst_f10) (fun _ h9 => h9) rfl dX5_worst_34 ?_
    refine va_get (D := D) (ci := 2) (v := .int (nI n)) (C := RX2) (T := TX2) (N := 5) hx hb hts i_X5_worst_X2 hown hZ.1 hP 1 rfl rfl 3 (by decide) (hts _ m_X5_worst_f49) (fun _ h9 => h9) rfl dX5_worst_37 ?_
    obtain ⟨zh1, hw⟩ := hw
    obtain ⟨zh2, hw⟩ := hw
    obtain ⟨hwt, hwf⟩ := hw
    refine z_icmp_ge hx hb zh1 zh2 (tgt := 114) dX5_worst_40 (by decide) (fun cc => ?_) (fun cc => ?_)
    · replace hw := hwt cc
      refine lv_iload_n hx hb dX5_worst_114 rfl (lv_at hl 3 rfl) ?_
      obtain ⟨y, po0, er⟩ := hw
      exact W.iret (v := nI v3) hx hb hr (fun t ht hW => ⟨_, rfl, ⟨y, po0, er⟩, ht⟩) (fun _ h => by cases h) dX5_worst_115
    · replace hw := hwf cc
      refine lv_iconst (v := nI 0) hx hb dX5_worst_43 (by decide +kernel) ?_
      refine lv_istore (lv' := [(5, .int (nI 0)), (0, .ref q_x), (1, .int q), (2, .int (bI o)), (3, .int (nI v3)), (4, .int (nI v4))]) hx hb dX5_worst_44 hl (by decide) rfl (fun ls hl => ?_)
      exact ((hX46 _ _ _).mp hw) ls (lv_sub hl [1, 2, 3, 4, 5, 0] rfl)
  have b46 : ∀ (v3 : Nat) (v4 : Nat) (v5 : Nat), B_X5_worst_46 n t w r L r2 L2 q o X31 X46 v3 v4 v5 → X46 v3 v4 v5 := by
    intro v3 v4 v5 hw
    rw [hX46]
    intro ls hl
    unfold B_X5_worst_46 at hw
    refine lv_iload hx hb dX5_worst_46 (lv_at hl 5 rfl) ?_
    refine lv_aload_n hx hb dX5_worst_48 rfl (lv_at hl 0 rfl) ?_
    refine va_get (D := D) (ci := 5) (v := .ref q_nt) (C := RX5) (T := TX5) (N := 6) hx hb hts i_X5_worst_X5 hown hZ.1 hP 0 rfl rfl 0 (by decide) (hts _ m_X5_worst_f10) (fun _ h9 => h9) rfl dX5_worst_49 ?_
    refine va_get (D := D) (ci := 2) (v := .int (nI n)) (C := RX2) (T := TX2) (N := 5) hx hb hts i_X5_worst_X2 hown hZ.1 hP 1 rfl rfl 3 (by decide) (hts _ m_X5_worst_f49) (fun _ h9 => h9) rfl dX5_worst_52 ?_
    obtain ⟨zh3, hw⟩ := hw
    obtain ⟨zh4, hw⟩ := hw
    obtain ⟨hwt, hwf⟩ := hw
    refine z_icmp_ge hx hb zh3 zh4 (tgt := 108) dX5_worst_55 (by decide) (fun cc => ?_) (fun cc => ?_)
    · replace hw := hwt cc
      refine lv_iinc (v := nI (v4 + 1)) (lv' := [(4, .int (nI (v4 + 1))), (0, .ref q_x), (1, .int q), (2, .int (bI o)), (3, .int (nI v3)), (5, .int (nI v5))]) hx hb dX5_worst_108 hl (k := 4) rfl (by rw [show Int32.ofInt 1 = nI 1 from by decide +kernel]; exact nI_add _ _) (by decide) rfl (fun ls hl => ?_)
      refine lv_goto (tgt := 31) hx hb dX5_worst_111 (by decide) ?_
      exact ((hX31 _ _).mp hw) ls (lv_sub hl [1, 2, 3, 4, 0] rfl)
    · replace hw := hwf cc
      refine lv_iload hx hb dX5_worst_58 (lv_at hl 4 rfl) ?_
      refine lv_iload hx hb dX5_worst_60 (lv_at hl 5 rfl) ?_
      obtain ⟨zh5, hw⟩ := hw
      obtain ⟨zh6, hw⟩ := hw
      obtain ⟨hwt, hwf⟩ := hw
      refine z_icmp_ne hx hb zh5 zh6 (tgt := 69) dX5_worst_62 (by decide) (fun cc => ?_) (fun cc => ?_)
      · replace hw := hwt cc
        refine lv_aload_n hx hb dX5_worst_69 rfl (lv_at hl 0 rfl) ?_
        refine lv_iload hx hb dX5_worst_70 (lv_at hl 4 rfl) ?_
        refine lv_iload hx hb dX5_worst_72 (lv_at hl 5 rfl) ?_
        refine lv_iload_n hx hb dX5_worst_74 rfl (lv_at hl 1 rfl) ?_
        refine lv_aload_n hx hb dX5_worst_75 rfl (lv_at hl 0 rfl) ?_
        refine lv_iload_n hx hb dX5_worst_76 rfl (lv_at hl 2 rfl) ?_
        obtain ⟨hwt, hwf⟩ := hw
        rcases (by cases o <;> simp : o = true ∨ o = false) with cb | cb
        · replace hw := hwt cb
          refine z_st (st' := [.int (bI true), .ref q_x, .int q, .int (nI v5), .int (nI v4), .ref q_x]) (by rw [cb]) ?_
          obtain ⟨zh7, hw⟩ := hw
          have hPc : va_P D vwCl [(q_x, .inr (5, [.ref q_nt, .ref q_rw, .ref q_rv, .ref q_hd, .ref q_lk, .ref q_rg])), (q_rw, .inr (4, [.ref q_nm, .int (nI L)])), (q_nm, .inl (cI, 40, .inl (aN r))), (q_rv, .inr (4, [.ref q_nv, .int (nI L2)])), (q_nv, .inl (cI, 40, .inl (aN r2)))] zs.heap := hP.sub [0, 5, 6, 7, 8] rfl
          refine z_ror (va_runV (As := [.int (bI true)]) (rest := [.int q, .int (nI v5), .int (nI v4), .ref q_x]) ⟨hx, hb, hml, hown, hts⟩ (k_X5_rowOf_t q_x q_rw q_nm q_rv q_nv q_nt q_hd q_lk q_rg r L r2 L2 true zh7) (cwV 1 hts gX5_worst_X5_rowOf rfl rfl rfl (by decide +kernel) ⟨Nat.le_of_ble_eq_true rfl, Nat.le_of_ble_eq_true rfl⟩) (zPr_V hZ hPc 0 rfl rfl) rfl rfl hl.1 rfl (lv_room (Nat.le_of_ble_eq_true rfl)) dX5_worst_77 ⟨Nat.zero_le _, Nat.zero_le _⟩) ?_
          obtain ⟨zk8, ezk8, hw⟩ := hw
          refine z_st (st' := [.ref q_rv, .int (nI zk8), .int (nI v5), .int (nI v4), .ref q_x]) (by rw [ezk8]) ?_
          obtain ⟨zh9, hw⟩ := hw
          obtain ⟨zh10, hw⟩ := hw
          obtain ⟨zh11, hw⟩ := hw
          obtain ⟨zh12, hw⟩ := hw
          obtain ⟨zh13, hw⟩ := hw
          obtain ⟨zh14, hw⟩ := hw
          have hPc : va_P D vwCl [(q_x, .inr (5, [.ref q_nt, .ref q_rw, .ref q_rv, .ref q_hd, .ref q_lk, .ref q_rg])), (q_nt, .inr (2, [.ref q_en, .ref q_ba, .ref q_de, .int (nI n), .int (nI (prs t))])), (q_en, .inl (cI, 32, .inl (aE t))), (q_ba, .inl (cZ, 32, .inl (aB w))), (q_de, .inl (cI, 8, .inl (aN (dg t)))), (q_rw, .inr (4, [.ref q_nm, .int (nI L)])), (q_nm, .inl (cI, 40, .inl (aN r))), (q_rv, .inr (4, [.ref q_nv, .int (nI L2)])), (q_nv, .inl (cI, 40, .inl (aN r2)))] zs.heap := hP.sub [0, 1, 2, 3, 4, 5, 6, 7, 8] rfl
          refine z_ro (va_runV (As := [.int (nI v4), .int (nI v5), .int (nI zk8), .ref q_rv]) (rest := []) ⟨hx, hb, hml, hown, hts⟩ (k_X5_latestMeeting q_x q_nt q_en q_ba q_de q_rw q_nm q_rv q_nv q_rv q_hd q_lk q_rg n t w r L r2 L2 v4 v5 zk8 zh9 zh10 zh11 zh12 zh13 zh14) (cwV 4 hts gX5_worst_X5_latestMeeting rfl rfl rfl (by decide +kernel) ⟨Nat.le_of_ble_eq_true rfl, Nat.le_of_ble_eq_true rfl⟩) (zPr_V hZ hPc 0 rfl rfl) rfl rfl hl.1 rfl (lv_room (Nat.le_of_ble_eq_true rfl)) dX5_worst_80 ⟨Nat.zero_le _, Nat.zero_le _⟩) (fun zr17 hzr17 => ?_)
          obtain ⟨zy15, zp16, ez⟩ := hzr17
          replace hw := hw zy15 zp16
          rw [ez]
          clear ez
          refine lv_istore (lv' := [(6, .int zy15), (0, .ref q_x), (1, .int q), (2, .int (bI o)), (3, .int (nI v3)), (4, .int (nI v4)), (5, .int (nI v5))]) hx hb dX5_worst_83 hl (by decide) rfl (fun ls hl => ?_)
          refine lv_iload hx hb dX5_worst_85 (lv_at hl 0 rfl) ?_
          refine lv_bipush (v := (-6)) hx hb dX5_worst_87 (by decide +kernel) ?_
          obtain ⟨hwt, hwf⟩ := hw
          refine lv_icmp_ne hx hb (tgt := 95) dX5_worst_89 (by decide) (fun cc => ?_) (fun cc => ?_)
          · replace hw := hwt cc
            refine lv_iload_n hx hb dX5_worst_95 rfl (lv_at hl 4 rfl) ?_
            refine lv_iload hx hb dX5_worst_96 (lv_at hl 0 rfl) ?_
            refine va_mmax hx hb (hml.trans hl.1.symm) hown (hts _ m_X5_worst_mx1) (hts _ m_X5_worst_mx2) (hts _ m_X5_worst_mx3) (hts _ m_X5_worst_mx4) (Nat.le_of_ble_eq_true rfl) (Nat.le_of_ble_eq_true rfl) (Nat.zero_le _) (Nat.zero_le _) dX5_worst_98 ?_
            obtain ⟨zx18, ezx18⟩ : ∃ zx18 : Int32, zx18 = (if nI v3 < zy15 then zy15 else nI v3) := ⟨_, rfl⟩
            replace hw := hw zx18 ezx18
            refine z_st (st' := [.int zx18]) (by rw [ezx18]) ?_
            refine lv_istore_n (lv' := [(3, .int zx18), (6, .int zy15), (0, .ref q_x), (1, .int q), (2, .int (bI o)), (4, .int (nI v4)), (5, .int (nI v5))]) hx hb dX5_worst_101 rfl hl (by decide) rfl (fun ls hl => ?_)
            refine lv_iinc (v := nI (v5 + 1)) (lv' := [(5, .int (nI (v5 + 1))), (3, .int zx18), (6, .int zy15), (0, .ref q_x), (1, .int q), (2, .int (bI o)), (4, .int (nI v4))]) hx hb dX5_worst_102 hl (k := 6) rfl (by rw [show Int32.ofInt 1 = nI 1 from by decide +kernel]; exact nI_add _ _) (by decide) rfl (fun ls hl => ?_)
            refine lv_goto (tgt := 46) hx hb dX5_worst_105 (by decide) ?_
            obtain ⟨zk19, ezk19, hw⟩ := hw
            exact ((hX46 _ _ _).mp hw) ls (show lv_has ls 7 [(0, .ref q_x), (1, .int q), (2, .int (bI o)), (3, .int (nI zk19)), (4, .int (nI v4)), (5, .int (nI (v5 + 1)))] from by rw [← ezk19]; exact lv_sub hl [3, 4, 5, 1, 6, 0] rfl)
          · replace hw := hwf cc
            refine lv_bipush (v := (-6)) hx hb dX5_worst_92 (by decide +kernel) ?_
            obtain ⟨y, po0, er⟩ := hw
            exact W.iret (v := (-6)) hx hb hr (fun t ht hW => ⟨_, rfl, ⟨y, po0, er⟩, ht⟩) (fun _ h => by cases h) dX5_worst_94
        · replace hw := hwf cb
          refine z_st (st' := [.int (bI false), .ref q_x, .int q, .int (nI v5), .int (nI v4), .ref q_x]) (by rw [cb]) ?_
          obtain ⟨zh20, hw⟩ := hw
          have hPc : va_P D vwCl [(q_x, .inr (5, [.ref q_nt, .ref q_rw, .ref q_rv, .ref q_hd, .ref q_lk, .ref q_rg])), (q_rw, .inr (4, [.ref q_nm, .int (nI L)])), (q_nm, .inl (cI, 40, .inl (aN r))), (q_rv, .inr (4, [.ref q_nv, .int (nI L2)])), (q_nv, .inl (cI, 40, .inl (aN r2)))] zs.heap := hP.sub [0, 5, 6, 7, 8] rfl
          refine z_ror (va_runV (As := [.int (bI false)]) (rest := [.int q, .int (nI v5), .int (nI v4), .ref q_x]) ⟨hx, hb, hml, hown, hts⟩ (k_X5_rowOf_f q_x q_rw q_nm q_rv q_nv q_nt q_hd q_lk q_rg r L r2 L2 false zh20) (cwV 1 hts gX5_worst_X5_rowOf rfl rfl rfl (by decide +kernel) ⟨Nat.le_of_ble_eq_true rfl, Nat.le_of_ble_eq_true rfl⟩) (zPr_V hZ hPc 0 rfl rfl) rfl rfl hl.1 rfl (lv_room (Nat.le_of_ble_eq_true rfl)) dX5_worst_77 ⟨Nat.zero_le _, Nat.zero_le _⟩) ?_
          obtain ⟨zk21, ezk21, hw⟩ := hw
          refine z_st (st' := [.ref q_rw, .int (nI zk21), .int (nI v5), .int (nI v4), .ref q_x]) (by rw [ezk21]) ?_
          obtain ⟨zh22, hw⟩ := hw
          obtain ⟨zh23, hw⟩ := hw
          obtain ⟨zh24, hw⟩ := hw
          obtain ⟨zh25, hw⟩ := hw
          obtain ⟨zh26, hw⟩ := hw
          obtain ⟨zh27, hw⟩ := hw
          have hPc : va_P D vwCl [(q_x, .inr (5, [.ref q_nt, .ref q_rw, .ref q_rv, .ref q_hd, .ref q_lk, .ref q_rg])), (q_nt, .inr (2, [.ref q_en, .ref q_ba, .ref q_de, .int (nI n), .int (nI (prs t))])), (q_en, .inl (cI, 32, .inl (aE t))), (q_ba, .inl (cZ, 32, .inl (aB w))), (q_de, .inl (cI, 8, .inl (aN (dg t)))), (q_rw, .inr (4, [.ref q_nm, .int (nI L)])), (q_nm, .inl (cI, 40, .inl (aN r))), (q_rw, .inr (4, [.ref q_nm, .int (nI L)])), (q_nm, .inl (cI, 40, .inl (aN r)))] zs.heap := hP.sub [0, 1, 2, 3, 4, 5, 6, 5, 6] rfl
          refine z_ro (va_runV (As := [.int (nI v4), .int (nI v5), .int (nI zk21), .ref q_rw]) (rest := []) ⟨hx, hb, hml, hown, hts⟩ (k_X5_latestMeeting q_x q_nt q_en q_ba q_de q_rw q_nm q_rw q_nm q_rv q_hd q_lk q_rg n t w r L r L v4 v5 zk21 zh22 zh23 zh24 zh25 zh26 zh27) (cwV 4 hts gX5_worst_X5_latestMeeting rfl rfl rfl (by decide +kernel) ⟨Nat.le_of_ble_eq_true rfl, Nat.le_of_ble_eq_true rfl⟩) (zPr_V hZ hPc 0 rfl rfl) rfl rfl hl.1 rfl (lv_room (Nat.le_of_ble_eq_true rfl)) dX5_worst_80 ⟨Nat.zero_le _, Nat.zero_le _⟩) (fun zr30 hzr30 => ?_)
          obtain ⟨zy28, zp29, ez⟩ := hzr30
          replace hw := hw zy28 zp29
          rw [ez]
          clear ez
          refine lv_istore (lv' := [(6, .int zy28), (0, .ref q_x), (1, .int q), (2, .int (bI o)), (3, .int (nI v3)), (4, .int (nI v4)), (5, .int (nI v5))]) hx hb dX5_worst_83 hl (by decide) rfl (fun ls hl => ?_)
          refine lv_iload hx hb dX5_worst_85 (lv_at hl 0 rfl) ?_
          refine lv_bipush (v := (-6)) hx hb dX5_worst_87 (by decide +kernel) ?_
          obtain ⟨hwt, hwf⟩ := hw
          refine lv_icmp_ne hx hb (tgt := 95) dX5_worst_89 (by decide) (fun cc => ?_) (fun cc => ?_)
          · replace hw := hwt cc
            refine lv_iload_n hx hb dX5_worst_95 rfl (lv_at hl 4 rfl) ?_
            refine lv_iload hx hb dX5_worst_96 (lv_at hl 0 rfl) ?_
            refine va_mmax hx hb (hml.trans hl.1.symm) hown (hts _ m_X5_worst_mx1) (hts _ m_X5_worst_mx2) (hts _ m_X5_worst_mx3) (hts _ m_X5_worst_mx4) (Nat.le_of_ble_eq_true rfl) (Nat.le_of_ble_eq_true rfl) (Nat.zero_le _) (Nat.zero_le _) dX5_worst_98 ?_
            obtain ⟨zx31, ezx31⟩ : ∃ zx31 : Int32, zx31 = (if nI v3 < zy28 then zy28 else nI v3) := ⟨_, rfl⟩
            replace hw := hw zx31 ezx31
            refine z_st (st' := [.int zx31]) (by rw [ezx31]) ?_
            refine lv_istore_n (lv' := [(3, .int zx31), (6, .int zy28), (0, .ref q_x), (1, .int q), (2, .int (bI o)), (4, .int (nI v4)), (5, .int (nI v5))]) hx hb dX5_worst_101 rfl hl (by decide) rfl (fun ls hl => ?_)
            refine lv_iinc (v := nI (v5 + 1)) (lv' := [(5, .int (nI (v5 + 1))), (3, .int zx31), (6, .int zy28), (0, .ref q_x), (1, .int q), (2, .int (bI o)), (4, .int (nI v4))]) hx hb dX5_worst_102 hl (k := 6) rfl (by rw [show Int32.ofInt 1 = nI 1 from by decide +kernel]; exact nI_add _ _) (by decide) rfl (fun ls hl => ?_)
            refine lv_goto (tgt := 46) hx hb dX5_worst_105 (by decide) ?_
            obtain ⟨zk32, ezk32, hw⟩ := hw
            exact ((hX46 _ _ _).mp hw) ls (show lv_has ls 7 [(0, .ref q_x), (1, .int q), (2, .int (bI o)), (3, .int (nI zk32)), (4, .int (nI v4)), (5, .int (nI (v5 + 1)))] from by rw [← ezk32]; exact lv_sub hl [3, 4, 5, 1, 6, 0] rfl)
          · replace hw := hwf cc
            refine lv_bipush (v := (-6)) hx hb dX5_worst_92 (by decide +kernel) ?_
            obtain ⟨y, po0, er⟩ := hw
            exact W.iret (v := (-6)) hx hb hr (fun t ht hW => ⟨_, rfl, ⟨y, po0, er⟩, ht⟩) (fun _ h => by cases h) dX5_worst_94
      · replace hw := hwf cc
        refine lv_iconst (v := nI 0) hx hb dX5_worst_65 (by decide +kernel) ?_
        refine lv_goto (tgt := 83) hx hb dX5_worst_66 (by decide) ?_
        refine lv_istore (lv' := [(6, .int (nI 0)), (0, .ref q_x), (1, .int q), (2, .int (bI o)), (3, .int (nI v3)), (4, .int (nI v4)), (5, .int (nI v5))]) hx hb dX5_worst_83 hl (by decide) rfl (fun ls hl => ?_)
        refine lv_iload hx hb dX5_worst_85 (lv_at hl 0 rfl) ?_
        refine lv_bipush (v := (-6)) hx hb dX5_worst_87 (by decide +kernel) ?_
        obtain ⟨hwt, hwf⟩ := hw
        refine lv_icmp_ne hx hb (tgt := 95) dX5_worst_89 (by decide) (fun cc => ?_) (fun cc => ?_)
        · replace hw := hwt cc
          refine lv_iload_n hx hb dX5_worst_95 rfl (lv_at hl 4 rfl) ?_
          refine lv_iload hx hb dX5_worst_96 (lv_at hl 0 rfl) ?_
          refine va_mmax hx hb (hml.trans hl.1.symm) hown (hts _ m_X5_worst_mx1) (hts _ m_X5_worst_mx2) (hts _ m_X5_worst_mx3) (hts _ m_X5_worst_mx4) (Nat.le_of_ble_eq_true rfl) (Nat.le_of_ble_eq_true rfl) (Nat.zero_le _) (Nat.zero_le _) dX5_worst_98 ?_
          obtain ⟨zh33, hw⟩ := hw
          refine z_st (st' := [.int (nI (if v3 < 0 then 0 else v3))]) (by rw [n_max zh33 (by decide)]) ?_
          obtain ⟨zx34, ezx34⟩ : ∃ zx34 : Nat, zx34 = (if v3 < 0 then 0 else v3) := ⟨_, rfl⟩
          replace hw := hw zx34 ezx34
          refine z_st (st' := [.int (nI zx34)]) (by rw [ezx34]) ?_
          refine lv_istore_n (lv' := [(3, .int (nI zx34)), (6, .int (nI 0)), (0, .ref q_x), (1, .int q), (2, .int (bI o)), (4, .int (nI v4)), (5, .int (nI v5))]) hx hb dX5_worst_101 rfl hl (by decide) rfl (fun ls hl => ?_)
          refine lv_iinc (v := nI (v5 + 1)) (lv' := [(5, .int (nI (v5 + 1))), (3, .int (nI zx34)), (6, .int (nI 0)), (0, .ref q_x), (1, .int q), (2, .int (bI o)), (4, .int (nI v4))]) hx hb dX5_worst_102 hl (k := 6) rfl (by rw [show Int32.ofInt 1 = nI 1 from by decide +kernel]; exact nI_add _ _) (by decide) rfl (fun ls hl => ?_)
          refine lv_goto (tgt := 46) hx hb dX5_worst_105 (by decide) ?_
          exact ((hX46 _ _ _).mp hw) ls (lv_sub hl [3, 4, 5, 1, 6, 0] rfl)
        · replace hw := hwf cc
          refine lv_bipush (v := (-6)) hx hb dX5_worst_92 (by decide +kernel) ?_
          obtain ⟨y, po0, er⟩ := hw
          exact W.iret (v := (-6)) hx hb hr (fun t ht hW => ⟨_, rfl, ⟨y, po0, er⟩, ht⟩) (fun _ h => by cases h) dX5_worst_94
  have hw := vw X31 X46 b31 b46
  unfold B_X5_worst_in at hw
  refine lv_iload_n hx hb dX5_worst_0 rfl (lv_at hl 1 rfl) ?_
  obtain ⟨hwt, hwf⟩ := hw
  refine lv_if_lt hx hb (tgt := 10) dX5_worst_1 (by decide) (fun cc => ?_) (fun cc => ?_)
  · replace hw := hwt cc
    refine lv_bipush (v := (-2)) hx hb dX5_worst_10 (by decide +kernel) ?_
    obtain ⟨y, po0, er⟩ := hw
    exact W.iret (v := (-2)) hx hb hr (fun t ht hW => ⟨_, rfl, ⟨y, po0, er⟩, ht⟩) (fun _ h => by cases h) dX5_worst_12
  · replace hw := hwf cc
    refine lv_iload_n hx hb dX5_worst_4 rfl (lv_at hl 1 rfl) ?_
    refine lv_bipush (v := nI 20) hx hb dX5_worst_5 (by decide +kernel) ?_
    obtain ⟨hwt, hwf⟩ := hw
    refine lv_icmp_le hx hb (tgt := 13) dX5_worst_7 (by decide) (fun cc => ?_) (fun cc => ?_)
    · replace hw := hwt cc
      refine lv_aload_n hx hb dX5_worst_13 rfl (lv_at hl 0 rfl) ?_
      refine va_get (D := D) (ci := 5) (v := .ref q_nt) (C := RX5) (T := TX5) (N := 6) hx hb hts i_X5_worst_X5 hown hZ.1 hP 0 rfl rfl 0 (by decide) (hts _ m_X5_worst_f10) (fun _ h9 => h9) rfl dX5_worst_14 ?_
      obtain ⟨zh35, hw⟩ := hw
      have hPc : va_P D vwCl [(q_nt, .inr (2, [.ref q_en, .ref q_ba, .ref q_de, .int (nI n), .int (nI (prs t))])), (q_en, .inl (cI, 32, .inl (aE t))), (q_ba, .inl (cZ, 32, .inl (aB w))), (q_de, .inl (cI, 8, .inl (aN (dg t))))] zs.heap := hP.sub [1, 2, 3, 4] rfl
      refine z_ro (va_runV (As := []) (rest := []) ⟨hx, hb, hml, hown, hts⟩ (k_X2_isReady q_nt q_en q_ba q_de n t w zh35) (cwV 0 hts gX5_worst_X2_isReady rfl rfl rfl (by decide +kernel) ⟨Nat.le_of_ble_eq_true rfl, Nat.le_of_ble_eq_true rfl⟩) (zPr_V hZ hPc 0 rfl rfl) rfl rfl hl.1 rfl (lv_room (Nat.le_of_ble_eq_true rfl)) dX5_worst_17 ⟨Nat.zero_le _, Nat.zero_le _⟩) (fun zr36 hzr36 => ?_)
      have ez := hzr36
      rw [ez]
      clear ez hzr36
      obtain ⟨hwt, hwf⟩ := hw
      refine z_if_neb hx hb (tgt := 26) dX5_worst_20 (by decide) (fun cc => ?_) (fun cc => ?_)
      · replace hw := hwt cc
        refine lv_iconst (v := nI 0) hx hb dX5_worst_26 (by decide +kernel) ?_
        refine lv_istore_n (lv' := [(3, .int (nI 0)), (0, .ref q_x), (1, .int q), (2, .int (bI o))]) hx hb dX5_worst_27 rfl hl (by decide) rfl (fun ls hl => ?_)
        refine lv_iconst (v := nI 0) hx hb dX5_worst_28 (by decide +kernel) ?_
        refine lv_istore (lv' := [(4, .int (nI 0)), (3, .int (nI 0)), (0, .ref q_x), (1, .int q), (2, .int (bI o))]) hx hb dX5_worst_29 hl (by decide) rfl (fun ls hl => ?_)
        exact ((hX31 _ _).mp hw) ls (lv_sub hl [2, 3, 4, 1, 0] rfl)
      · replace hw := hwf cc
        refine lv_bipush (v := (-3)) hx hb dX5_worst_23 (by decide +kernel) ?_
        obtain ⟨y, po0, er⟩ := hw
        exact W.iret (v := (-3)) hx hb hr (fun t ht hW => ⟨_, rfl, ⟨y, po0, er⟩, ht⟩) (fun _ h => by cases h) dX5_worst_25
    · replace hw := hwf cc
      refine lv_bipush (v := (-2)) hx hb dX5_worst_10 (by decide +kernel) ?_
      obtain ⟨y, po0, er⟩ := hw
      exact W.iret (v := (-2)) hx hb hr (fun t ht hW => ⟨_, rfl, ⟨y, po0, er⟩, ht⟩) (fun _ h => by cases h) dX5_worst_12
theorem m_X5_ring_f45 : Cond.fieldLink RX5 45 "NetWalkers" "rings" "LNetWalkers$Rings;" ∈ wsX5_ring := by decide +kernel
theorem i_X5_ring_X5 : ∀ w ∈ wsX50, w ∈ wsX5_ring := by decide +kernel
set_option maxRecDepth 100000 in
set_option maxHeartbeats 4000000 in
theorem w_X5_ring {l : Launch} {D : va_G} {cI cZ : ClassId} (k_X3_lengthFor : K_X3_lengthFor l D cI cZ) (k_X3_numberFor : K_X3_numberFor l D cI cZ) (vv : V_X5_ring) : K_X5_ring l D cI cZ := by
  intro q_x q_rg q_le q_fo q_nt q_rw q_rv q_hd q_lk sz le fo m i hpre0
  have vw := vv le fo m i hpre0
  refine Met.ofW (cc := cX5_ring) (maxL := 4) (ret := (some .int)) (by decide) rfl ?_
  intro zp ze zs zm zargs zbelow zmeth zc zs1 B hml hv
  obtain ⟨rfl, hsz, hZ, hP, hD0⟩ := hv
  have hx := B.exec
  have hb := B.bytes
  have hr := B.returns
  have hts := atoms_spec (ws := wsX5_ring) B.pre
  have hown : zs.vm.findClass RX5 = some zm.cls := findClass_of_methodNamed B.named
  have hlocks := B.notSynchronized
  subst hsz
  have hD := hD0.self (sz := zs.heap.size)
  generalize hAe : va_A [(q_x, .inr (5, [.ref q_nt, .ref q_rw, .ref q_rv, .ref q_hd, .ref q_lk, .ref q_rg])), (q_rg, .inr (3, [.ref q_le, .ref q_fo])), (q_le, .inl (cI, 5, .inl (le))), (q_fo, .inl (cI, 5, .inl (fo)))] zs.heap.size = A at hD ⊢
  have hA : ∀ q : Nat, zs.heap.size ≤ q → A q := fun q h => by rw [← hAe]; exact Or.inr h
  have hS : va_S A zs.heap zs.heap [] := va_S.rf
  have hP : va_P D vwCl [(q_x, .inr (5, [.ref q_nt, .ref q_rw, .ref q_rv, .ref q_hd, .ref q_lk, .ref q_rg])), (q_rg, .inr (3, [.ref q_le, .ref q_fo])), (q_le, .inl (cI, 5, .inl (le))), (q_fo, .inl (cI, 5, .inl (fo)))] zs.heap := hP
  have hl := lv_entry ([.ref q_x, .int m, .int i]) (n := 4) (Nat.le_of_ble_eq_true rfl)
  rw [lg_entry_eq]
  generalize (lg_sl ([.ref q_x, .int m, .int i]) ++ List.replicate (4 - (lg_sl ([.ref q_x, .int m, .int i])).length) Slot.unset).toArray = ls at hl ⊢
  have hl : lv_has ls 4 [(0, .ref q_x), (1, .int m), (2, .int i)] := hl
  have hw := vw
  unfold B_X5_ring_in at hw
  refine lv_iload_n hx hb dX5_ring_0 rfl (lv_at hl 1 rfl) ?_
  refine lv_iconst (v := nI 2) hx hb dX5_ring_1 (by decide +kernel) ?_
  obtain ⟨hwt, hwf⟩ := hw
  refine lv_icmp_lt hx hb (tgt := 10) dX5_ring_2 (by decide) (fun cc => ?_) (fun cc => ?_)
  · replace hw := hwt cc
    refine lv_bipush (v := (-2)) hx hb dX5_ring_10 (by decide +kernel) ?_
    obtain ⟨le9, fo9, po0, er, ec_le, ec_fo⟩ := hw
    have hP9 : va_P D vwCl [(q_x, .inr (5, [.ref q_nt, .ref q_rw, .ref q_rv, .ref q_hd, .ref q_lk, .ref q_rg])), (q_rg, .inr (3, [.ref q_le, .ref q_fo])), (q_le, .inl (cI, 5, .inl (le))), (q_fo, .inl (cI, 5, .inl (fo)))] zs.heap := hP.sub [0, 1, 2, 3] rfl
    have hD9 : va_D A [(q_x, .inr (5, [.ref q_nt, .ref q_rw, .ref q_rv, .ref q_hd, .ref q_lk, .ref q_rg])), (q_rg, .inr (3, [.ref q_le, .ref q_fo])), (q_le, .inl (cI, 5, .inl (le))), (q_fo, .inl (cI, 5, .inl (fo)))] := hD.sub [0, 1, 2, 3] (by decide) rfl
    have hP9 : va_P D vwCl [(q_x, .inr (5, [.ref q_nt, .ref q_rw, .ref q_rv, .ref q_hd, .ref q_lk, .ref q_rg])), (q_rg, .inr (3, [.ref q_le, .ref q_fo])), (q_le, .inl (cI, 5, .inl (le9))), (q_fo, .inl (cI, 5, .inl (fo)))] zs.heap := z_arr hP9 2 rfl ec_le
    have hD9 : va_D A [(q_x, .inr (5, [.ref q_nt, .ref q_rw, .ref q_rv, .ref q_hd, .ref q_lk, .ref q_rg])), (q_rg, .inr (3, [.ref q_le, .ref q_fo])), (q_le, .inl (cI, 5, .inl (le9))), (q_fo, .inl (cI, 5, .inl (fo)))] := hD9.set (p := 2) (e := .inl (cI, 5, .inl (le9))) rfl
    have hP9 : va_P D vwCl [(q_x, .inr (5, [.ref q_nt, .ref q_rw, .ref q_rv, .ref q_hd, .ref q_lk, .ref q_rg])), (q_rg, .inr (3, [.ref q_le, .ref q_fo])), (q_le, .inl (cI, 5, .inl (le9))), (q_fo, .inl (cI, 5, .inl (fo9)))] zs.heap := z_arr hP9 3 rfl ec_fo
    have hD9 : va_D A [(q_x, .inr (5, [.ref q_nt, .ref q_rw, .ref q_rv, .ref q_hd, .ref q_lk, .ref q_rg])), (q_rg, .inr (3, [.ref q_le, .ref q_fo])), (q_le, .inl (cI, 5, .inl (le9))), (q_fo, .inl (cI, 5, .inl (fo9)))] := hD9.set (p := 3) (e := .inl (cI, 5, .inl (fo9))) rfl
    exact W.iret (v := (-2)) hx hb hr (fun t ht hW => ⟨⟨_, (le9, fo9), rfl, ⟨po0, er⟩, by rw [ht]; exact hP9, hD9⟩, hS.F ht⟩) hS.2.2 dX5_ring_12
  · replace hw := hwf cc
    refine lv_iload_n hx hb dX5_ring_5 rfl (lv_at hl 1 rfl) ?_
    refine lv_iconst (v := nI 4) hx hb dX5_ring_6 (by decide +kernel) ?_
    obtain ⟨hwt, hwf⟩ := hw
    refine lv_icmp_le hx hb (tgt := 13) dX5_ring_7 (by decide) (fun cc => ?_) (fun cc => ?_)
    · replace hw := hwt cc
      refine lv_aload_n hx hb dX5_ring_13 rfl (lv_at hl 0 rfl) ?_
      refine va_get (D := D) (ci := 5) (v := .ref q_rg) (C := RX5) (T := TX5) (N := 6) hx hb hts i_X5_ring_X5 hown hZ.1 hP 0 rfl rfl 5 (by decide) (hts _ m_X5_ring_f45) (fun _ h9 => h9) rfl dX5_ring_14 ?_
      refine lv_iload_n hx hb dX5_ring_17 rfl (lv_at hl 1 rfl) ?_
      obtain ⟨zk1, ezk1, hw⟩ := hw
      refine z_st (st' := [.int (nI zk1), .ref q_rg]) (by rw [ezk1]) ?_
      obtain ⟨zh2, hw⟩ := hw
      obtain ⟨zh3, hw⟩ := hw
      obtain ⟨zh4, hw⟩ := hw
      have hPc : va_P D vwCl [(q_rg, .inr (3, [.ref q_le, .ref q_fo])), (q_le, .inl (cI, 5, .inl (le))), (q_fo, .inl (cI, 5, .inl (fo)))] zs.heap := hP.sub [1, 2, 3] rfl
      have hDc : va_D A [(q_rg, .inr (3, [.ref q_le, .ref q_fo])), (q_le, .inl (cI, 5, .inl (le))), (q_fo, .inl (cI, 5, .inl (fo)))] := hD.sub [1, 2, 3] (by decide) rfl
      have hFc := va_free (wc := [(q_rg, .inr (3, [.ref q_le, .ref q_fo])), (q_le, .inl (cI, 5, .inl (le))), (q_fo, .inl (cI, 5, .inl (fo)))]) hD hS hA [1, 2, 3] rfl
      refine va_calli (va_runV (As := [.int (nI zk1)]) (rest := []) ⟨hx, hb, hml, hown, hts⟩ (k_X3_lengthFor q_rg q_le q_fo zs.heap.size le fo zk1 zh2 zh3 zh4) (cwV 1 hts gX5_ring_X3_lengthFor rfl rfl rfl (by decide +kernel) ⟨Nat.le_of_ble_eq_true rfl, Nat.le_of_ble_eq_true rfl⟩) (zPw_V hZ hPc (hDc.weaken (fun _ _ _ _ => trivial)) 0 rfl rfl) rfl rfl hl.1 rfl (lv_room (Nat.le_of_ble_eq_true rfl)) dX5_ring_18 ⟨Nat.zero_le _, Nat.zero_le _⟩) hS (fun q _ h => hFc q h) hFc (fun zr9 zu zt H1 locs1 ht hvm hq hB hz1 hk1 hS => ?_)
      obtain ⟨zle95, zfo96⟩ := zu
      obtain ⟨zp7, zp8, ez⟩ := hq
      obtain ⟨hP1, hD1⟩ := hB
      rw [ht] at hP1
      replace hw := hw zle95 zfo96 zp7 zp8
      rw [ez]
      clear ez
      obtain ⟨hP, hD⟩ := va_join (wr := [(q_x, .inr (5, [.ref q_nt, .ref q_rw, .ref q_rv, .ref q_hd, .ref q_lk, .ref q_rg]))]) (w1 := [(q_rg, .inr (3, [.ref q_le, .ref q_fo])), (q_le, .inl (cI, 5, .inl (zle95))), (q_fo, .inl (cI, 5, .inl (zfo96)))]) hP hD [1, 2, 3] [0] rfl rfl (by decide) (by decide) hk1 hFc hP1 hD1
      have hP : va_P D vwCl [(q_x, .inr (5, [.ref q_nt, .ref q_rw, .ref q_rv, .ref q_hd, .ref q_lk, .ref q_rg])), (q_rg, .inr (3, [.ref q_le, .ref q_fo])), (q_le, .inl (cI, 5, .inl (zle95))), (q_fo, .inl (cI, 5, .inl (zfo96)))] H1 := hP
      have hD : va_D A [(q_x, .inr (5, [.ref q_nt, .ref q_rw, .ref q_rv, .ref q_hd, .ref q_lk, .ref q_rg])), (q_rg, .inr (3, [.ref q_le, .ref q_fo])), (q_le, .inl (cI, 5, .inl (zle95))), (q_fo, .inl (cI, 5, .inl (zfo96)))] := hD
      clear hP1 hD1 hk1 hz1 hFc hDc hPc ht hvm
      obtain ⟨zx10, ezx10⟩ : ∃ zx10 : Int32, zx10 = rl zk1 := ⟨_, rfl⟩
      replace hw := hw zx10 ezx10
      refine z_st (st' := [.int zx10]) (by rw [ezx10]) ?_
      refine lv_istore_n (lv' := [(3, .int zx10), (0, .ref q_x), (1, .int m), (2, .int i)]) hx hb dX5_ring_21 rfl hl (by decide) rfl (fun ls hl => ?_)
      refine lv_iload_n hx hb dX5_ring_22 rfl (lv_at hl 3 rfl) ?_
      refine lv_iconst (v := (-1)) hx hb dX5_ring_23 (by decide +kernel) ?_
      obtain ⟨hwt, hwf⟩ := hw
      refine lv_icmp_ne hx hb (tgt := 29) dX5_ring_24 (by decide) (fun cc => ?_) (fun cc => ?_)
      · replace hw := hwt cc
        refine lv_aload_n hx hb dX5_ring_29 rfl (lv_at hl 1 rfl) ?_
        refine va_get (D := D) (ci := 5) (v := .ref q_rg) (C := RX5) (T := TX5) (N := 6) hx hb hts i_X5_ring_X5 hown hZ.1 hP 0 rfl rfl 5 (by decide) (hts _ m_X5_ring_f45) (fun _ h9 => h9) rfl dX5_ring_30 ?_
        refine lv_iload_n hx hb dX5_ring_33 rfl (lv_at hl 2 rfl) ?_
        refine lv_iload_n hx hb dX5_ring_34 rfl (lv_at hl 3 rfl) ?_
        obtain ⟨zk11, ezk11, hw⟩ := hw
        refine z_st (st' := [.int i, .int (nI zk11), .ref q_rg]) (by rw [ezk11]) ?_
        obtain ⟨zh12, hw⟩ := hw
        obtain ⟨zh13, hw⟩ := hw
        obtain ⟨zh14, hw⟩ := hw
        obtain ⟨zh15, hw⟩ := hw
        have hPc : va_P D vwCl [(q_rg, .inr (3, [.ref q_le, .ref q_fo])), (q_le, .inl (cI, 5, .inl (zle95))), (q_fo, .inl (cI, 5, .inl (zfo96)))] H1 := hP.sub [1, 2, 3] rfl
        refine z_ro (va_runV (As := [.int (nI zk11), .int i]) (rest := []) ⟨hx, hb, hml, hown, hts⟩ (k_X3_numberFor q_rg q_le q_fo zle95 zfo96 zk11 i zh12 zh13 zh14 zh15) (cwV 2 hts gX5_ring_X3_numberFor rfl rfl rfl (by decide +kernel) ⟨Nat.le_of_ble_eq_true rfl, Nat.le_of_ble_eq_true rfl⟩) (zPr_V hZ hPc 0 rfl rfl) rfl rfl hl.1 rfl (lv_room (Nat.le_of_ble_eq_true rfl)) dX5_ring_35 ⟨Nat.zero_le _, Nat.zero_le _⟩) (fun zr16 hzr16 => ?_)
        have ez := hzr16
        rw [ez]
        clear ez hzr16
        obtain ⟨le9, fo9, po0, er, ec_le, ec_fo⟩ := hw
        have hP9 : va_P D vwCl [(q_x, .inr (5, [.ref q_nt, .ref q_rw, .ref q_rv, .ref q_hd, .ref q_lk, .ref q_rg])), (q_rg, .inr (3, [.ref q_le, .ref q_fo])), (q_le, .inl (cI, 5, .inl (zle95))), (q_fo, .inl (cI, 5, .inl (zfo96)))] H1 := hP.sub [0, 1, 2, 3] rfl
        have hD9 : va_D A [(q_x, .inr (5, [.ref q_nt, .ref q_rw, .ref q_rv, .ref q_hd, .ref q_lk, .ref q_rg])), (q_rg, .inr (3, [.ref q_le, .ref q_fo])), (q_le, .inl (cI, 5, .inl (zle95))), (q_fo, .inl (cI, 5, .inl (zfo96)))] := hD.sub [0, 1, 2, 3] (by decide) rfl
        have hP9 : va_P D vwCl [(q_x, .inr (5, [.ref q_nt, .ref q_rw, .ref q_rv, .ref q_hd, .ref q_lk, .ref q_rg])), (q_rg, .inr (3, [.ref q_le, .ref q_fo])), (q_le, .inl (cI, 5, .inl (le9))), (q_fo, .inl (cI, 5, .inl (zfo96)))] H1 := z_arr hP9 2 rfl ec_le
        have hD9 : va_D A [(q_x, .inr (5, [.ref q_nt, .ref q_rw, .ref q_rv, .ref q_hd, .ref q_lk, .ref q_rg])), (q_rg, .inr (3, [.ref q_le, .ref q_fo])), (q_le, .inl (cI, 5, .inl (le9))), (q_fo, .inl (cI, 5, .inl (zfo96)))] := hD9.set (p := 2) (e := .inl (cI, 5, .inl (le9))) rfl
        have hP9 : va_P D vwCl [(q_x, .inr (5, [.ref q_nt, .ref q_rw, .ref q_rv, .ref q_hd, .ref q_lk, .ref q_rg])), (q_rg, .inr (3, [.ref q_le, .ref q_fo])), (q_le, .inl (cI, 5, .inl (le9))), (q_fo, .inl (cI, 5, .inl (fo9)))] H1 := z_arr hP9 3 rfl ec_fo
        have hD9 : va_D A [(q_x, .inr (5, [.ref q_nt, .ref q_rw, .ref q_rv, .ref q_hd, .ref q_lk, .ref q_rg])), (q_rg, .inr (3, [.ref q_le, .ref q_fo])), (q_le, .inl (cI, 5, .inl (le9))), (q_fo, .inl (cI, 5, .inl (fo9)))] := hD9.set (p := 3) (e := .inl (cI, 5, .inl (fo9))) rfl
        exact W.iret (v := rn zk11 i) hx hb hr (fun t ht hW => ⟨⟨_, (le9, fo9), rfl, ⟨po0, er⟩, by rw [ht]; exact hP9, hD9⟩, hS.F ht⟩) hS.2.2 dX5_ring_38
      · replace hw := hwf cc
        refine lv_iload_n hx hb dX5_ring_27 rfl (lv_at hl 0 rfl) ?_
        obtain ⟨le9, fo9, po0, er, ec_le, ec_fo⟩ := hw
        have hP9 : va_P D vwCl [(q_x, .inr (5, [.ref q_nt, .ref q_rw, .ref q_rv, .ref q_hd, .ref q_lk, .ref q_rg])), (q_rg, .inr (3, [.ref q_le, .ref q_fo])), (q_le, .inl (cI, 5, .inl (zle95))), (q_fo, .inl (cI, 5, .inl (zfo96)))] H1 := hP.sub [0, 1, 2, 3] rfl
        have hD9 : va_D A [(q_x, .inr (5, [.ref q_nt, .ref q_rw, .ref q_rv, .ref q_hd, .ref q_lk, .ref q_rg])), (q_rg, .inr (3, [.ref q_le, .ref q_fo])), (q_le, .inl (cI, 5, .inl (zle95))), (q_fo, .inl (cI, 5, .inl (zfo96)))] := hD.sub [0, 1, 2, 3] (by decide) rfl
        have hP9 : va_P D vwCl [(q_x, .inr (5, [.ref q_nt, .ref q_rw, .ref q_rv, .ref q_hd, .ref q_lk, .ref q_rg])), (q_rg, .inr (3, [.ref q_le, .ref q_fo])), (q_le, .inl (cI, 5, .inl (le9))), (q_fo, .inl (cI, 5, .inl (zfo96)))] H1 := z_arr hP9 2 rfl ec_le
        have hD9 : va_D A [(q_x, .inr (5, [.ref q_nt, .ref q_rw, .ref q_rv, .ref q_hd, .ref q_lk, .ref q_rg])), (q_rg, .inr (3, [.ref q_le, .ref q_fo])), (q_le, .inl (cI, 5, .inl (le9))), (q_fo, .inl (cI, 5, .inl (zfo96)))] := hD9.set (p := 2) (e := .inl (cI, 5, .inl (le9))) rfl
        have hP9 : va_P D vwCl [(q_x, .inr (5, [.ref q_nt, .ref q_rw, .ref q_rv, .ref q_hd, .ref q_lk, .ref q_rg])), (q_rg, .inr (3, [.ref q_le, .ref q_fo])), (q_le, .inl (cI, 5, .inl (le9))), (q_fo, .inl (cI, 5, .inl (fo9)))] H1 := z_arr hP9 3 rfl ec_fo
        have hD9 : va_D A [(q_x, .inr (5, [.ref q_nt, .ref q_rw, .ref q_rv, .ref q_hd, .ref q_lk, .ref q_rg])), (q_rg, .inr (3, [.ref q_le, .ref q_fo])), (q_le, .inl (cI, 5, .inl (le9))), (q_fo, .inl (cI, 5, .inl (fo9)))] := hD9.set (p := 3) (e := .inl (cI, 5, .inl (fo9))) rfl
        exact W.iret (v := zx10) hx hb hr (fun t ht hW => ⟨⟨_, (le9, fo9), rfl, ⟨po0, er⟩, by rw [ht]; exact hP9, hD9⟩, hS.F ht⟩) hS.2.2 dX5_ring_28
    · replace hw := hwf cc
      refine lv_bipush (v := (-2)) hx hb dX5_ring_10 (by decide +kernel) ?_
      obtain ⟨le9, fo9, po0, er, ec_le, ec_fo⟩ := hw
      have hP9 : va_P D vwCl [(q_x, .inr (5, [.ref q_nt, .ref q_rw, .ref q_rv, .ref q_hd, .ref q_lk, .ref q_rg])), (q_rg, .inr (3, [.ref q_le, .ref q_fo])), (q_le, .inl (cI, 5, .inl (le))), (q_fo, .inl (cI, 5, .inl (fo)))] zs.heap := hP.sub [0, 1, 2, 3] rfl
      have hD9 : va_D A [(q_x, .inr (5, [.ref q_nt, .ref q_rw, .ref q_rv, .ref q_hd, .ref q_lk, .ref q_rg])), (q_rg, .inr (3, [.ref q_le, .ref q_fo])), (q_le, .inl (cI, 5, .inl (le))), (q_fo, .inl (cI, 5, .inl (fo)))] := hD.sub [0, 1, 2, 3] (by decide) rfl
      have hP9 : va_P D vwCl [(q_x, .inr (5, [.ref q_nt, .ref q_rw, .ref q_rv, .ref q_hd, .ref q_lk, .ref q_rg])), (q_rg, .inr (3, [.ref q_le, .ref q_fo])), (q_le, .inl (cI, 5, .inl (le9))), (q_fo, .inl (cI, 5, .inl (fo)))] zs.heap := z_arr hP9 2 rfl ec_le
      have hD9 : va_D A [(q_x, .inr (5, [.ref q_nt, .ref q_rw, .ref q_rv, .ref q_hd, .ref q_lk, .ref q_rg])), (q_rg, .inr (3, [.ref q_le, .ref q_fo])), (q_le, .inl (cI, 5, .inl (le9))), (q_fo, .inl (cI, 5, .inl (fo)))] := hD9.set (p := 2) (e := .inl (cI, 5, .inl (le9))) rfl
      have hP9 : va_P D vwCl [(q_x, .inr (5, [.ref q_nt, .ref q_rw, .ref q_rv, .ref q_hd, .ref q_lk, .ref q_rg])), (q_rg, .inr (3, [.ref q_le, .ref q_fo])), (q_le, .inl (cI, 5, .inl (le9))), (q_fo, .inl (cI, 5, .inl (fo9)))] zs.heap := z_arr hP9 3 rfl ec_fo
      have hD9 : va_D A [(q_x, .inr (5, [.ref q_nt, .ref q_rw, .ref q_rv, .ref q_hd, .ref q_lk, .ref q_rg])), (q_rg, .inr (3, [.ref q_le, .ref q_fo])), (q_le, .inl (cI, 5, .inl (le9))), (q_fo, .inl (cI, 5, .inl (fo9)))] := hD9.set (p := 3) (e := .inl (cI, 5, .inl (fo9))) rfl
      exact W.iret (v := (-2)) hx hb hr (fun t ht hW => ⟨⟨_, (le9, fo9), rfl, ⟨po0, er⟩, by rw [ht]; exact hP9, hD9⟩, hS.F ht⟩) hS.2.2 dX5_ring_12
theorem m_X5_told_f10 : Cond.fieldLink RX5 10 "NetWalkers" "net" "LNetWalkers$Net;" ∈ wsX5_told := by decide +kernel
theorem i_X5_told_X5 : ∀ w ∈ wsX50, w ∈ wsX5_told := by decide +kernel
theorem m_X5_told_f49 : Cond.fieldLink RX5 49 "NetWalkers$Net" "size" "I" ∈ wsX5_told := by decide +kernel
theorem i_X5_told_X2 : ∀ w ∈ wsX20, w ∈ wsX5_told := by decide +kernel
theorem m_X5_told_f73 : Cond.fieldLink RX5 73 "NetWalkers$Net" "pairs" "I" ∈ wsX5_told := by decide +kernel
theorem m_X5_told_f19 : Cond.fieldLink RX5 19 "NetWalkers" "row" "LNetWalkers$Row;" ∈ wsX5_told := by decide +kernel
theorem m_X5_told_f116 : Cond.fieldLink RX5 116 "NetWalkers$Row" "length" "I" ∈ wsX5_told := by decide +kernel
theorem i_X5_told_X4 : ∀ w ∈ wsX40, w ∈ wsX5_told := by decide +kernel
theorem m_X5_told_f23 : Cond.fieldLink RX5 23 "NetWalkers" "otherRow" "LNetWalkers$Row;" ∈ wsX5_told := by decide +kernel
set_option maxRecDepth 100000 in
set_option maxHeartbeats 4000000 in
theorem w_X5_told {l : Launch} {D : va_G} {cI cZ : ClassId} (k_X2_badDoors : K_X2_badDoors l D cI cZ) (vv : V_X5_told) : K_X5_told l D cI cZ := by
  intro q_x q_nt q_en q_ba q_de q_rw q_nm q_rv q_nv q_hd q_lk q_rg n t w r L r2 L2 x
  have vw := vv n t w r L r2 L2 x
  refine Met.ofW (cc := cX5_told) (maxL := 2) (ret := (some .int)) (by decide) rfl ?_
  intro zp ze zs zm zargs zbelow zmeth zc zs1 B hml hv
  obtain ⟨rfl, hZ, hP⟩ := hv
  have hx := B.exec
  have hb := B.bytes
  have hr := B.returns
  have hts := atoms_spec (ws := wsX5_told) B.pre
  have hown : zs.vm.findClass RX5 = some zm.cls := findClass_of_methodNamed B.named
  have hlocks := B.notSynchronized
  have hP : va_P D vwCl [(q_x, .inr (5, [.ref q_nt, .ref q_rw, .ref q_rv, .ref q_hd, .ref q_lk, .ref q_rg])), (q_nt, .inr (2, [.ref q_en, .ref q_ba, .ref q_de, .int (nI n), .int (nI (prs t))])), (q_en, .inl (cI, 32, .inl (aE t))), (q_ba, .inl (cZ, 32, .inl (aB w))), (q_de, .inl (cI, 8, .inl (aN (dg t)))), (q_rw, .inr (4, [.ref q_nm, .int (nI L)])), (q_nm, .inl (cI, 40, .inl (aN r))), (q_rv, .inr (4, [.ref q_nv, .int (nI L2)])), (q_nv, .inl (cI, 40, .inl (aN r2)))] zs.heap := hP
  have hl := lv_entry ([.ref q_x, .int x]) (n := 2) (Nat.le_of_ble_eq_true rfl)
  rw [lg_entry_eq]
  generalize (lg_sl ([.ref q_x, .int x]) ++ List.replicate (2 - (lg_sl ([.ref q_x, .int x])).length) Slot.unset).toArray = ls at hl ⊢
  have hl : lv_has ls 2 [(0, .ref q_x), (1, .int x)] := hl
  have hw := vw
  unfold B_X5_told_in at hw
  refine lv_iload_n hx hb dX5_told_0 rfl (lv_at hl 1 rfl) ?_
  obtain ⟨hw0, hw1, hw2, hw3, hw4, hwd⟩ := hw
  by_cases cc0 : x = nI 0
  · replace hw := hw0 cc0
    refine lv_tableIn (off := 35) (tgt := 36) hx hb dX5_told_1 (by rw [cc0]; decide) (by rw [cc0]; decide) (by rw [cc0]; rfl) (by decide) ?_
    refine lv_aload_n hx hb dX5_told_36 rfl (lv_at hl 0 rfl) ?_
    refine va_get (D := D) (ci := 5) (v := .ref q_nt) (C := RX5) (T := TX5) (N := 6) hx hb hts i_X5_told_X5 hown hZ.1 hP 0 rfl rfl 0 (by decide) (hts _ m_X5_told_f10) (fun _ h9 => h9) rfl dX5_told_37 ?_
    refine va_get (D := D) (ci := 2) (v := .int (nI n)) (C := RX2) (T := TX2) (N := 5) hx hb hts i_X5_told_X2 hown hZ.1 hP 1 rfl rfl 3 (by decide) (hts _ m_X5_told_f49) (fun _ h9 => h9) rfl dX5_told_40 ?_
    have er := hw
    exact W.iret (v := nI n) hx hb hr (fun t ht hW => ⟨_, rfl, er, ht⟩) (fun _ h => by cases h) dX5_told_43
  ·
    by_cases cc1 : x = nI 1
    · replace hw := hw1 cc1
      refine lv_tableIn (off := 43) (tgt := 44) hx hb dX5_told_1 (by rw [cc1]; decide) (by rw [cc1]; decide) (by rw [cc1]; rfl) (by decide) ?_
      refine lv_aload_n hx hb dX5_told_44 rfl (lv_at hl 0 rfl) ?_
      refine va_get (D := D) (ci := 5) (v := .ref q_nt) (C := RX5) (T := TX5) (N := 6) hx hb hts i_X5_told_X5 hown hZ.1 hP 0 rfl rfl 0 (by decide) (hts _ m_X5_told_f10) (fun _ h9 => h9) rfl dX5_told_45 ?_
      refine va_get (D := D) (ci := 2) (v := .int (nI (prs t))) (C := RX2) (T := TX2) (N := 5) hx hb hts i_X5_told_X2 hown hZ.1 hP 1 rfl rfl 4 (by decide) (hts _ m_X5_told_f73) (fun _ h9 => h9) rfl dX5_told_48 ?_
      have er := hw
      exact W.iret (v := nI (prs t)) hx hb hr (fun t ht hW => ⟨_, rfl, er, ht⟩) (fun _ h => by cases h) dX5_told_51
    ·
      by_cases cc2 : x = nI 2
      · replace hw := hw2 cc2
        refine lv_tableIn (off := 51) (tgt := 52) hx hb dX5_told_1 (by rw [cc2]; decide) (by rw [cc2]; decide) (by rw [cc2]; rfl) (by decide) ?_
        refine lv_aload_n hx hb dX5_told_52 rfl (lv_at hl 0 rfl) ?_
        refine va_get (D := D) (ci := 5) (v := .ref q_rw) (C := RX5) (T := TX5) (N := 6) hx hb hts i_X5_told_X5 hown hZ.1 hP 0 rfl rfl 1 (by decide) (hts _ m_X5_told_f19) (fun _ h9 => h9) rfl dX5_told_53 ?_
        refine va_get (D := D) (ci := 4) (v := .int (nI L)) (C := RX4) (T := TX4) (N := 2) hx hb hts i_X5_told_X4 hown hZ.1 hP 5 rfl rfl 1 (by decide) (hts _ m_X5_told_f116) (fun _ h9 => h9) rfl dX5_told_56 ?_
        have er := hw
        exact W.iret (v := nI L) hx hb hr (fun t ht hW => ⟨_, rfl, er, ht⟩) (fun _ h => by cases h) dX5_told_59
      ·
        by_cases cc3 : x = nI 3
        · replace hw := hw3 cc3
          refine lv_tableIn (off := 59) (tgt := 60) hx hb dX5_told_1 (by rw [cc3]; decide) (by rw [cc3]; decide) (by rw [cc3]; rfl) (by decide) ?_
          refine lv_aload_n hx hb dX5_told_60 rfl (lv_at hl 0 rfl) ?_
          refine va_get (D := D) (ci := 5) (v := .ref q_rv) (C := RX5) (T := TX5) (N := 6) hx hb hts i_X5_told_X5 hown hZ.1 hP 0 rfl rfl 2 (by decide) (hts _ m_X5_told_f23) (fun _ h9 => h9) rfl dX5_told_61 ?_
          refine va_get (D := D) (ci := 4) (v := .int (nI L2)) (C := RX4) (T := TX4) (N := 2) hx hb hts i_X5_told_X4 hown hZ.1 hP 7 rfl rfl 1 (by decide) (hts _ m_X5_told_f116) (fun _ h9 => h9) rfl dX5_told_64 ?_
          have er := hw
          exact W.iret (v := nI L2) hx hb hr (fun t ht hW => ⟨_, rfl, er, ht⟩) (fun _ h => by cases h) dX5_told_67
        ·
          by_cases cc4 : x = nI 4
          · replace hw := hw4 cc4
            refine lv_tableIn (off := 67) (tgt := 68) hx hb dX5_told_1 (by rw [cc4]; decide) (by rw [cc4]; decide) (by rw [cc4]; rfl) (by decide) ?_
            refine lv_aload_n hx hb dX5_told_68 rfl (lv_at hl 0 rfl) ?_
            refine va_get (D := D) (ci := 5) (v := .ref q_nt) (C := RX5) (T := TX5) (N := 6) hx hb hts i_X5_told_X5 hown hZ.1 hP 0 rfl rfl 0 (by decide) (hts _ m_X5_told_f10) (fun _ h9 => h9) rfl dX5_told_69 ?_
            have hPc : va_P D vwCl [(q_nt, .inr (2, [.ref q_en, .ref q_ba, .ref q_de, .int (nI n), .int (nI (prs t))])), (q_en, .inl (cI, 32, .inl (aE t))), (q_ba, .inl (cZ, 32, .inl (aB w))), (q_de, .inl (cI, 8, .inl (aN (dg t))))] zs.heap := hP.sub [1, 2, 3, 4] rfl
            refine z_ro (va_runV (As := []) (rest := []) ⟨hx, hb, hml, hown, hts⟩ (k_X2_badDoors q_nt q_en q_ba q_de n t w) (cwV 0 hts gX5_told_X2_badDoors rfl rfl rfl (by decide +kernel) ⟨Nat.le_of_ble_eq_true rfl, Nat.le_of_ble_eq_true rfl⟩) (zPr_V hZ hPc 0 rfl rfl) rfl rfl hl.1 rfl (lv_room (Nat.le_of_ble_eq_true rfl)) dX5_told_72 ⟨Nat.zero_le _, Nat.zero_le _⟩) (fun zr1 hzr1 => ?_)
            have ez := hzr1
            rw [ez]
            clear ez hzr1
            have er := hw
            exact W.iret (v := nI (cnt w 32)) hx hb hr (fun t ht hW => ⟨_, rfl, er, ht⟩) (fun _ h => by cases h) dX5_told_75
          ·
            replace hw := hwd cc0 cc1 cc2 cc3 cc4
            refine lv_tableOut (tgt := 76) hx hb dX5_told_1 (z_tab (m := 4) (by decide) (fun k hk => by rcases (show k = 0 ∨ k = 1 ∨ k = 2 ∨ k = 3 ∨ k = 4 by omega) with rfl | rfl | rfl | rfl | rfl <;> assumption)) (by decide) ?_
            refine lv_bipush (v := (-2)) hx hb dX5_told_76 (by decide +kernel) ?_
            have er := hw
            exact W.iret (v := (-2)) hx hb hr (fun t ht hW => ⟨_, rfl, er, ht⟩) (fun _ h => by cases h) dX5_told_78
