/-! THE CLAIM OUT OF ONE WALK OF THE LAW'S BODY. Your part is whole_start (and what it stands on); all else here is the same for every law, but numbers. -/
def R_law : String := "NetWalkersLaw"
def lw_P (b : Addr) (xs : List Int32) (args : Array Value) (s : State) : Prop := args = #[.ref b] ∧ s.IntsAt b xs ∧ xs.length ≤ 2560 ∧ (Jvm.Cond.and given_1 narrow_1).before args s = true
def lw_Q (_ : Array Value) (s : State) (o : Outcome) (t : State) : Prop := o = .returned (some (.int 1)) ∧ Framed s o t [] 25 384
def lw_Z (below : List Frame) (a : Array Value) (s : State) : State → Prop := fun t => ∃ o, t.status = .running ∧ Ended t below o ∧ lw_Q a s o t
/-- the law's own end, with 1 on the stack, nothing written that was there before, its room as the claim has it -/
theorem lw_ret {p : Program} {l : Launch} {e : Env} {s : State} {m : MethodId} {below : List Frame} {meth : Method} {c : Code} {b : Nat} (hx : p.tables.exec = Jvm.exec) (hb : c.code = code) (hr : meth.sig.returnType = ret) (hlocks : meth.locks = false) {pc : Nat} {H : Heap} {ls : Array Slot} (hdg : decode code pc = .ok (.ireturn, 1)) : W p l e room_1 s m #[Value.ref b] below meth c H [] 25 384 (lw_Z below #[Value.ref b] s) (F0 m pc ls [.int 1]) := by
  intro T hT X
  obtain ⟨fs, hret, hrun, hended, hW, hframe⟩ := X.leave (v := some (.int 1)) (hlocks := hlocks) (fun h => by rw [hr] at h; cases h)
  have hmeth' : T.vm.method? m = some meth := X.method'
  refine ⟨T.setFrames fs, ?_, .returned (some (.int 1)), hrun, hended, rfl, ⟨_, rfl⟩, hW, hframe⟩
  jvm_step X.here [X.here.top, hx, hb, hdg, hmeth', hr, ret, narrow_b1]
  (try refine ⟨rfl, ?_⟩); (try refine ⟨rfl, ?_⟩)
  first | (intro acts; rw [hret _ acts rfl rfl rfl]) | rw [hret _ _ rfl rfl rfl]
  exact Steps.refl _
/-- what holds at the law's entry: the machine, the code, the tables' words (any of lw_tbl by 'hts w (by decide +kernel)'), the script of L ints xs at the cell b, what the Statement gives of the start (any of its parts by flat_of_before) -/
def lw_At (p : Program) (s : State) (m : MethodId) (meth : Method) (c : Code) (b L : Nat) (xs : Nat → Int32) : Prop :=
  p.tables.exec = Jvm.exec ∧ c.code = code ∧ meth.sig.returnType = ret ∧ c.maxLocals = 4 ∧ s.vm.findClass R_law = some m.cls ∧ (∀ w ∈ lw_tbl, w.before #[Value.ref b] s = true) ∧ va_X b L xs s s.heap ∧ b < s.heap.size ∧ meth.locks = false ∧ (Jvm.Cond.and given_1 narrow_1).before #[Value.ref b] s = true
/-! ===== by program (wip/whole/loop.py): the loop and the start ===== -/
theorem m_L_is0 : Cond.instantiable RX0 1 ∈ wsL_law := by decide +kernel
theorem m_L_is1 : Cond.instantiable RX1 4 ∈ wsL_law := by decide +kernel
theorem m_L_is2 : Cond.instantiable RX2 5 ∈ wsL_law := by decide +kernel
theorem m_L_is3 : Cond.instantiable RX3 2 ∈ wsL_law := by decide +kernel
theorem m_L_is4 : Cond.instantiable RX4 2 ∈ wsL_law := by decide +kernel
theorem m_L_is5 : Cond.instantiable RX5 6 ∈ wsL_law := by decide +kernel
theorem m_L_is6 : Cond.instantiable RX6 12 ∈ wsL_law := by decide +kernel
theorem m_L_aI : Cond.arrayClass .int ∈ wsL_law := by decide +kernel
theorem m_L_aZ : Cond.arrayClass .boolean ∈ wsL_law := by decide +kernel
theorem m_L_nRX5_18 : Cond.methodLinkNest RX5 18 yX4_init RX5 ∈ lw_tbl := List.mem_of_getElem? (i := 88) (by decide +kernel)
theorem m_L_nRX5_44 : Cond.methodLinkNest RX5 44 yX3_init RX5 ∈ lw_tbl := List.mem_of_getElem? (i := 132) (by decide +kernel)
theorem m_L_nRX2_45 : Cond.methodLinkNest RX2 45 yX5_postOf RX5 ∈ lw_tbl := List.mem_of_getElem? (i := 194) (by decide +kernel)
theorem m_L_nRX2_62 : Cond.methodLinkNest RX2 62 yX5_placeOf RX5 ∈ lw_tbl := List.mem_of_getElem? (i := 247) (by decide +kernel)
theorem m_L_nRX2_72 : Cond.methodLinkNest RX2 72 yX5_doorOf RX5 ∈ lw_tbl := List.mem_of_getElem? (i := 314) (by decide +kernel)
theorem m_L_nRX0_25 : Cond.methodLinkNest RX0 25 yX5_placeOf RX5 ∈ lw_tbl := List.mem_of_getElem? (i := 350) (by decide +kernel)
theorem m_L_nRX0_32 : Cond.methodLinkNest RX0 32 yX5_postOf RX5 ∈ lw_tbl := List.mem_of_getElem? (i := 352) (by decide +kernel)
theorem m_L_nRX1_56 : Cond.methodLinkNest RX1 56 yX5_placeOf RX5 ∈ lw_tbl := List.mem_of_getElem? (i := 401) (by decide +kernel)
theorem m_L_nRX1_63 : Cond.methodLinkNest RX1 63 yX5_doorOf RX5 ∈ lw_tbl := List.mem_of_getElem? (i := 403) (by decide +kernel)
theorem m_L_nRX1_66 : Cond.methodLinkNest RX1 66 yX5_postOf RX5 ∈ lw_tbl := List.mem_of_getElem? (i := 404) (by decide +kernel)
theorem m_L_cl7 : Cond.classLink RL 7 RX5 ∈ wsL_law := by decide +kernel
theorem m_L_in5 : Cond.initialized RX5 ∈ wsL_law := by decide +kernel
theorem m_L_ml5 : Cond.methodLink RL 9 yX5_init ∈ wsL_law := by decide +kernel
theorem m_L_im5 : Cond.instanceMethod yX5_init ∈ wsL_law := by decide +kernel
theorem m_L_cl10 : Cond.classLink RL 10 RX6 ∈ wsL_law := by decide +kernel
theorem m_L_in6 : Cond.initialized RX6 ∈ wsL_law := by decide +kernel
theorem m_L_ml6 : Cond.methodLink RL 12 yX6_init ∈ wsL_law := by decide +kernel
theorem m_L_im6 : Cond.instanceMethod yX6_init ∈ wsL_law := by decide +kernel
theorem z_n3 : nOK 3 tF := ⟨by decide, by decide, fun i hi => absurd (show (32 : Nat) < 32 from hi) (by decide)⟩
theorem z_r0 : rOK zrF 0 := ⟨by decide, fun k _ => Nat.zero_le _⟩
set_option maxRecDepth 100000 in
set_option maxHeartbeats 4000000 in
theorem lw_loop {p : Program} {l : Launch} {e : Env} {s : State} {m : MethodId} {below : List Frame} {meth : Method} {c : Code} {D : va_G} {cI cZ : ClassId} {b Ls : Nat} {xs : Nat → Int32} {A : Nat → Prop} {q_x q_nt q_en q_ba q_de q_rw q_nm q_rv q_nv q_hd q_lk q_kn q_fi q_rg q_le q_fo q_md q_mt q_mb q_ml q_mr q_lo q_dp q_sh q_fd : Nat} (C : lwX p s m c D cI cZ b Ls xs A) (hr : meth.sig.returnType = ret) (hlocks : meth.locks = false) (hAs : ∀ q, A q → s.heap.size ≤ q) : ∀ (k i : Nat), Ls < i + k → i ≤ Ls → lwG p l e s m below meth c D cI cZ b A (lw_Z below #[Value.ref b] s) 18 i q_x q_nt q_en q_ba q_de q_rw q_nm q_rv q_nv q_hd q_lk q_kn q_fi q_rg q_le q_fo q_md q_mt q_mb q_ml q_mr q_lo q_dp q_sh q_fd := by
  have C0 := C
  obtain ⟨hx, hb, hml, hown, hts, hX, hbl, hZ, hbA, hA, hLs⟩ := C
  intro k
  induction k with
  | zero => exact fun i h h2 => absurd h (by omega)
  | succ k ih =>
    intro i hk hi n t w r L1 r2 L2 kd fi ct le fo a0 y0 lo dp cl sh fd H locs hn0 hr1 hr2 hg0 hm0 hP hD hS ls hl
    refine lv_iload_n hx hb dL_law_18 rfl (lv_at hl 3 rfl) ?_
    refine lv_aload_n hx hb dL_law_19 rfl (lv_at hl 0 rfl) ?_
    refine va_slen hx hb hX hbl hbA hS dL_law_20 ?_
    refine lv_iconst (v := nI 5) hx hb dL_law_21 (by decide +kernel) ?_
    refine z_isub hx hb (v := nI Ls - nI 5) rfl dL_law_22 ?_
    have cmp : (nI Ls - nI 5 < nI i) ↔ Ls < i + 5 := by
      rw [Int32.lt_iff_toInt_lt, pk_sub_toInt (by omega) (by omega), nI_toInt (by omega)]
      omega
    refine lv_icmp_gt (tgt := 866) hx hb dL_law_23 (by decide) (fun cc => ?_) (fun cc => ?_)
    · refine lv_iconst (v := 1) hx hb dL_law_866 (by decide) ?_
      refine va_forget (fun q hq => hAs _ (hS.2.2 q hq)) ?_
      exact lw_ret hx hb hr hlocks dL_law_867
    · have hi5 : i + 5 ≤ Ls := Nat.le_of_not_lt (fun q => cc (cmp.mpr q))
      refine lv_aload_n hx hb dL_law_26 rfl (lv_at hl 0 rfl) ?_
      refine lv_iload_n hx hb dL_law_27 rfl (lv_at hl 3 rfl) ?_
      refine z_sld hx hb hX hbl hbA hS (by omega) (by omega) dL_law_28 ?_
      refine lv_bipush (v := nI 31) hx hb dL_law_29 (by decide +kernel) ?_
      obtain ⟨y, ey⟩ : ∃ y : Int32, xs i &&& nI 31 = y := ⟨_, rfl⟩
      refine z_iand hx hb ey dL_law_31 ?_
      have hN : lwG p l e s m below meth c D cI cZ b A (lw_Z below #[Value.ref b] s) 860 i q_x q_nt q_en q_ba q_de q_rw q_nm q_rv q_nv q_hd q_lk q_kn q_fi q_rg q_le q_fo q_md q_mt q_mb q_ml q_mr q_lo q_dp q_sh q_fd := by
        intro n t w r L1 r2 L2 kd fi ct le fo a0 y0 lo dp cl sh fd H locs hn0 hr1 hr2 hg0 hm0 hP hD hS ls hl
        refine lv_iinc (v := nI (i + 5)) (lv' := [(3, .int (nI (i + 5))), (0, .ref b), (1, .ref q_x), (2, .ref q_md)]) hx hb dL_law_860 hl (k := 3) rfl (by rw [show Int32.ofInt 5 = nI 5 from by decide +kernel]; exact nI_add _ _) (by decide) rfl (fun ls hl => ?_)
        refine lv_goto (tgt := 18) hx hb dL_law_863 (by decide) ?_
        exact ih (i + 5) (by omega) (by omega) n t w r L1 r2 L2 kd fi ct le fo a0 y0 lo dp cl sh fd H locs hn0 hr1 hr2 hg0 hm0 hP hD hS ls (lv_sub hl [1, 2, 3, 0] rfl)
      by_cases cc0 : y = nI 0
      · refine lv_tableIn (off := 104) (tgt := 136) hx hb dL_law_32 (by rw [cc0]; decide) (by rw [cc0]; decide) (by rw [cc0]; rfl) (by decide) ?_
        exact lc_0 C0 hi5 hN n t w r L1 r2 L2 kd fi ct le fo a0 y0 lo dp cl sh fd H locs hn0 hr1 hr2 hg0 hm0 hP hD hS ls hl
      by_cases cc1 : y = nI 1
      · refine lv_tableIn (off := 127) (tgt := 159) hx hb dL_law_32 (by rw [cc1]; decide) (by rw [cc1]; decide) (by rw [cc1]; rfl) (by decide) ?_
        exact lc_1 C0 hi5 hN n t w r L1 r2 L2 kd fi ct le fo a0 y0 lo dp cl sh fd H locs hn0 hr1 hr2 hg0 hm0 hP hD hS ls hl
      by_cases cc2 : y = nI 2
      · refine lv_tableIn (off := 180) (tgt := 212) hx hb dL_law_32 (by rw [cc2]; decide) (by rw [cc2]; decide) (by rw [cc2]; rfl) (by decide) ?_
        exact lc_2 C0 hi5 hN n t w r L1 r2 L2 kd fi ct le fo a0 y0 lo dp cl sh fd H locs hn0 hr1 hr2 hg0 hm0 hP hD hS ls hl
      by_cases cc3 : y = nI 3
      · refine lv_tableIn (off := 213) (tgt := 245) hx hb dL_law_32 (by rw [cc3]; decide) (by rw [cc3]; decide) (by rw [cc3]; rfl) (by decide) ?_
        exact lc_3 C0 hi5 hN n t w r L1 r2 L2 kd fi ct le fo a0 y0 lo dp cl sh fd H locs hn0 hr1 hr2 hg0 hm0 hP hD hS ls hl
      by_cases cc4 : y = nI 4
      · refine lv_tableIn (off := 272) (tgt := 304) hx hb dL_law_32 (by rw [cc4]; decide) (by rw [cc4]; decide) (by rw [cc4]; rfl) (by decide) ?_
        exact lc_4 C0 hi5 hN n t w r L1 r2 L2 kd fi ct le fo a0 y0 lo dp cl sh fd H locs hn0 hr1 hr2 hg0 hm0 hP hD hS ls hl
      by_cases cc5 : y = nI 5
      · refine lv_tableIn (off := 305) (tgt := 337) hx hb dL_law_32 (by rw [cc5]; decide) (by rw [cc5]; decide) (by rw [cc5]; rfl) (by decide) ?_
        exact lc_5 C0 hi5 hN n t w r L1 r2 L2 kd fi ct le fo a0 y0 lo dp cl sh fd H locs hn0 hr1 hr2 hg0 hm0 hP hD hS ls hl
      by_cases cc6 : y = nI 6
      · refine lv_tableIn (off := 318) (tgt := 350) hx hb dL_law_32 (by rw [cc6]; decide) (by rw [cc6]; decide) (by rw [cc6]; rfl) (by decide) ?_
        exact lc_6 C0 hi5 hN n t w r L1 r2 L2 kd fi ct le fo a0 y0 lo dp cl sh fd H locs hn0 hr1 hr2 hg0 hm0 hP hD hS ls hl
      by_cases cc7 : y = nI 7
      · refine lv_tableIn (off := 341) (tgt := 373) hx hb dL_law_32 (by rw [cc7]; decide) (by rw [cc7]; decide) (by rw [cc7]; rfl) (by decide) ?_
        exact lc_7 C0 hi5 hN n t w r L1 r2 L2 kd fi ct le fo a0 y0 lo dp cl sh fd H locs hn0 hr1 hr2 hg0 hm0 hP hD hS ls hl
      by_cases cc8 : y = nI 8
      · refine lv_tableIn (off := 374) (tgt := 406) hx hb dL_law_32 (by rw [cc8]; decide) (by rw [cc8]; decide) (by rw [cc8]; rfl) (by decide) ?_
        exact lc_8 C0 hi5 hN n t w r L1 r2 L2 kd fi ct le fo a0 y0 lo dp cl sh fd H locs hn0 hr1 hr2 hg0 hm0 hP hD hS ls hl
      by_cases cc9 : y = nI 9
      · refine lv_tableIn (off := 397) (tgt := 429) hx hb dL_law_32 (by rw [cc9]; decide) (by rw [cc9]; decide) (by rw [cc9]; rfl) (by decide) ?_
        exact lc_9 C0 hi5 hN n t w r L1 r2 L2 kd fi ct le fo a0 y0 lo dp cl sh fd H locs hn0 hr1 hr2 hg0 hm0 hP hD hS ls hl
      by_cases cc10 : y = nI 10
      · refine lv_tableIn (off := 440) (tgt := 472) hx hb dL_law_32 (by rw [cc10]; decide) (by rw [cc10]; decide) (by rw [cc10]; rfl) (by decide) ?_
        exact lc_10 C0 hi5 hN n t w r L1 r2 L2 kd fi ct le fo a0 y0 lo dp cl sh fd H locs hn0 hr1 hr2 hg0 hm0 hP hD hS ls hl
      by_cases cc11 : y = nI 11
      · refine lv_tableIn (off := 473) (tgt := 505) hx hb dL_law_32 (by rw [cc11]; decide) (by rw [cc11]; decide) (by rw [cc11]; rfl) (by decide) ?_
        exact lc_11 C0 hi5 hN n t w r L1 r2 L2 kd fi ct le fo a0 y0 lo dp cl sh fd H locs hn0 hr1 hr2 hg0 hm0 hP hD hS ls hl
      by_cases cc12 : y = nI 12
      · refine lv_tableIn (off := 496) (tgt := 528) hx hb dL_law_32 (by rw [cc12]; decide) (by rw [cc12]; decide) (by rw [cc12]; rfl) (by decide) ?_
        exact lc_12 C0 hi5 hN n t w r L1 r2 L2 kd fi ct le fo a0 y0 lo dp cl sh fd H locs hn0 hr1 hr2 hg0 hm0 hP hD hS ls hl
      by_cases cc13 : y = nI 13
      · refine lv_tableIn (off := 529) (tgt := 561) hx hb dL_law_32 (by rw [cc13]; decide) (by rw [cc13]; decide) (by rw [cc13]; rfl) (by decide) ?_
        exact lc_13 C0 hi5 hN n t w r L1 r2 L2 kd fi ct le fo a0 y0 lo dp cl sh fd H locs hn0 hr1 hr2 hg0 hm0 hP hD hS ls hl
      by_cases cc14 : y = nI 14
      · refine lv_tableIn (off := 552) (tgt := 584) hx hb dL_law_32 (by rw [cc14]; decide) (by rw [cc14]; decide) (by rw [cc14]; rfl) (by decide) ?_
        exact lc_14 C0 hi5 hN n t w r L1 r2 L2 kd fi ct le fo a0 y0 lo dp cl sh fd H locs hn0 hr1 hr2 hg0 hm0 hP hD hS ls hl
      by_cases cc15 : y = nI 15
      · refine lv_tableIn (off := 585) (tgt := 617) hx hb dL_law_32 (by rw [cc15]; decide) (by rw [cc15]; decide) (by rw [cc15]; rfl) (by decide) ?_
        exact lc_15 C0 hi5 hN n t w r L1 r2 L2 kd fi ct le fo a0 y0 lo dp cl sh fd H locs hn0 hr1 hr2 hg0 hm0 hP hD hS ls hl
      by_cases cc16 : y = nI 16
      · refine lv_tableIn (off := 608) (tgt := 640) hx hb dL_law_32 (by rw [cc16]; decide) (by rw [cc16]; decide) (by rw [cc16]; rfl) (by decide) ?_
        exact lc_16 C0 hi5 hN n t w r L1 r2 L2 kd fi ct le fo a0 y0 lo dp cl sh fd H locs hn0 hr1 hr2 hg0 hm0 hP hD hS ls hl
      by_cases cc17 : y = nI 17
      · refine lv_tableIn (off := 621) (tgt := 653) hx hb dL_law_32 (by rw [cc17]; decide) (by rw [cc17]; decide) (by rw [cc17]; rfl) (by decide) ?_
        exact lc_17 C0 hi5 hN n t w r L1 r2 L2 kd fi ct le fo a0 y0 lo dp cl sh fd H locs hn0 hr1 hr2 hg0 hm0 hP hD hS ls hl
      by_cases cc18 : y = nI 18
      · refine lv_tableIn (off := 654) (tgt := 686) hx hb dL_law_32 (by rw [cc18]; decide) (by rw [cc18]; decide) (by rw [cc18]; rfl) (by decide) ?_
        exact lc_18 C0 hi5 hN n t w r L1 r2 L2 kd fi ct le fo a0 y0 lo dp cl sh fd H locs hn0 hr1 hr2 hg0 hm0 hP hD hS ls hl
      by_cases cc19 : y = nI 19
      · refine lv_tableIn (off := 723) (tgt := 755) hx hb dL_law_32 (by rw [cc19]; decide) (by rw [cc19]; decide) (by rw [cc19]; rfl) (by decide) ?_
        exact lc_19 C0 hi5 hN n t w r L1 r2 L2 kd fi ct le fo a0 y0 lo dp cl sh fd H locs hn0 hr1 hr2 hg0 hm0 hP hD hS ls hl
      by_cases cc20 : y = nI 20
      · refine lv_tableIn (off := 772) (tgt := 804) hx hb dL_law_32 (by rw [cc20]; decide) (by rw [cc20]; decide) (by rw [cc20]; rfl) (by decide) ?_
        exact lc_20 C0 hi5 hN n t w r L1 r2 L2 kd fi ct le fo a0 y0 lo dp cl sh fd H locs hn0 hr1 hr2 hg0 hm0 hP hD hS ls hl
      by_cases cc21 : y = nI 21
      · refine lv_tableIn (off := 805) (tgt := 837) hx hb dL_law_32 (by rw [cc21]; decide) (by rw [cc21]; decide) (by rw [cc21]; rfl) (by decide) ?_
        exact lc_21 C0 hi5 hN n t w r L1 r2 L2 kd fi ct le fo a0 y0 lo dp cl sh fd H locs hn0 hr1 hr2 hg0 hm0 hP hD hS ls hl
      refine lv_tableOut (tgt := 860) hx hb dL_law_32 (z_tab (m := 21) (by decide) (fun k hk => by rcases (show k = 0 ∨ k = 1 ∨ k = 2 ∨ k = 3 ∨ k = 4 ∨ k = 5 ∨ k = 6 ∨ k = 7 ∨ k = 8 ∨ k = 9 ∨ k = 10 ∨ k = 11 ∨ k = 12 ∨ k = 13 ∨ k = 14 ∨ k = 15 ∨ k = 16 ∨ k = 17 ∨ k = 18 ∨ k = 19 ∨ k = 20 ∨ k = 21 by omega) with rfl | rfl | rfl | rfl | rfl | rfl | rfl | rfl | rfl | rfl | rfl | rfl | rfl | rfl | rfl | rfl | rfl | rfl | rfl | rfl | rfl | rfl <;> assumption)) (by decide) ?_
      exact hN n t w r L1 r2 L2 kd fi ct le fo a0 y0 lo dp cl sh fd H locs hn0 hr1 hr2 hg0 hm0 hP hD hS ls hl
-- ===== YOUR PART BEGINS =====
set_option maxRecDepth 100000 in
set_option maxHeartbeats 4000000 in
theorem whole_start {p : Program} {e : Env} {s : State} {m : MethodId} {below : List Frame} {meth : Method} {c : Code} (l : Launch) (hflags : l.flags = flags0) {b L : Nat} {xs : Nat → Int32} (hL : L ≤ 2560) (C0 : lw_At p s m meth c b L xs) : W p l e room_1 s m #[Value.ref b] below meth c s.heap [] 0 0 (lw_Z below #[Value.ref b] s) (entryFrame m ([Value.ref b] : List Value).toArray 4) := by
  obtain ⟨hx, hb, hr, hml, hown, hts0, hX, hbl, hlocks, hgv⟩ := C0
  have hts : ∀ w ∈ wsL_law, w.before #[Value.ref b] s = true := fun w hw => hts0 w (wsL_law_in w hw)
  obtain ⟨u0, o0, n0⟩ := u_known (C := RX0) (T := TX0) (N := 1) (n := 1) hts inlX0 (hts _ m_L_is0)
  obtain ⟨u1, o1, n1⟩ := u_known (C := RX1) (T := TX1) (N := 4) (n := 4) hts inlX1 (hts _ m_L_is1)
  obtain ⟨u2, o2, n2⟩ := u_known (C := RX2) (T := TX2) (N := 5) (n := 5) hts inlX2 (hts _ m_L_is2)
  obtain ⟨u3, o3, n3⟩ := u_known (C := RX3) (T := TX3) (N := 2) (n := 2) hts inlX3 (hts _ m_L_is3)
  obtain ⟨u4, o4, n4⟩ := u_known (C := RX4) (T := TX4) (N := 2) (n := 2) hts inlX4 (hts _ m_L_is4)
  obtain ⟨u5, o5, n5⟩ := u_known (C := RX5) (T := TX5) (N := 6) (n := 6) hts inlX5 (hts _ m_L_is5)
  obtain ⟨u6, o6, n6⟩ := u_known (C := RX6) (T := TX6) (N := 12) (n := 12) hts inlX6 (hts _ m_L_is6)
  obtain ⟨D, hKc⟩ : ∃ D : va_G, ∀ (k : Nat) (q : vw_C), vwCl[k]? = some q → u_Kn s q.1 q.2.1 q.2.2 (D.1 k) (D.2 k) := by
    refine ⟨(fun k => match k with | 0 => u0 | 1 => u1 | 2 => u2 | 3 => u3 | 4 => u4 | 5 => u5 | _ => u6, fun k => match k with | 0 => o0 | 1 => o1 | 2 => o2 | 3 => o3 | 4 => o4 | 5 => o5 | _ => o6), ?_⟩
    intro k q hq
    match k, hq with
    | 0, hq => cases hq; exact n0
    | 1, hq => cases hq; exact n1
    | 2, hq => cases hq; exact n2
    | 3, hq => cases hq; exact n3
    | 4, hq => cases hq; exact n4
    | 5, hq => cases hq; exact n5
    | 6, hq => cases hq; exact n6
    | k + 7, hq => simp [vwCl] at hq
  obtain ⟨cI, kI, wI, fI, hkI, hdI⟩ := Cond.arrayClass_spec (hts _ m_L_aI)
  obtain ⟨cZ, kZ, wZ, fZ, hkZ, hdZ⟩ := Cond.arrayClass_spec (hts _ m_L_aZ)
  have hK : va_K D vwCl [(cI, .int), (cZ, .boolean)] s := by
    refine ⟨hKc, fun k q hq => ?_⟩
    match k, hq with
    | 0, hq => cases hq; exact ⟨fun n z => ⟨fun k h => (by cases h), kI, hkI, wI, hdI⟩, fI⟩
    | 1, hq => cases hq; exact ⟨fun n z => ⟨fun k h => (by cases h), kZ, hkZ, wZ, hdZ⟩, fZ⟩
    | k + 2, hq => simp at hq
  have hZ : zK D cI cZ s := ⟨hK, va_Nw.of rfl (hts0 _ m_L_nRX5_18), va_Nw.of rfl (hts0 _ m_L_nRX5_44), va_Nw.of rfl (hts0 _ m_L_nRX2_45), va_Nw.of rfl (hts0 _ m_L_nRX2_62), va_Nw.of rfl (hts0 _ m_L_nRX2_72), va_Nw.of rfl (hts0 _ m_L_nRX0_25), va_Nw.of rfl (hts0 _ m_L_nRX0_32), va_Nw.of rfl (hts0 _ m_L_nRX1_56), va_Nw.of rfl (hts0 _ m_L_nRX1_63), va_Nw.of rfl (hts0 _ m_L_nRX1_66)⟩
  generalize hAe : (fun q : Nat => s.heap.size ≤ q) = A
  have hA : ∀ q : Nat, s.heap.size ≤ q → A q := fun q z => by rw [← hAe]; exact z
  have hAs : ∀ q : Nat, A q → s.heap.size ≤ q := fun q z => by rw [← hAe] at z; exact z
  have hbA : ¬ A b := fun z => absurd (hAs b z) (Nat.not_le.mpr hbl)
  have hS : va_S A s.heap s.heap [] := va_S.rf
  have hP : va_P D vwCl [] s.heap := fun k q z => by simp at z
  have hD : va_D A [] := ⟨fun i j p q z => by simp at z, fun k q z => by simp at z⟩
  have hl := lv_entry ([.ref b]) (n := 4) (Nat.le_of_ble_eq_true rfl)
  rw [lg_entry_eq]
  generalize (lg_sl ([.ref b]) ++ List.replicate (4 - (lg_sl ([.ref b])).length) Slot.unset).toArray = ls at hl ⊢
  have hl : lv_has ls 4 [(0, .ref b)] := hl
  refine va_new (ci := 5) (fs := [.null, .null, .null, .null, .null, .null]) (C := RX5) (T := TX5) (N := 6) hx hb hts inlX5 tyX5 tyX5_ok hown (hts _ m_L_cl7) (hts _ m_L_is5) (hts _ m_L_in5) hZ.1 hP hD hS hA rfl (fun j hj => by rcases (show j = 0 ∨ j = 1 ∨ j = 2 ∨ j = 3 ∨ j = 4 ∨ j = 5 by omega) with rfl | rfl | rfl | rfl | rfl | rfl <;> rfl) (Nat.le_of_ble_eq_true rfl) (Nat.le_of_ble_eq_true rfl) dL_law_0 (fun q_x H hP hD hS => ?_)
  have hP : va_P D vwCl [(q_x, .inr (5, [.null, .null, .null, .null, .null, .null]))] H := hP
  have hD : va_D A [(q_x, .inr (5, [.null, .null, .null, .null, .null, .null]))] := hD
  refine W.widen (k := 1) (n := 6) (Nat.le_of_ble_eq_true rfl) (Nat.le_of_ble_eq_true rfl) ?_
  refine lv_dup hx hb dL_law_3 rfl ?_
  have hPc : va_P D vwCl [(q_x, .inr (5, [.null, .null, .null, .null, .null, .null]))] H := hP.sub [0] rfl
  have hDc : va_D A [(q_x, .inr (5, [.null, .null, .null, .null, .null, .null]))] := hD.sub [0] (by decide) rfl
  have hFc := va_free (wc := [(q_x, .inr (5, [.null, .null, .null, .null, .null, .null]))]) hD hS hA [0] rfl
  refine va_callv (va_runI (As := []) (rest := [.ref q_x]) ⟨hx, hb, hml, hown, hts⟩ (c_X5_init q_x H.size) (cwI 0 hts gL_law_X5_init rfl rfl rfl (hts _ m_L_in5) (hts _ m_L_ml5) (hts _ m_L_im5) rfl (by decide +kernel) ⟨Nat.le_of_ble_eq_true rfl, Nat.le_of_ble_eq_true rfl⟩) (zPw_S (As := [.ref q_x]) hZ hPc (hDc.weaken (fun _ _ _ _ => trivial))) rfl rfl hl.1 rfl (lv_room (Nat.le_of_ble_eq_true rfl)) dL_law_4 ⟨Nat.le_of_ble_eq_true rfl, Nat.le_of_ble_eq_true rfl⟩) hS (fun q _ h => hFc q h) hFc (fun zu zt H1 locs1 ht hvm hq hB hz1 hk1 hS => ?_)
  obtain ⟨q_nt, q_en, q_ba, q_de, q_rw, q_nm, q_rv, q_nv, q_hd, q_lk, q_kn, q_fi, q_rg, q_le, q_fo⟩ := zu
  obtain ⟨hP1, hD1⟩ := hB
  rw [ht] at hP1
  obtain ⟨hP, hD⟩ := va_join (wr := []) (w1 := [(q_x, .inr (5, [.ref q_nt, .ref q_rw, .ref q_rv, .ref q_hd, .ref q_lk, .ref q_rg])), (q_nt, .inr (2, [.ref q_en, .ref q_ba, .ref q_de, .int (nI 3), .int (nI (prs tF))])), (q_en, .inl (cI, 32, .inl (aE tF))), (q_ba, .inl (cZ, 32, .inl (aB wF))), (q_de, .inl (cI, 8, .inl (aN (dg tF)))), (q_rw, .inr (4, [.ref q_nm, .int (nI 0)])), (q_nm, .inl (cI, 40, .inl (aN zrF))), (q_rv, .inr (4, [.ref q_nv, .int (nI 0)])), (q_nv, .inl (cI, 40, .inl (aN zrF))), (q_hd, .inr (0, [.ref q_nt])), (q_lk, .inr (1, [.ref q_nt, .ref q_kn, .ref q_fi, .int (nI 0)])), (q_kn, .inl (cI, 8, .inl (aN zrF))), (q_fi, .inl (cI, 8, .inl (aN zrF))), (q_rg, .inr (3, [.ref q_le, .ref q_fo])), (q_le, .inl (cI, 5, .inl z0I)), (q_fo, .inl (cI, 5, .inl z0I))]) hP hD [0] [] rfl rfl (by decide) (by decide) hk1 hFc hP1 hD1
  have hP : va_P D vwCl [(q_x, .inr (5, [.ref q_nt, .ref q_rw, .ref q_rv, .ref q_hd, .ref q_lk, .ref q_rg])), (q_nt, .inr (2, [.ref q_en, .ref q_ba, .ref q_de, .int (nI 3), .int (nI (prs tF))])), (q_en, .inl (cI, 32, .inl (aE tF))), (q_ba, .inl (cZ, 32, .inl (aB wF))), (q_de, .inl (cI, 8, .inl (aN (dg tF)))), (q_rw, .inr (4, [.ref q_nm, .int (nI 0)])), (q_nm, .inl (cI, 40, .inl (aN zrF))), (q_rv, .inr (4, [.ref q_nv, .int (nI 0)])), (q_nv, .inl (cI, 40, .inl (aN zrF))), (q_hd, .inr (0, [.ref q_nt])), (q_lk, .inr (1, [.ref q_nt, .ref q_kn, .ref q_fi, .int (nI 0)])), (q_kn, .inl (cI, 8, .inl (aN zrF))), (q_fi, .inl (cI, 8, .inl (aN zrF))), (q_rg, .inr (3, [.ref q_le, .ref q_fo])), (q_le, .inl (cI, 5, .inl z0I)), (q_fo, .inl (cI, 5, .inl z0I))] H1 := hP
  have hD : va_D A [(q_x, .inr (5, [.ref q_nt, .ref q_rw, .ref q_rv, .ref q_hd, .ref q_lk, .ref q_rg])), (q_nt, .inr (2, [.ref q_en, .ref q_ba, .ref q_de, .int (nI 3), .int (nI (prs tF))])), (q_en, .inl (cI, 32, .inl (aE tF))), (q_ba, .inl (cZ, 32, .inl (aB wF))), (q_de, .inl (cI, 8, .inl (aN (dg tF)))), (q_rw, .inr (4, [.ref q_nm, .int (nI 0)])), (q_nm, .inl (cI, 40, .inl (aN zrF))), (q_rv, .inr (4, [.ref q_nv, .int (nI 0)])), (q_nv, .inl (cI, 40, .inl (aN zrF))), (q_hd, .inr (0, [.ref q_nt])), (q_lk, .inr (1, [.ref q_nt, .ref q_kn, .ref q_fi, .int (nI 0)])), (q_kn, .inl (cI, 8, .inl (aN zrF))), (q_fi, .inl (cI, 8, .inl (aN zrF))), (q_rg, .inr (3, [.ref q_le, .ref q_fo])), (q_le, .inl (cI, 5, .inl z0I)), (q_fo, .inl (cI, 5, .inl z0I))] := hD
  clear hP1 hD1 hk1 hz1 hFc hDc hPc ht hvm
  refine W.widen (k := 16) (n := 200) (Nat.le_of_ble_eq_true rfl) (Nat.le_of_ble_eq_true rfl) ?_
  refine lv_astore_n (lv' := [(1, .ref q_x), (0, .ref b)]) hx hb dL_law_7 rfl hl (by decide) rfl (fun ls hl => ?_)
  refine va_new (ci := 6) (fs := [.int (nI 0), .null, .null, .null, .null, .int (nI 0), .int (nI 0), .null, .null, .int (nI 0), .null, .null]) (C := RX6) (T := TX6) (N := 12) hx hb hts inlX6 tyX6 tyX6_ok hown (hts _ m_L_cl10) (hts _ m_L_is6) (hts _ m_L_in6) hZ.1 hP hD hS hA rfl (fun j hj => by rcases (show j = 0 ∨ j = 1 ∨ j = 2 ∨ j = 3 ∨ j = 4 ∨ j = 5 ∨ j = 6 ∨ j = 7 ∨ j = 8 ∨ j = 9 ∨ j = 10 ∨ j = 11 by omega) with rfl | rfl | rfl | rfl | rfl | rfl | rfl | rfl | rfl | rfl | rfl | rfl <;> rfl) (Nat.le_of_ble_eq_true rfl) (Nat.le_of_ble_eq_true rfl) dL_law_8 (fun q_md H hP hD hS => ?_)
  have hP : va_P D vwCl [(q_x, .inr (5, [.ref q_nt, .ref q_rw, .ref q_rv, .ref q_hd, .ref q_lk, .ref q_rg])), (q_nt, .inr (2, [.ref q_en, .ref q_ba, .ref q_de, .int (nI 3), .int (nI (prs tF))])), (q_en, .inl (cI, 32, .inl (aE tF))), (q_ba, .inl (cZ, 32, .inl (aB wF))), (q_de, .inl (cI, 8, .inl (aN (dg tF)))), (q_rw, .inr (4, [.ref q_nm, .int (nI 0)])), (q_nm, .inl (cI, 40, .inl (aN zrF))), (q_rv, .inr (4, [.ref q_nv, .int (nI 0)])), (q_nv, .inl (cI, 40, .inl (aN zrF))), (q_hd, .inr (0, [.ref q_nt])), (q_lk, .inr (1, [.ref q_nt, .ref q_kn, .ref q_fi, .int (nI 0)])), (q_kn, .inl (cI, 8, .inl (aN zrF))), (q_fi, .inl (cI, 8, .inl (aN zrF))), (q_rg, .inr (3, [.ref q_le, .ref q_fo])), (q_le, .inl (cI, 5, .inl z0I)), (q_fo, .inl (cI, 5, .inl z0I)), (q_md, .inr (6, [.int (nI 0), .null, .null, .null, .null, .int (nI 0), .int (nI 0), .null, .null, .int (nI 0), .null, .null]))] H := hP
  have hD : va_D A [(q_x, .inr (5, [.ref q_nt, .ref q_rw, .ref q_rv, .ref q_hd, .ref q_lk, .ref q_rg])), (q_nt, .inr (2, [.ref q_en, .ref q_ba, .ref q_de, .int (nI 3), .int (nI (prs tF))])), (q_en, .inl (cI, 32, .inl (aE tF))), (q_ba, .inl (cZ, 32, .inl (aB wF))), (q_de, .inl (cI, 8, .inl (aN (dg tF)))), (q_rw, .inr (4, [.ref q_nm, .int (nI 0)])), (q_nm, .inl (cI, 40, .inl (aN zrF))), (q_rv, .inr (4, [.ref q_nv, .int (nI 0)])), (q_nv, .inl (cI, 40, .inl (aN zrF))), (q_hd, .inr (0, [.ref q_nt])), (q_lk, .inr (1, [.ref q_nt, .ref q_kn, .ref q_fi, .int (nI 0)])), (q_kn, .inl (cI, 8, .inl (aN zrF))), (q_fi, .inl (cI, 8, .inl (aN zrF))), (q_rg, .inr (3, [.ref q_le, .ref q_fo])), (q_le, .inl (cI, 5, .inl z0I)), (q_fo, .inl (cI, 5, .inl z0I)), (q_md, .inr (6, [.int (nI 0), .null, .null, .null, .null, .int (nI 0), .int (nI 0), .null, .null, .int (nI 0), .null, .null]))] := hD
  refine W.widen (k := 17) (n := 212) (Nat.le_of_ble_eq_true rfl) (Nat.le_of_ble_eq_true rfl) ?_
  refine lv_dup hx hb dL_law_11 rfl ?_
  have hPc : va_P D vwCl [(q_md, .inr (6, [.int (nI 0), .null, .null, .null, .null, .int (nI 0), .int (nI 0), .null, .null, .int (nI 0), .null, .null]))] H := hP.sub [16] rfl
  have hDc : va_D A [(q_md, .inr (6, [.int (nI 0), .null, .null, .null, .null, .int (nI 0), .int (nI 0), .null, .null, .int (nI 0), .null, .null]))] := hD.sub [16] (by decide) rfl
  have hFc := va_free (wc := [(q_md, .inr (6, [.int (nI 0), .null, .null, .null, .null, .int (nI 0), .int (nI 0), .null, .null, .int (nI 0), .null, .null]))]) hD hS hA [16] rfl
  refine va_callv (va_runI (As := []) (rest := [.ref q_md]) ⟨hx, hb, hml, hown, hts⟩ (c_X6_init q_md H.size) (cwI 0 hts gL_law_X6_init rfl rfl rfl (hts _ m_L_in6) (hts _ m_L_ml6) (hts _ m_L_im6) rfl (by decide +kernel) ⟨Nat.le_of_ble_eq_true rfl, Nat.le_of_ble_eq_true rfl⟩) (zPw_S (As := [.ref q_md]) hZ hPc (hDc.weaken (fun _ _ _ _ => trivial))) rfl rfl hl.1 rfl (lv_room (Nat.le_of_ble_eq_true rfl)) dL_law_12 ⟨Nat.le_of_ble_eq_true rfl, Nat.le_of_ble_eq_true rfl⟩) hS (fun q _ h => hFc q h) hFc (fun zu zt H1 locs1 ht hvm hq hB hz1 hk1 hS => ?_)
  obtain ⟨q_mt, q_mb, q_ml, q_mr, q_lo, q_dp, q_sh, q_fd⟩ := zu
  obtain ⟨hP1, hD1⟩ := hB
  rw [ht] at hP1
  obtain ⟨hP, hD⟩ := va_join (wr := [(q_x, .inr (5, [.ref q_nt, .ref q_rw, .ref q_rv, .ref q_hd, .ref q_lk, .ref q_rg])), (q_nt, .inr (2, [.ref q_en, .ref q_ba, .ref q_de, .int (nI 3), .int (nI (prs tF))])), (q_en, .inl (cI, 32, .inl (aE tF))), (q_ba, .inl (cZ, 32, .inl (aB wF))), (q_de, .inl (cI, 8, .inl (aN (dg tF)))), (q_rw, .inr (4, [.ref q_nm, .int (nI 0)])), (q_nm, .inl (cI, 40, .inl (aN zrF))), (q_rv, .inr (4, [.ref q_nv, .int (nI 0)])), (q_nv, .inl (cI, 40, .inl (aN zrF))), (q_hd, .inr (0, [.ref q_nt])), (q_lk, .inr (1, [.ref q_nt, .ref q_kn, .ref q_fi, .int (nI 0)])), (q_kn, .inl (cI, 8, .inl (aN zrF))), (q_fi, .inl (cI, 8, .inl (aN zrF))), (q_rg, .inr (3, [.ref q_le, .ref q_fo])), (q_le, .inl (cI, 5, .inl z0I)), (q_fo, .inl (cI, 5, .inl z0I))]) (w1 := [(q_md, .inr (6, [.int (nI 3), .ref q_mt, .ref q_mb, .ref q_ml, .ref q_mr, .int (nI 0), .int (nI 0), .ref q_lo, .ref q_dp, .int (nI 0), .ref q_sh, .ref q_fd])), (q_mt, .inl (cI, 32, .inl (aT tF))), (q_mb, .inl (cZ, 32, .inl (aB wF))), (q_ml, .inl (cI, 2, .inl (aN (lnF 0 0)))), (q_mr, .inl (cI, 80, .inl (aN (rwF zrF zrF)))), (q_lo, .inl (cI, 8, .inl z0I)), (q_dp, .inl (cI, 8, .inl z0I)), (q_sh, .inl (cI, 5, .inl (aN zrF))), (q_fd, .inl (cI, 5, .inl (aN zrF)))]) hP hD [16] [0, 1, 2, 3, 4, 5, 6, 7, 8, 9, 10, 11, 12, 13, 14, 15] rfl rfl (by decide) (by decide) hk1 hFc hP1 hD1
  have hP : va_P D vwCl [(q_x, .inr (5, [.ref q_nt, .ref q_rw, .ref q_rv, .ref q_hd, .ref q_lk, .ref q_rg])), (q_nt, .inr (2, [.ref q_en, .ref q_ba, .ref q_de, .int (nI 3), .int (nI (prs tF))])), (q_en, .inl (cI, 32, .inl (aE tF))), (q_ba, .inl (cZ, 32, .inl (aB wF))), (q_de, .inl (cI, 8, .inl (aN (dg tF)))), (q_rw, .inr (4, [.ref q_nm, .int (nI 0)])), (q_nm, .inl (cI, 40, .inl (aN zrF))), (q_rv, .inr (4, [.ref q_nv, .int (nI 0)])), (q_nv, .inl (cI, 40, .inl (aN zrF))), (q_hd, .inr (0, [.ref q_nt])), (q_lk, .inr (1, [.ref q_nt, .ref q_kn, .ref q_fi, .int (nI 0)])), (q_kn, .inl (cI, 8, .inl (aN zrF))), (q_fi, .inl (cI, 8, .inl (aN zrF))), (q_rg, .inr (3, [.ref q_le, .ref q_fo])), (q_le, .inl (cI, 5, .inl z0I)), (q_fo, .inl (cI, 5, .inl z0I)), (q_md, .inr (6, [.int (nI 3), .ref q_mt, .ref q_mb, .ref q_ml, .ref q_mr, .int (nI 0), .int (nI 0), .ref q_lo, .ref q_dp, .int (nI 0), .ref q_sh, .ref q_fd])), (q_mt, .inl (cI, 32, .inl (aT tF))), (q_mb, .inl (cZ, 32, .inl (aB wF))), (q_ml, .inl (cI, 2, .inl (aN (lnF 0 0)))), (q_mr, .inl (cI, 80, .inl (aN (rwF zrF zrF)))), (q_lo, .inl (cI, 8, .inl z0I)), (q_dp, .inl (cI, 8, .inl z0I)), (q_sh, .inl (cI, 5, .inl (aN zrF))), (q_fd, .inl (cI, 5, .inl (aN zrF)))] H1 := hP
  have hD : va_D A [(q_x, .inr (5, [.ref q_nt, .ref q_rw, .ref q_rv, .ref q_hd, .ref q_lk, .ref q_rg])), (q_nt, .inr (2, [.ref q_en, .ref q_ba, .ref q_de, .int (nI 3), .int (nI (prs tF))])), (q_en, .inl (cI, 32, .inl (aE tF))), (q_ba, .inl (cZ, 32, .inl (aB wF))), (q_de, .inl (cI, 8, .inl (aN (dg tF)))), (q_rw, .inr (4, [.ref q_nm, .int (nI 0)])), (q_nm, .inl (cI, 40, .inl (aN zrF))), (q_rv, .inr (4, [.ref q_nv, .int (nI 0)])), (q_nv, .inl (cI, 40, .inl (aN zrF))), (q_hd, .inr (0, [.ref q_nt])), (q_lk, .inr (1, [.ref q_nt, .ref q_kn, .ref q_fi, .int (nI 0)])), (q_kn, .inl (cI, 8, .inl (aN zrF))), (q_fi, .inl (cI, 8, .inl (aN zrF))), (q_rg, .inr (3, [.ref q_le, .ref q_fo])), (q_le, .inl (cI, 5, .inl z0I)), (q_fo, .inl (cI, 5, .inl z0I)), (q_md, .inr (6, [.int (nI 3), .ref q_mt, .ref q_mb, .ref q_ml, .ref q_mr, .int (nI 0), .int (nI 0), .ref q_lo, .ref q_dp, .int (nI 0), .ref q_sh, .ref q_fd])), (q_mt, .inl (cI, 32, .inl (aT tF))), (q_mb, .inl (cZ, 32, .inl (aB wF))), (q_ml, .inl (cI, 2, .inl (aN (lnF 0 0)))), (q_mr, .inl (cI, 80, .inl (aN (rwF zrF zrF)))), (q_lo, .inl (cI, 8, .inl z0I)), (q_dp, .inl (cI, 8, .inl z0I)), (q_sh, .inl (cI, 5, .inl (aN zrF))), (q_fd, .inl (cI, 5, .inl (aN zrF)))] := hD
  clear hP1 hD1 hk1 hz1 hFc hDc hPc ht hvm
  refine W.widen (k := 25) (n := 384) (Nat.le_of_ble_eq_true rfl) (Nat.le_of_ble_eq_true rfl) ?_
  refine lv_astore_n (lv' := [(2, .ref q_md), (1, .ref q_x), (0, .ref b)]) hx hb dL_law_15 rfl hl (by decide) rfl (fun ls hl => ?_)
  refine lv_iconst (v := nI 0) hx hb dL_law_16 (by decide +kernel) ?_
  refine lv_istore_n (lv' := [(3, .int (nI 0)), (2, .ref q_md), (1, .ref q_x), (0, .ref b)]) hx hb dL_law_17 rfl hl (by decide) rfl (fun ls hl => ?_)
  have hP9 := hP.sub (ws' := [(q_x, .inr (5, [.ref q_nt, .ref q_rw, .ref q_rv, .ref q_hd, .ref q_lk, .ref q_rg])), (q_nt, .inr (2, [.ref q_en, .ref q_ba, .ref q_de, .int (nI 3), .int (nI (prs tF))])), (q_en, .inl (cI, 32, .inl (aE tF))), (q_ba, .inl (cZ, 32, .inl (aB wF))), (q_de, .inl (cI, 8, .inl (aN (dg tF)))), (q_rw, .inr (4, [.ref q_nm, .int (nI 0)])), (q_nm, .inl (cI, 40, .inl (aN zrF))), (q_rv, .inr (4, [.ref q_nv, .int (nI 0)])), (q_nv, .inl (cI, 40, .inl (aN zrF))), (q_hd, .inr (0, [.ref q_nt])), (q_lk, .inr (1, [.ref q_nt, .ref q_kn, .ref q_fi, .int (nI 0)])), (q_kn, .inl (cI, 8, .inl (aN zrF))), (q_fi, .inl (cI, 8, .inl (aN zrF))), (q_rg, .inr (3, [.ref q_le, .ref q_fo])), (q_le, .inl (cI, 5, .inl (z0I))), (q_fo, .inl (cI, 5, .inl (z0I))), (q_md, .inr (6, [.int (nI 3), .ref q_mt, .ref q_mb, .ref q_ml, .ref q_mr, .int (nI 0), .int (nI 0), .ref q_lo, .ref q_dp, .int (nI 0), .ref q_sh, .ref q_fd])), (q_mt, .inl (cI, 32, .inl (aT tF))), (q_mb, .inl (cZ, 32, .inl (aB wF))), (q_ml, .inl (cI, 2, .inl (aN (lnF 0 0)))), (q_mr, .inl (cI, 80, .inl (aN (rwF zrF zrF)))), (q_lo, .inl (cI, 8, .inl (z0I))), (q_dp, .inl (cI, 8, .inl (z0I))), (q_sh, .inl (cI, 5, .inl (aN zrF))), (q_fd, .inl (cI, 5, .inl (aN zrF)))]) [0, 1, 2, 3, 4, 5, 6, 7, 8, 9, 10, 11, 12, 13, 14, 15, 16, 17, 18, 19, 20, 21, 22, 23, 24] rfl
  have hD9 := hD.sub (ws' := [(q_x, .inr (5, [.ref q_nt, .ref q_rw, .ref q_rv, .ref q_hd, .ref q_lk, .ref q_rg])), (q_nt, .inr (2, [.ref q_en, .ref q_ba, .ref q_de, .int (nI 3), .int (nI (prs tF))])), (q_en, .inl (cI, 32, .inl (aE tF))), (q_ba, .inl (cZ, 32, .inl (aB wF))), (q_de, .inl (cI, 8, .inl (aN (dg tF)))), (q_rw, .inr (4, [.ref q_nm, .int (nI 0)])), (q_nm, .inl (cI, 40, .inl (aN zrF))), (q_rv, .inr (4, [.ref q_nv, .int (nI 0)])), (q_nv, .inl (cI, 40, .inl (aN zrF))), (q_hd, .inr (0, [.ref q_nt])), (q_lk, .inr (1, [.ref q_nt, .ref q_kn, .ref q_fi, .int (nI 0)])), (q_kn, .inl (cI, 8, .inl (aN zrF))), (q_fi, .inl (cI, 8, .inl (aN zrF))), (q_rg, .inr (3, [.ref q_le, .ref q_fo])), (q_le, .inl (cI, 5, .inl (z0I))), (q_fo, .inl (cI, 5, .inl (z0I))), (q_md, .inr (6, [.int (nI 3), .ref q_mt, .ref q_mb, .ref q_ml, .ref q_mr, .int (nI 0), .int (nI 0), .ref q_lo, .ref q_dp, .int (nI 0), .ref q_sh, .ref q_fd])), (q_mt, .inl (cI, 32, .inl (aT tF))), (q_mb, .inl (cZ, 32, .inl (aB wF))), (q_ml, .inl (cI, 2, .inl (aN (lnF 0 0)))), (q_mr, .inl (cI, 80, .inl (aN (rwF zrF zrF)))), (q_lo, .inl (cI, 8, .inl (z0I))), (q_dp, .inl (cI, 8, .inl (z0I))), (q_sh, .inl (cI, 5, .inl (aN zrF))), (q_fd, .inl (cI, 5, .inl (aN zrF)))]) [0, 1, 2, 3, 4, 5, 6, 7, 8, 9, 10, 11, 12, 13, 14, 15, 16, 17, 18, 19, 20, 21, 22, 23, 24] (by decide) rfl
  exact lw_loop (xs := xs) ⟨hx, hb, hml, hown, hts, hX, hbl, hZ, hbA, hA, hL⟩ hr hlocks hAs (L + 1) 0 (by omega) (Nat.zero_le _) 3 tF wF zrF 0 zrF 0 zrF zrF 0 z0I z0I 0 0 z0I z0I 0 zrF zrF _ _ z_n3 z_r0 z_r0 (fun s _ _ => Or.inl rfl) (fun s _ _ => Or.inl rfl) hP9 hD9 hS ls (lv_sub hl [3, 2, 1, 0] rfl)
