/-! ===== by program (wip/whole/ctor.py): the constructors ===== -/
def z0I : Nat → Int32 := fun _ => 0
def zrF : Nat → Nat := fun _ => 0
theorem z_ln0 : ∀ i, aN (lnF 0 0) i = 0 := fun i => by
  unfold aN lnF
  split <;> rfl
theorem z_rw0 : ∀ i, aN (rwF zrF zrF) i = 0 := fun i => by
  unfold aN rwF
  split <;> rfl
section ZN
variable {p : Program} {l : Launch} {e : Env} {R : Room} {s : State} {m : MethodId} {args : Array Value} {below : List Frame} {meth : Method} {c : Code} {H : Heap} {locs : List Loc} {cells slots : Nat} {Q : State → Prop}
variable {cc : ByteArray} {pc : Nat} {ls : Array Slot} {rest : List Value} {D : va_G} {A : Nat → Prop} {cI cZ : ClassId} {ws : va_W} {H0 : Heap}
theorem z_newi (hx : p.tables.exec = Jvm.exec) (hb : c.code = cc) (harr : (Cond.arrayClass .int).before args s = true) (hZ : zK D cI cZ s) (hP : va_P D vwCl ws H) (hD : va_D A ws) (hS : va_S A H0 H locs) (hA : ∀ q, H0.size ≤ q → A q) {n : Nat} {f : Nat → Int32} (hf : ∀ i, f i = 0) (hn : n < 1000) (hcells : cells + 1 ≤ R.cells) (hslots : slots + n ≤ R.slots) (hdg : decode cc pc = .ok (.newarray .int, 2))
    (kk : ∀ (q : Nat) (H1 : Heap), va_P D vwCl (ws ++ [(q, .inl (cI, n, .inl f))]) H1 → va_D A (ws ++ [(q, .inl (cI, n, .inl f))]) → va_S A H0 H1 locs → W p l e R s m args below meth c H1 locs (cells + 1) (slots + n) Q (F0 m (pc + 2) ls (.ref q :: rest))) : W p l e R s m args below meth c H locs cells slots Q (F0 m pc ls (.int (nI n) :: rest)) := by
  obtain rfl : f = fun _ => 0 := funext hf
  refine va_newa (atype := .int) (ty := .int) hx hb harr rfl hZ.1 hP hD hS hA (a0 := (n, .inl (fun _ => 0))) (fun cA => by rw [vp_cell_i]; rfl) (nI_pos (by omega)) (nI_clamp (by omega)) (by show n * 4 ≤ 536870912; omega) hcells hslots hdg (fun q cA H1 hK1 hP1 hD1 hS1 => ?_)
  have e1 : s.vm.findClass ("[" ++ FieldType.int.toString) = some cA := (hK1.2 2 _ rfl).2
  have e2 : s.vm.findClass ("[" ++ FieldType.int.toString) = some cI := (hZ.1.2 0 _ rfl).2
  have e : cA = cI := Option.some.inj (e1.symm.trans e2)
  rw [e] at hP1 hD1
  exact kk q H1 hP1 hD1 hS1
theorem z_newz (hx : p.tables.exec = Jvm.exec) (hb : c.code = cc) (harr : (Cond.arrayClass .boolean).before args s = true) (hZ : zK D cI cZ s) (hP : va_P D vwCl ws H) (hD : va_D A ws) (hS : va_S A H0 H locs) (hA : ∀ q, H0.size ≤ q → A q) {n : Nat} {f : Nat → Int32} (hf : ∀ i, f i = 0) (hn : n < 1000) (hcells : cells + 1 ≤ R.cells) (hslots : slots + n ≤ R.slots) (hdg : decode cc pc = .ok (.newarray .boolean, 2))
    (kk : ∀ (q : Nat) (H1 : Heap), va_P D vwCl (ws ++ [(q, .inl (cZ, n, .inl f))]) H1 → va_D A (ws ++ [(q, .inl (cZ, n, .inl f))]) → va_S A H0 H1 locs → W p l e R s m args below meth c H1 locs (cells + 1) (slots + n) Q (F0 m (pc + 2) ls (.ref q :: rest))) : W p l e R s m args below meth c H locs cells slots Q (F0 m pc ls (.int (nI n) :: rest)) := by
  obtain rfl : f = fun _ => 0 := funext hf
  refine va_newa (atype := .boolean) (ty := .boolean) hx hb harr rfl hZ.1 hP hD hS hA (a0 := (n, .inl (fun _ => 0))) (fun cA => by rw [vp_cell_i]; rfl) (nI_pos (by omega)) (nI_clamp (by omega)) (by show n * 1 ≤ 536870912; omega) hcells hslots hdg (fun q cA H1 hK1 hP1 hD1 hS1 => ?_)
  have e1 : s.vm.findClass ("[" ++ FieldType.boolean.toString) = some cA := (hK1.2 2 _ rfl).2
  have e2 : s.vm.findClass ("[" ++ FieldType.boolean.toString) = some cZ := (hZ.1.2 1 _ rfl).2
  have e : cA = cZ := Option.some.inj (e1.symm.trans e2)
  rw [e] at hP1 hD1
  exact kk q H1 hP1 hD1 hS1
end ZN
theorem m_X2_init_oc : Cond.code objectInit ⟨#[0xb1]⟩ 1 none ∈ wsX2_init := by decide +kernel
theorem m_X2_init_ol : Cond.methodLink RX2 3 objectInit ∈ wsX2_init := by decide +kernel
theorem m_X2_init_oi : Cond.instanceMethod objectInit ∈ wsX2_init := by decide +kernel
theorem m_X2_init_aint : Cond.arrayClass .int ∈ wsX2_init := by decide +kernel
theorem m_X2_init_f9 : Cond.fieldLink RX2 9 "NetWalkers$Net" "ends" "[I" ∈ wsX2_init := by decide +kernel
theorem i_X2_init_X2 : ∀ w ∈ wsX20, w ∈ wsX2_init := by decide +kernel
theorem m_X2_init_aboolean : Cond.arrayClass .boolean ∈ wsX2_init := by decide +kernel
theorem m_X2_init_f15 : Cond.fieldLink RX2 15 "NetWalkers$Net" "bads" "[Z" ∈ wsX2_init := by decide +kernel
theorem m_X2_init_f19 : Cond.fieldLink RX2 19 "NetWalkers$Net" "degrees" "[I" ∈ wsX2_init := by decide +kernel
def K_X2_init (l : Launch) (D : va_G) (cI cZ : ClassId) : Prop := ∀ (q_nt : Nat) (sz : Nat), Met l yX2_init wsX2_init ({ frames := 2, cells := 3, slots := 72, locals := 44 } : Room) (zPw D cI cZ sz [.ref q_nt] [(q_nt, .inr (2, [.null, .null, .null, .int (nI 0), .int (nI 0)]))]) (va_Qv (S := Nat × Nat × Nat) (fun zu => True) (fun (zu : Nat × Nat × Nat) zt => va_P D vwCl [(q_nt, .inr (2, [.ref zu.1, .ref zu.2.1, .ref zu.2.2, .int (nI 3), .int (nI (prs tF))])), (zu.1, .inl (cI, 32, .inl (aE tF))), (zu.2.1, .inl (cZ, 32, .inl (aB wF))), (zu.2.2, .inl (cI, 8, .inl (aN (dg tF))))] zt.heap ∧ va_D (va_A [(q_nt, .inr (2, [.null, .null, .null, .int (nI 0), .int (nI 0)]))] sz) [(q_nt, .inr (2, [.ref zu.1, .ref zu.2.1, .ref zu.2.2, .int (nI 3), .int (nI (prs tF))])), (zu.1, .inl (cI, 32, .inl (aE tF))), (zu.2.1, .inl (cZ, 32, .inl (aB wF))), (zu.2.2, .inl (cI, 8, .inl (aN (dg tF))))]) (va_A [(q_nt, .inr (2, [.null, .null, .null, .int (nI 0), .int (nI 0)]))] sz)) 3 72 (va_A [(q_nt, .inr (2, [.null, .null, .null, .int (nI 0), .int (nI 0)]))] sz)
set_option maxRecDepth 100000 in
set_option maxHeartbeats 4000000 in
theorem w_X2_init {l : Launch} {D : va_G} {cI cZ : ClassId}  : K_X2_init l D cI cZ := by
  intro q_nt sz
  refine Met.ofW (cc := cX2_init) (maxL := 1) (ret := none) (by decide) rfl ?_
  intro zp ze zs zm zargs zbelow zmeth zc zs1 B hml hv
  obtain ⟨rfl, hsz, hZ, hP, hD0⟩ := hv
  have hx := B.exec
  have hb := B.bytes
  have hr := B.returns
  have hts := atoms_spec (ws := wsX2_init) B.pre
  have hown : zs.vm.findClass RX2 = some zm.cls := findClass_of_methodNamed B.named
  have hlocks := B.notSynchronized
  have hin : zmeth.name = "<init>" := (name_of_methodNamed B.named B.method).1
  subst hsz
  have hD := hD0.self (sz := zs.heap.size)
  generalize hAe : va_A [(q_nt, .inr (2, [.null, .null, .null, .int (nI 0), .int (nI 0)]))] zs.heap.size = A at hD ⊢
  have hA : ∀ q : Nat, zs.heap.size ≤ q → A q := fun q h => by rw [← hAe]; exact Or.inr h
  have hS : va_S A zs.heap zs.heap [] := va_S.rf
  have hP : va_P D vwCl [(q_nt, .inr (2, [.null, .null, .null, .int (nI 0), .int (nI 0)]))] zs.heap := hP
  have hl := lv_entry ([.ref q_nt]) (n := 1) (Nat.le_of_ble_eq_true rfl)
  rw [lg_entry_eq]
  generalize (lg_sl ([.ref q_nt]) ++ List.replicate (1 - (lg_sl ([.ref q_nt])).length) Slot.unset).toArray = ls at hl ⊢
  have hl : lv_has ls 1 [(0, .ref q_nt)] := hl
  refine lv_aload_n hx hb dX2_init_0 rfl (lv_at hl 0 rfl) ?_
  refine W.objInit hx hb hown (hts _ m_X2_init_ol) (hts _ m_X2_init_oi) (hts _ m_X2_init_oc) rfl (by rw [hml]; exact hl.1) rfl dX2_init_1 (Nat.le_of_ble_eq_true rfl) (Nat.le_of_ble_eq_true rfl) ?_
  refine W.eq (g2 := F0 zm 4 ls []) rfl ?_
  refine lv_aload_n hx hb dX2_init_4 rfl (lv_at hl 0 rfl) ?_
  refine lv_bipush (v := nI 32) hx hb dX2_init_5 (by decide +kernel) ?_
  refine z_newi (n := 32) (f := z0I) hx hb (hts _ m_X2_init_aint) hZ hP hD hS hA (fun _ => rfl) (by decide) (Nat.le_of_ble_eq_true rfl) (Nat.le_of_ble_eq_true rfl) dX2_init_7 (fun q_en H hP hD hS => ?_)
  have hP : va_P D vwCl [(q_nt, .inr (2, [.null, .null, .null, .int (nI 0), .int (nI 0)])), (q_en, .inl (cI, 32, .inl z0I))] H := hP
  have hD : va_D A [(q_nt, .inr (2, [.null, .null, .null, .int (nI 0), .int (nI 0)])), (q_en, .inl (cI, 32, .inl z0I))] := hD
  refine W.widen (k := 1) (n := 32) (Nat.le_of_ble_eq_true rfl) (Nat.le_of_ble_eq_true rfl) ?_
  refine va_putF (D := D) (ci := 2) (v := .ref q_en) (ty := .array .int) (C := RX2) (T := TX2) (N := 5) hx hb hts i_X2_init_X2 tyX2 tyX2_ok nmX2 hown hZ.1 hP hD hS 0 rfl rfl 0 (by decide) (hts _ m_X2_init_f9) (fun _ h9 => h9) rfl hin rfl (by decide +kernel) rfl rfl (Nat.le_of_ble_eq_true rfl) dX2_init_9 (fun H locs hP hD hS => ?_)
  have hP : va_P D vwCl [(q_nt, .inr (2, [.ref q_en, .null, .null, .int (nI 0), .int (nI 0)])), (q_en, .inl (cI, 32, .inl z0I))] H := hP
  have hD : va_D A [(q_nt, .inr (2, [.ref q_en, .null, .null, .int (nI 0), .int (nI 0)])), (q_en, .inl (cI, 32, .inl z0I))] := hD
  refine lv_aload_n hx hb dX2_init_12 rfl (lv_at hl 0 rfl) ?_
  refine lv_bipush (v := nI 32) hx hb dX2_init_13 (by decide +kernel) ?_
  refine z_newz (n := 32) (f := (aB wF)) hx hb (hts _ m_X2_init_aboolean) hZ hP hD hS hA (fun _ => rfl) (by decide) (Nat.le_of_ble_eq_true rfl) (Nat.le_of_ble_eq_true rfl) dX2_init_15 (fun q_ba H hP hD hS => ?_)
  have hP : va_P D vwCl [(q_nt, .inr (2, [.ref q_en, .null, .null, .int (nI 0), .int (nI 0)])), (q_en, .inl (cI, 32, .inl z0I)), (q_ba, .inl (cZ, 32, .inl (aB wF)))] H := hP
  have hD : va_D A [(q_nt, .inr (2, [.ref q_en, .null, .null, .int (nI 0), .int (nI 0)])), (q_en, .inl (cI, 32, .inl z0I)), (q_ba, .inl (cZ, 32, .inl (aB wF)))] := hD
  refine W.widen (k := 2) (n := 64) (Nat.le_of_ble_eq_true rfl) (Nat.le_of_ble_eq_true rfl) ?_
  refine va_putF (D := D) (ci := 2) (v := .ref q_ba) (ty := .array .boolean) (C := RX2) (T := TX2) (N := 5) hx hb hts i_X2_init_X2 tyX2 tyX2_ok nmX2 hown hZ.1 hP hD hS 0 rfl rfl 1 (by decide) (hts _ m_X2_init_f15) (fun _ h9 => h9) rfl hin rfl (by decide +kernel) rfl rfl (Nat.le_of_ble_eq_true rfl) dX2_init_17 (fun H locs hP hD hS => ?_)
  have hP : va_P D vwCl [(q_nt, .inr (2, [.ref q_en, .ref q_ba, .null, .int (nI 0), .int (nI 0)])), (q_en, .inl (cI, 32, .inl z0I)), (q_ba, .inl (cZ, 32, .inl (aB wF)))] H := hP
  have hD : va_D A [(q_nt, .inr (2, [.ref q_en, .ref q_ba, .null, .int (nI 0), .int (nI 0)])), (q_en, .inl (cI, 32, .inl z0I)), (q_ba, .inl (cZ, 32, .inl (aB wF)))] := hD
  refine lv_aload_n hx hb dX2_init_20 rfl (lv_at hl 0 rfl) ?_
  refine lv_bipush (v := nI 8) hx hb dX2_init_21 (by decide +kernel) ?_
  refine z_newi (n := 8) (f := z0I) hx hb (hts _ m_X2_init_aint) hZ hP hD hS hA (fun _ => rfl) (by decide) (Nat.le_of_ble_eq_true rfl) (Nat.le_of_ble_eq_true rfl) dX2_init_23 (fun q_de H hP hD hS => ?_)
  have hP : va_P D vwCl [(q_nt, .inr (2, [.ref q_en, .ref q_ba, .null, .int (nI 0), .int (nI 0)])), (q_en, .inl (cI, 32, .inl z0I)), (q_ba, .inl (cZ, 32, .inl (aB wF))), (q_de, .inl (cI, 8, .inl z0I))] H := hP
  have hD : va_D A [(q_nt, .inr (2, [.ref q_en, .ref q_ba, .null, .int (nI 0), .int (nI 0)])), (q_en, .inl (cI, 32, .inl z0I)), (q_ba, .inl (cZ, 32, .inl (aB wF))), (q_de, .inl (cI, 8, .inl z0I))] := hD
  refine W.widen (k := 3) (n := 72) (Nat.le_of_ble_eq_true rfl) (Nat.le_of_ble_eq_true rfl) ?_
  refine va_putF (D := D) (ci := 2) (v := .ref q_de) (ty := .array .int) (C := RX2) (T := TX2) (N := 5) hx hb hts i_X2_init_X2 tyX2 tyX2_ok nmX2 hown hZ.1 hP hD hS 0 rfl rfl 2 (by decide) (hts _ m_X2_init_f19) (fun _ h9 => h9) rfl hin rfl (by decide +kernel) rfl rfl (Nat.le_of_ble_eq_true rfl) dX2_init_25 (fun H locs hP hD hS => ?_)
  have hP : va_P D vwCl [(q_nt, .inr (2, [.ref q_en, .ref q_ba, .ref q_de, .int (nI 0), .int (nI 0)])), (q_en, .inl (cI, 32, .inl z0I)), (q_ba, .inl (cZ, 32, .inl (aB wF))), (q_de, .inl (cI, 8, .inl z0I))] H := hP
  have hD : va_D A [(q_nt, .inr (2, [.ref q_en, .ref q_ba, .ref q_de, .int (nI 0), .int (nI 0)])), (q_en, .inl (cI, 32, .inl z0I)), (q_ba, .inl (cZ, 32, .inl (aB wF))), (q_de, .inl (cI, 8, .inl z0I))] := hD
  refine lv_aload_n hx hb dX2_init_28 rfl (lv_at hl 0 rfl) ?_
  refine lv_iconst (v := nI 3) hx hb dX2_init_29 (by decide +kernel) ?_
  have hPc : va_P D vwCl [(q_nt, .inr (2, [.ref q_en, .ref q_ba, .ref q_de, .int (nI 0), .int (nI 0)])), (q_en, .inl (cI, 32, .inl z0I)), (q_ba, .inl (cZ, 32, .inl (aB wF))), (q_de, .inl (cI, 8, .inl z0I))] H := hP.sub [0, 1, 2, 3] rfl
  have hDc : va_D A [(q_nt, .inr (2, [.ref q_en, .ref q_ba, .ref q_de, .int (nI 0), .int (nI 0)])), (q_en, .inl (cI, 32, .inl z0I)), (q_ba, .inl (cZ, 32, .inl (aB wF))), (q_de, .inl (cI, 8, .inl z0I))] := hD.sub [0, 1, 2, 3] (by decide) rfl
  have hFc := va_free (wc := [(q_nt, .inr (2, [.ref q_en, .ref q_ba, .ref q_de, .int (nI 0), .int (nI 0)])), (q_en, .inl (cI, 32, .inl z0I)), (q_ba, .inl (cZ, 32, .inl (aB wF))), (q_de, .inl (cI, 8, .inl z0I))]) hD hS hA [0, 1, 2, 3] rfl
  refine va_callv (va_runV (As := [.int (nI 3)]) (rest := []) ⟨hx, hb, hml, hown, hts⟩ (c_X2_begin q_nt q_en q_ba q_de H.size z0I wF z0I (nI 0) (nI 0) 3) (cwV 1 hts gX2_init_X2_begin rfl rfl rfl (by decide +kernel) ⟨Nat.le_of_ble_eq_true rfl, Nat.le_of_ble_eq_true rfl⟩) (zPw_V hZ hPc (hDc.weaken (fun _ _ _ _ => trivial)) 0 rfl rfl) rfl rfl hl.1 rfl (lv_room (Nat.le_of_ble_eq_true rfl)) dX2_init_30 ⟨Nat.le_of_ble_eq_true rfl, Nat.le_of_ble_eq_true rfl⟩) hS (fun q _ h => hFc q h) hFc (fun zu zt H1 locs1 ht hvm hq hB hz1 hk1 hS => ?_)
  obtain ⟨hP1, hD1⟩ := hB
  rw [ht] at hP1
  obtain ⟨hP, hD⟩ := va_join (wr := []) (w1 := [(q_nt, .inr (2, [.ref q_en, .ref q_ba, .ref q_de, .int (nI 3), .int (nI (prs tF))])), (q_en, .inl (cI, 32, .inl (aE tF))), (q_ba, .inl (cZ, 32, .inl (aB wF))), (q_de, .inl (cI, 8, .inl (aN (dg tF))))]) hP hD [0, 1, 2, 3] [] rfl rfl (by decide) (by decide) hk1 hFc hP1 hD1
  have hP : va_P D vwCl [(q_nt, .inr (2, [.ref q_en, .ref q_ba, .ref q_de, .int (nI 3), .int (nI (prs tF))])), (q_en, .inl (cI, 32, .inl (aE tF))), (q_ba, .inl (cZ, 32, .inl (aB wF))), (q_de, .inl (cI, 8, .inl (aN (dg tF))))] H1 := hP
  have hD : va_D A [(q_nt, .inr (2, [.ref q_en, .ref q_ba, .ref q_de, .int (nI 3), .int (nI (prs tF))])), (q_en, .inl (cI, 32, .inl (aE tF))), (q_ba, .inl (cZ, 32, .inl (aB wF))), (q_de, .inl (cI, 8, .inl (aN (dg tF))))] := hD
  clear hP1 hD1 hk1 hz1 hFc hDc hPc ht hvm
  refine W.widen (k := 3) (n := 72) (Nat.le_of_ble_eq_true rfl) (Nat.le_of_ble_eq_true rfl) ?_
  have hP9 : va_P D vwCl [(q_nt, .inr (2, [.ref q_en, .ref q_ba, .ref q_de, .int (nI 3), .int (nI (prs tF))])), (q_en, .inl (cI, 32, .inl (aE tF))), (q_ba, .inl (cZ, 32, .inl (aB wF))), (q_de, .inl (cI, 8, .inl (aN (dg tF))))] H1 := hP.sub [0, 1, 2, 3] rfl
  have hD9 : va_D A [(q_nt, .inr (2, [.ref q_en, .ref q_ba, .ref q_de, .int (nI 3), .int (nI (prs tF))])), (q_en, .inl (cI, 32, .inl (aE tF))), (q_ba, .inl (cZ, 32, .inl (aB wF))), (q_de, .inl (cI, 8, .inl (aN (dg tF))))] := hD.sub [0, 1, 2, 3] (by decide) rfl
  exact W.vret hx hb hr (fun t ht hW => ⟨⟨(q_en, q_ba, q_de), rfl, trivial, by rw [ht]; exact hP9, hD9⟩, hS.F ht⟩) hS.2.2 dX2_init_33
theorem c_X2_init {l : Launch} {D : va_G} {cI cZ : ClassId} : K_X2_init l D cI cZ := w_X2_init
theorem m_X4_init_oc : Cond.code objectInit ⟨#[0xb1]⟩ 1 none ∈ wsX4_init := by decide +kernel
theorem m_X4_init_ol : Cond.methodLink RX4 3 objectInit ∈ wsX4_init := by decide +kernel
theorem m_X4_init_oi : Cond.instanceMethod objectInit ∈ wsX4_init := by decide +kernel
theorem m_X4_init_aint : Cond.arrayClass .int ∈ wsX4_init := by decide +kernel
theorem m_X4_init_f9 : Cond.fieldLink RX4 9 "NetWalkers$Row" "numbers" "[I" ∈ wsX4_init := by decide +kernel
theorem i_X4_init_X4 : ∀ w ∈ wsX40, w ∈ wsX4_init := by decide +kernel
theorem m_X4_init_f15 : Cond.fieldLink RX4 15 "NetWalkers$Row" "length" "I" ∈ wsX4_init := by decide +kernel
def K_X4_init (l : Launch) (D : va_G) (cI cZ : ClassId) : Prop := ∀ (q_rw : Nat) (sz : Nat), Met l yX4_init wsX4_init ({ frames := 1, cells := 1, slots := 40, locals := 12 } : Room) (zPw D cI cZ sz [.ref q_rw] [(q_rw, .inr (4, [.null, .int (nI 0)]))]) (va_Qv (S := Nat) (fun zu => True) (fun (zu : Nat) zt => va_P D vwCl [(q_rw, .inr (4, [.ref zu, .int (nI 0)])), (zu, .inl (cI, 40, .inl (aN zrF)))] zt.heap ∧ va_D (va_A [(q_rw, .inr (4, [.null, .int (nI 0)]))] sz) [(q_rw, .inr (4, [.ref zu, .int (nI 0)])), (zu, .inl (cI, 40, .inl (aN zrF)))]) (va_A [(q_rw, .inr (4, [.null, .int (nI 0)]))] sz)) 1 40 (va_A [(q_rw, .inr (4, [.null, .int (nI 0)]))] sz)
set_option maxRecDepth 100000 in
set_option maxHeartbeats 4000000 in
theorem w_X4_init {l : Launch} {D : va_G} {cI cZ : ClassId}  : K_X4_init l D cI cZ := by
  intro q_rw sz
  refine Met.ofW (cc := cX4_init) (maxL := 1) (ret := none) (by decide) rfl ?_
  intro zp ze zs zm zargs zbelow zmeth zc zs1 B hml hv
  obtain ⟨rfl, hsz, hZ, hP, hD0⟩ := hv
  have hx := B.exec
  have hb := B.bytes
  have hr := B.returns
  have hts := atoms_spec (ws := wsX4_init) B.pre
  have hown : zs.vm.findClass RX4 = some zm.cls := findClass_of_methodNamed B.named
  have hlocks := B.notSynchronized
  have hin : zmeth.name = "<init>" := (name_of_methodNamed B.named B.method).1
  subst hsz
  have hD := hD0.self (sz := zs.heap.size)
  generalize hAe : va_A [(q_rw, .inr (4, [.null, .int (nI 0)]))] zs.heap.size = A at hD ⊢
  have hA : ∀ q : Nat, zs.heap.size ≤ q → A q := fun q h => by rw [← hAe]; exact Or.inr h
  have hS : va_S A zs.heap zs.heap [] := va_S.rf
  have hP : va_P D vwCl [(q_rw, .inr (4, [.null, .int (nI 0)]))] zs.heap := hP
  have hl := lv_entry ([.ref q_rw]) (n := 1) (Nat.le_of_ble_eq_true rfl)
  rw [lg_entry_eq]
  generalize (lg_sl ([.ref q_rw]) ++ List.replicate (1 - (lg_sl ([.ref q_rw])).length) Slot.unset).toArray = ls at hl ⊢
  have hl : lv_has ls 1 [(0, .ref q_rw)] := hl
  refine lv_aload_n hx hb dX4_init_0 rfl (lv_at hl 0 rfl) ?_
  refine W.objInit hx hb hown (hts _ m_X4_init_ol) (hts _ m_X4_init_oi) (hts _ m_X4_init_oc) rfl (by rw [hml]; exact hl.1) rfl dX4_init_1 (Nat.le_of_ble_eq_true rfl) (Nat.le_of_ble_eq_true rfl) ?_
  refine W.eq (g2 := F0 zm 4 ls []) rfl ?_
  refine lv_aload_n hx hb dX4_init_4 rfl (lv_at hl 0 rfl) ?_
  refine lv_bipush (v := nI 40) hx hb dX4_init_5 (by decide +kernel) ?_
  refine z_newi (n := 40) (f := (aN zrF)) hx hb (hts _ m_X4_init_aint) hZ hP hD hS hA (fun _ => rfl) (by decide) (Nat.le_of_ble_eq_true rfl) (Nat.le_of_ble_eq_true rfl) dX4_init_7 (fun q_nm H hP hD hS => ?_)
  have hP : va_P D vwCl [(q_rw, .inr (4, [.null, .int (nI 0)])), (q_nm, .inl (cI, 40, .inl (aN zrF)))] H := hP
  have hD : va_D A [(q_rw, .inr (4, [.null, .int (nI 0)])), (q_nm, .inl (cI, 40, .inl (aN zrF)))] := hD
  refine W.widen (k := 1) (n := 40) (Nat.le_of_ble_eq_true rfl) (Nat.le_of_ble_eq_true rfl) ?_
  refine va_putF (D := D) (ci := 4) (v := .ref q_nm) (ty := .array .int) (C := RX4) (T := TX4) (N := 2) hx hb hts i_X4_init_X4 tyX4 tyX4_ok nmX4 hown hZ.1 hP hD hS 0 rfl rfl 0 (by decide) (hts _ m_X4_init_f9) (fun _ h9 => h9) rfl hin rfl (by decide +kernel) rfl rfl (Nat.le_of_ble_eq_true rfl) dX4_init_9 (fun H locs hP hD hS => ?_)
  have hP : va_P D vwCl [(q_rw, .inr (4, [.ref q_nm, .int (nI 0)])), (q_nm, .inl (cI, 40, .inl (aN zrF)))] H := hP
  have hD : va_D A [(q_rw, .inr (4, [.ref q_nm, .int (nI 0)])), (q_nm, .inl (cI, 40, .inl (aN zrF)))] := hD
  refine lv_aload_n hx hb dX4_init_12 rfl (lv_at hl 0 rfl) ?_
  refine lv_iconst (v := nI 0) hx hb dX4_init_13 (by decide +kernel) ?_
  refine va_put (D := D) (ci := 4) (v := .int (nI 0)) (ty := .int) (C := RX4) (T := TX4) (N := 2) hx hb hts i_X4_init_X4 tyX4 tyX4_ok nmX4 hown hZ.1 hP hD hS 0 rfl rfl 1 (by decide) (hts _ m_X4_init_f15) (fun _ h9 => h9) rfl (by decide +kernel) rfl rfl (Nat.le_of_ble_eq_true rfl) dX4_init_14 (fun H locs hP hD hS => ?_)
  have hP : va_P D vwCl [(q_rw, .inr (4, [.ref q_nm, .int (nI 0)])), (q_nm, .inl (cI, 40, .inl (aN zrF)))] H := hP
  have hD : va_D A [(q_rw, .inr (4, [.ref q_nm, .int (nI 0)])), (q_nm, .inl (cI, 40, .inl (aN zrF)))] := hD
  have hP9 : va_P D vwCl [(q_rw, .inr (4, [.ref q_nm, .int (nI 0)])), (q_nm, .inl (cI, 40, .inl (aN zrF)))] H := hP.sub [0, 1] rfl
  have hD9 : va_D A [(q_rw, .inr (4, [.ref q_nm, .int (nI 0)])), (q_nm, .inl (cI, 40, .inl (aN zrF)))] := hD.sub [0, 1] (by decide) rfl
  exact W.vret hx hb hr (fun t ht hW => ⟨⟨(q_nm), rfl, trivial, by rw [ht]; exact hP9, hD9⟩, hS.F ht⟩) hS.2.2 dX4_init_17
theorem c_X4_init {l : Launch} {D : va_G} {cI cZ : ClassId} : K_X4_init l D cI cZ := w_X4_init
theorem m_X0_init_oc : Cond.code objectInit ⟨#[0xb1]⟩ 1 none ∈ wsX0_init := by decide +kernel
theorem m_X0_init_ol : Cond.methodLink RX0 5 objectInit ∈ wsX0_init := by decide +kernel
theorem m_X0_init_oi : Cond.instanceMethod objectInit ∈ wsX0_init := by decide +kernel
theorem m_X0_init_f11 : Cond.fieldLink RX0 11 "NetWalkers$Hands" "net" "LNetWalkers$Net;" ∈ wsX0_init := by decide +kernel
theorem i_X0_init_X0 : ∀ w ∈ wsX00, w ∈ wsX0_init := by decide +kernel
def K_X0_init (l : Launch) (D : va_G) (cI cZ : ClassId) : Prop := ∀ (q_hd q_nt : Nat) (sz : Nat), Met l yX0_init wsX0_init ({ frames := 1, cells := 0, slots := 0, locals := 12 } : Room) (zPw D cI cZ sz [.ref q_hd, .ref q_nt] [(q_hd, .inr (0, [.null]))]) (va_Qv (S := Unit) (fun zu => True) (fun (zu : Unit) zt => va_P D vwCl [(q_hd, .inr (0, [.ref q_nt]))] zt.heap ∧ va_D (va_A [(q_hd, .inr (0, [.null]))] sz) [(q_hd, .inr (0, [.ref q_nt]))]) (va_A [(q_hd, .inr (0, [.null]))] sz)) 0 0 (va_A [(q_hd, .inr (0, [.null]))] sz)
set_option maxRecDepth 100000 in
set_option maxHeartbeats 4000000 in
theorem w_X0_init {l : Launch} {D : va_G} {cI cZ : ClassId}  : K_X0_init l D cI cZ := by
  intro q_hd q_nt sz
  refine Met.ofW (cc := cX0_init) (maxL := 2) (ret := none) (by decide) rfl ?_
  intro zp ze zs zm zargs zbelow zmeth zc zs1 B hml hv
  obtain ⟨rfl, hsz, hZ, hP, hD0⟩ := hv
  have hx := B.exec
  have hb := B.bytes
  have hr := B.returns
  have hts := atoms_spec (ws := wsX0_init) B.pre
  have hown : zs.vm.findClass RX0 = some zm.cls := findClass_of_methodNamed B.named
  have hlocks := B.notSynchronized
  have hin : zmeth.name = "<init>" := (name_of_methodNamed B.named B.method).1
  subst hsz
  have hD := hD0.self (sz := zs.heap.size)
  generalize hAe : va_A [(q_hd, .inr (0, [.null]))] zs.heap.size = A at hD ⊢
  have hA : ∀ q : Nat, zs.heap.size ≤ q → A q := fun q h => by rw [← hAe]; exact Or.inr h
  have hS : va_S A zs.heap zs.heap [] := va_S.rf
  have hP : va_P D vwCl [(q_hd, .inr (0, [.null]))] zs.heap := hP
  have hl := lv_entry ([.ref q_hd, .ref q_nt]) (n := 2) (Nat.le_of_ble_eq_true rfl)
  rw [lg_entry_eq]
  generalize (lg_sl ([.ref q_hd, .ref q_nt]) ++ List.replicate (2 - (lg_sl ([.ref q_hd, .ref q_nt])).length) Slot.unset).toArray = ls at hl ⊢
  have hl : lv_has ls 2 [(0, .ref q_hd), (1, .ref q_nt)] := hl
  refine lv_aload_n hx hb dX0_init_0 rfl (lv_at hl 0 rfl) ?_
  refine W.objInit hx hb hown (hts _ m_X0_init_ol) (hts _ m_X0_init_oi) (hts _ m_X0_init_oc) rfl (by rw [hml]; exact hl.1) rfl dX0_init_1 (Nat.le_of_ble_eq_true rfl) (Nat.le_of_ble_eq_true rfl) ?_
  refine W.eq (g2 := F0 zm 4 ls []) rfl ?_
  refine lv_aload_n hx hb dX0_init_4 rfl (lv_at hl 0 rfl) ?_
  refine lv_aload_n hx hb dX0_init_5 rfl (lv_at hl 1 rfl) ?_
  refine va_putF (D := D) (ci := 0) (v := .ref q_nt) (ty := .object "NetWalkers$Net") (C := RX0) (T := TX0) (N := 1) hx hb hts i_X0_init_X0 tyX0 tyX0_ok nmX0 hown hZ.1 hP hD hS 0 rfl rfl 0 (by decide) (hts _ m_X0_init_f11) (fun _ h9 => h9) rfl hin rfl (by decide +kernel) rfl rfl (Nat.le_of_ble_eq_true rfl) dX0_init_6 (fun H locs hP hD hS => ?_)
  have hP : va_P D vwCl [(q_hd, .inr (0, [.ref q_nt]))] H := hP
  have hD : va_D A [(q_hd, .inr (0, [.ref q_nt]))] := hD
  have hP9 : va_P D vwCl [(q_hd, .inr (0, [.ref q_nt]))] H := hP.sub [0] rfl
  have hD9 : va_D A [(q_hd, .inr (0, [.ref q_nt]))] := hD.sub [0] (by decide) rfl
  exact W.vret hx hb hr (fun t ht hW => ⟨⟨(), rfl, trivial, by rw [ht]; exact hP9, hD9⟩, hS.F ht⟩) hS.2.2 dX0_init_9
theorem c_X0_init {l : Launch} {D : va_G} {cI cZ : ClassId} : K_X0_init l D cI cZ := w_X0_init
theorem m_X1_init_oc : Cond.code objectInit ⟨#[0xb1]⟩ 1 none ∈ wsX1_init := by decide +kernel
theorem m_X1_init_ol : Cond.methodLink RX1 3 objectInit ∈ wsX1_init := by decide +kernel
theorem m_X1_init_oi : Cond.instanceMethod objectInit ∈ wsX1_init := by decide +kernel
theorem m_X1_init_aint : Cond.arrayClass .int ∈ wsX1_init := by decide +kernel
theorem m_X1_init_f9 : Cond.fieldLink RX1 9 "NetWalkers$Looks" "kinds" "[I" ∈ wsX1_init := by decide +kernel
theorem i_X1_init_X1 : ∀ w ∈ wsX10, w ∈ wsX1_init := by decide +kernel
theorem m_X1_init_f15 : Cond.fieldLink RX1 15 "NetWalkers$Looks" "finer" "[I" ∈ wsX1_init := by decide +kernel
theorem m_X1_init_f18 : Cond.fieldLink RX1 18 "NetWalkers$Looks" "net" "LNetWalkers$Net;" ∈ wsX1_init := by decide +kernel
def K_X1_init (l : Launch) (D : va_G) (cI cZ : ClassId) : Prop := ∀ (q_lk q_nt : Nat) (sz : Nat), Met l yX1_init wsX1_init ({ frames := 1, cells := 2, slots := 16, locals := 12 } : Room) (zPw D cI cZ sz [.ref q_lk, .ref q_nt] [(q_lk, .inr (1, [.null, .null, .null, .int (nI 0)]))]) (va_Qv (S := Nat × Nat) (fun zu => True) (fun (zu : Nat × Nat) zt => va_P D vwCl [(q_lk, .inr (1, [.ref q_nt, .ref zu.1, .ref zu.2, .int (nI 0)])), (zu.1, .inl (cI, 8, .inl (aN zrF))), (zu.2, .inl (cI, 8, .inl (aN zrF)))] zt.heap ∧ va_D (va_A [(q_lk, .inr (1, [.null, .null, .null, .int (nI 0)]))] sz) [(q_lk, .inr (1, [.ref q_nt, .ref zu.1, .ref zu.2, .int (nI 0)])), (zu.1, .inl (cI, 8, .inl (aN zrF))), (zu.2, .inl (cI, 8, .inl (aN zrF)))]) (va_A [(q_lk, .inr (1, [.null, .null, .null, .int (nI 0)]))] sz)) 2 16 (va_A [(q_lk, .inr (1, [.null, .null, .null, .int (nI 0)]))] sz)
set_option maxRecDepth 100000 in
set_option maxHeartbeats 4000000 in
theorem w_X1_init {l : Launch} {D : va_G} {cI cZ : ClassId}  : K_X1_init l D cI cZ := by
  intro q_lk q_nt sz
  refine Met.ofW (cc := cX1_init) (maxL := 2) (ret := none) (by decide) rfl ?_
  intro zp ze zs zm zargs zbelow zmeth zc zs1 B hml hv
  obtain ⟨rfl, hsz, hZ, hP, hD0⟩ := hv
  have hx := B.exec
  have hb := B.bytes
  have hr := B.returns
  have hts := atoms_spec (ws := wsX1_init) B.pre
  have hown : zs.vm.findClass RX1 = some zm.cls := findClass_of_methodNamed B.named
  have hlocks := B.notSynchronized
  have hin : zmeth.name = "<init>" := (name_of_methodNamed B.named B.method).1
  subst hsz
  have hD := hD0.self (sz := zs.heap.size)
  generalize hAe : va_A [(q_lk, .inr (1, [.null, .null, .null, .int (nI 0)]))] zs.heap.size = A at hD ⊢
  have hA : ∀ q : Nat, zs.heap.size ≤ q → A q := fun q h => by rw [← hAe]; exact Or.inr h
  have hS : va_S A zs.heap zs.heap [] := va_S.rf
  have hP : va_P D vwCl [(q_lk, .inr (1, [.null, .null, .null, .int (nI 0)]))] zs.heap := hP
  have hl := lv_entry ([.ref q_lk, .ref q_nt]) (n := 2) (Nat.le_of_ble_eq_true rfl)
  rw [lg_entry_eq]
  generalize (lg_sl ([.ref q_lk, .ref q_nt]) ++ List.replicate (2 - (lg_sl ([.ref q_lk, .ref q_nt])).length) Slot.unset).toArray = ls at hl ⊢
  have hl : lv_has ls 2 [(0, .ref q_lk), (1, .ref q_nt)] := hl
  refine lv_aload_n hx hb dX1_init_0 rfl (lv_at hl 0 rfl) ?_
  refine W.objInit hx hb hown (hts _ m_X1_init_ol) (hts _ m_X1_init_oi) (hts _ m_X1_init_oc) rfl (by rw [hml]; exact hl.1) rfl dX1_init_1 (Nat.le_of_ble_eq_true rfl) (Nat.le_of_ble_eq_true rfl) ?_
  refine W.eq (g2 := F0 zm 4 ls []) rfl ?_
  refine lv_aload_n hx hb dX1_init_4 rfl (lv_at hl 0 rfl) ?_
  refine lv_bipush (v := nI 8) hx hb dX1_init_5 (by decide +kernel) ?_
  refine z_newi (n := 8) (f := (aN zrF)) hx hb (hts _ m_X1_init_aint) hZ hP hD hS hA (fun _ => rfl) (by decide) (Nat.le_of_ble_eq_true rfl) (Nat.le_of_ble_eq_true rfl) dX1_init_7 (fun q_kn H hP hD hS => ?_)
  have hP : va_P D vwCl [(q_lk, .inr (1, [.null, .null, .null, .int (nI 0)])), (q_kn, .inl (cI, 8, .inl (aN zrF)))] H := hP
  have hD : va_D A [(q_lk, .inr (1, [.null, .null, .null, .int (nI 0)])), (q_kn, .inl (cI, 8, .inl (aN zrF)))] := hD
  refine W.widen (k := 1) (n := 8) (Nat.le_of_ble_eq_true rfl) (Nat.le_of_ble_eq_true rfl) ?_
  refine va_putF (D := D) (ci := 1) (v := .ref q_kn) (ty := .array .int) (C := RX1) (T := TX1) (N := 4) hx hb hts i_X1_init_X1 tyX1 tyX1_ok nmX1 hown hZ.1 hP hD hS 0 rfl rfl 1 (by decide) (hts _ m_X1_init_f9) (fun _ h9 => h9) rfl hin rfl (by decide +kernel) rfl rfl (Nat.le_of_ble_eq_true rfl) dX1_init_9 (fun H locs hP hD hS => ?_)
  have hP : va_P D vwCl [(q_lk, .inr (1, [.null, .ref q_kn, .null, .int (nI 0)])), (q_kn, .inl (cI, 8, .inl (aN zrF)))] H := hP
  have hD : va_D A [(q_lk, .inr (1, [.null, .ref q_kn, .null, .int (nI 0)])), (q_kn, .inl (cI, 8, .inl (aN zrF)))] := hD
  refine lv_aload_n hx hb dX1_init_12 rfl (lv_at hl 0 rfl) ?_
  refine lv_bipush (v := nI 8) hx hb dX1_init_13 (by decide +kernel) ?_
  refine z_newi (n := 8) (f := (aN zrF)) hx hb (hts _ m_X1_init_aint) hZ hP hD hS hA (fun _ => rfl) (by decide) (Nat.le_of_ble_eq_true rfl) (Nat.le_of_ble_eq_true rfl) dX1_init_15 (fun q_fi H hP hD hS => ?_)
  have hP : va_P D vwCl [(q_lk, .inr (1, [.null, .ref q_kn, .null, .int (nI 0)])), (q_kn, .inl (cI, 8, .inl (aN zrF))), (q_fi, .inl (cI, 8, .inl (aN zrF)))] H := hP
  have hD : va_D A [(q_lk, .inr (1, [.null, .ref q_kn, .null, .int (nI 0)])), (q_kn, .inl (cI, 8, .inl (aN zrF))), (q_fi, .inl (cI, 8, .inl (aN zrF)))] := hD
  refine W.widen (k := 2) (n := 16) (Nat.le_of_ble_eq_true rfl) (Nat.le_of_ble_eq_true rfl) ?_
  refine va_putF (D := D) (ci := 1) (v := .ref q_fi) (ty := .array .int) (C := RX1) (T := TX1) (N := 4) hx hb hts i_X1_init_X1 tyX1 tyX1_ok nmX1 hown hZ.1 hP hD hS 0 rfl rfl 2 (by decide) (hts _ m_X1_init_f15) (fun _ h9 => h9) rfl hin rfl (by decide +kernel) rfl rfl (Nat.le_of_ble_eq_true rfl) dX1_init_17 (fun H locs hP hD hS => ?_)
  have hP : va_P D vwCl [(q_lk, .inr (1, [.null, .ref q_kn, .ref q_fi, .int (nI 0)])), (q_kn, .inl (cI, 8, .inl (aN zrF))), (q_fi, .inl (cI, 8, .inl (aN zrF)))] H := hP
  have hD : va_D A [(q_lk, .inr (1, [.null, .ref q_kn, .ref q_fi, .int (nI 0)])), (q_kn, .inl (cI, 8, .inl (aN zrF))), (q_fi, .inl (cI, 8, .inl (aN zrF)))] := hD
  refine lv_aload_n hx hb dX1_init_20 rfl (lv_at hl 0 rfl) ?_
  refine lv_aload_n hx hb dX1_init_21 rfl (lv_at hl 1 rfl) ?_
  refine va_putF (D := D) (ci := 1) (v := .ref q_nt) (ty := .object "NetWalkers$Net") (C := RX1) (T := TX1) (N := 4) hx hb hts i_X1_init_X1 tyX1 tyX1_ok nmX1 hown hZ.1 hP hD hS 0 rfl rfl 0 (by decide) (hts _ m_X1_init_f18) (fun _ h9 => h9) rfl hin rfl (by decide +kernel) rfl rfl (Nat.le_of_ble_eq_true rfl) dX1_init_22 (fun H locs hP hD hS => ?_)
  have hP : va_P D vwCl [(q_lk, .inr (1, [.ref q_nt, .ref q_kn, .ref q_fi, .int (nI 0)])), (q_kn, .inl (cI, 8, .inl (aN zrF))), (q_fi, .inl (cI, 8, .inl (aN zrF)))] H := hP
  have hD : va_D A [(q_lk, .inr (1, [.ref q_nt, .ref q_kn, .ref q_fi, .int (nI 0)])), (q_kn, .inl (cI, 8, .inl (aN zrF))), (q_fi, .inl (cI, 8, .inl (aN zrF)))] := hD
  have hP9 : va_P D vwCl [(q_lk, .inr (1, [.ref q_nt, .ref q_kn, .ref q_fi, .int (nI 0)])), (q_kn, .inl (cI, 8, .inl (aN zrF))), (q_fi, .inl (cI, 8, .inl (aN zrF)))] H := hP.sub [0, 1, 2] rfl
  have hD9 : va_D A [(q_lk, .inr (1, [.ref q_nt, .ref q_kn, .ref q_fi, .int (nI 0)])), (q_kn, .inl (cI, 8, .inl (aN zrF))), (q_fi, .inl (cI, 8, .inl (aN zrF)))] := hD.sub [0, 1, 2] (by decide) rfl
  exact W.vret hx hb hr (fun t ht hW => ⟨⟨(q_kn, q_fi), rfl, trivial, by rw [ht]; exact hP9, hD9⟩, hS.F ht⟩) hS.2.2 dX1_init_25
theorem c_X1_init {l : Launch} {D : va_G} {cI cZ : ClassId} : K_X1_init l D cI cZ := w_X1_init
theorem m_X3_init_oc : Cond.code objectInit ⟨#[0xb1]⟩ 1 none ∈ wsX3_init := by decide +kernel
theorem m_X3_init_ol : Cond.methodLink RX3 3 objectInit ∈ wsX3_init := by decide +kernel
theorem m_X3_init_oi : Cond.instanceMethod objectInit ∈ wsX3_init := by decide +kernel
theorem m_X3_init_aint : Cond.arrayClass .int ∈ wsX3_init := by decide +kernel
theorem m_X3_init_f11 : Cond.fieldLink RX3 11 "NetWalkers$Rings" "lengths" "[I" ∈ wsX3_init := by decide +kernel
theorem i_X3_init_X3 : ∀ w ∈ wsX30, w ∈ wsX3_init := by decide +kernel
theorem m_X3_init_f15 : Cond.fieldLink RX3 15 "NetWalkers$Rings" "found" "[I" ∈ wsX3_init := by decide +kernel
def K_X3_init (l : Launch) (D : va_G) (cI cZ : ClassId) : Prop := ∀ (q_rg : Nat) (sz : Nat), Met l yX3_init wsX3_init ({ frames := 1, cells := 2, slots := 10, locals := 12 } : Room) (zPw D cI cZ sz [.ref q_rg] [(q_rg, .inr (3, [.null, .null]))]) (va_Qv (S := Nat × Nat) (fun zu => True) (fun (zu : Nat × Nat) zt => va_P D vwCl [(q_rg, .inr (3, [.ref zu.1, .ref zu.2])), (zu.1, .inl (cI, 5, .inl z0I)), (zu.2, .inl (cI, 5, .inl z0I))] zt.heap ∧ va_D (va_A [(q_rg, .inr (3, [.null, .null]))] sz) [(q_rg, .inr (3, [.ref zu.1, .ref zu.2])), (zu.1, .inl (cI, 5, .inl z0I)), (zu.2, .inl (cI, 5, .inl z0I))]) (va_A [(q_rg, .inr (3, [.null, .null]))] sz)) 2 10 (va_A [(q_rg, .inr (3, [.null, .null]))] sz)
set_option maxRecDepth 100000 in
set_option maxHeartbeats 4000000 in
theorem w_X3_init {l : Launch} {D : va_G} {cI cZ : ClassId}  : K_X3_init l D cI cZ := by
  intro q_rg sz
  refine Met.ofW (cc := cX3_init) (maxL := 1) (ret := none) (by decide) rfl ?_
  intro zp ze zs zm zargs zbelow zmeth zc zs1 B hml hv
  obtain ⟨rfl, hsz, hZ, hP, hD0⟩ := hv
  have hx := B.exec
  have hb := B.bytes
  have hr := B.returns
  have hts := atoms_spec (ws := wsX3_init) B.pre
  have hown : zs.vm.findClass RX3 = some zm.cls := findClass_of_methodNamed B.named
  have hlocks := B.notSynchronized
  have hin : zmeth.name = "<init>" := (name_of_methodNamed B.named B.method).1
  subst hsz
  have hD := hD0.self (sz := zs.heap.size)
  generalize hAe : va_A [(q_rg, .inr (3, [.null, .null]))] zs.heap.size = A at hD ⊢
  have hA : ∀ q : Nat, zs.heap.size ≤ q → A q := fun q h => by rw [← hAe]; exact Or.inr h
  have hS : va_S A zs.heap zs.heap [] := va_S.rf
  have hP : va_P D vwCl [(q_rg, .inr (3, [.null, .null]))] zs.heap := hP
  have hl := lv_entry ([.ref q_rg]) (n := 1) (Nat.le_of_ble_eq_true rfl)
  rw [lg_entry_eq]
  generalize (lg_sl ([.ref q_rg]) ++ List.replicate (1 - (lg_sl ([.ref q_rg])).length) Slot.unset).toArray = ls at hl ⊢
  have hl : lv_has ls 1 [(0, .ref q_rg)] := hl
  refine lv_aload_n hx hb dX3_init_0 rfl (lv_at hl 0 rfl) ?_
  refine W.objInit hx hb hown (hts _ m_X3_init_ol) (hts _ m_X3_init_oi) (hts _ m_X3_init_oc) rfl (by rw [hml]; exact hl.1) rfl dX3_init_1 (Nat.le_of_ble_eq_true rfl) (Nat.le_of_ble_eq_true rfl) ?_
  refine W.eq (g2 := F0 zm 4 ls []) rfl ?_
  refine lv_aload_n hx hb dX3_init_4 rfl (lv_at hl 0 rfl) ?_
  refine lv_iconst (v := nI 5) hx hb dX3_init_5 (by decide +kernel) ?_
  refine z_newi (n := 5) (f := z0I) hx hb (hts _ m_X3_init_aint) hZ hP hD hS hA (fun _ => rfl) (by decide) (Nat.le_of_ble_eq_true rfl) (Nat.le_of_ble_eq_true rfl) dX3_init_6 (fun q_le H hP hD hS => ?_)
  have hP : va_P D vwCl [(q_rg, .inr (3, [.null, .null])), (q_le, .inl (cI, 5, .inl z0I))] H := hP
  have hD : va_D A [(q_rg, .inr (3, [.null, .null])), (q_le, .inl (cI, 5, .inl z0I))] := hD
  refine W.widen (k := 1) (n := 5) (Nat.le_of_ble_eq_true rfl) (Nat.le_of_ble_eq_true rfl) ?_
  refine va_putF (D := D) (ci := 3) (v := .ref q_le) (ty := .array .int) (C := RX3) (T := TX3) (N := 2) hx hb hts i_X3_init_X3 tyX3 tyX3_ok nmX3 hown hZ.1 hP hD hS 0 rfl rfl 0 (by decide) (hts _ m_X3_init_f11) (fun _ h9 => h9) rfl hin rfl (by decide +kernel) rfl rfl (Nat.le_of_ble_eq_true rfl) dX3_init_8 (fun H locs hP hD hS => ?_)
  have hP : va_P D vwCl [(q_rg, .inr (3, [.ref q_le, .null])), (q_le, .inl (cI, 5, .inl z0I))] H := hP
  have hD : va_D A [(q_rg, .inr (3, [.ref q_le, .null])), (q_le, .inl (cI, 5, .inl z0I))] := hD
  refine lv_aload_n hx hb dX3_init_11 rfl (lv_at hl 0 rfl) ?_
  refine lv_iconst (v := nI 5) hx hb dX3_init_12 (by decide +kernel) ?_
  refine z_newi (n := 5) (f := z0I) hx hb (hts _ m_X3_init_aint) hZ hP hD hS hA (fun _ => rfl) (by decide) (Nat.le_of_ble_eq_true rfl) (Nat.le_of_ble_eq_true rfl) dX3_init_13 (fun q_fo H hP hD hS => ?_)
  have hP : va_P D vwCl [(q_rg, .inr (3, [.ref q_le, .null])), (q_le, .inl (cI, 5, .inl z0I)), (q_fo, .inl (cI, 5, .inl z0I))] H := hP
  have hD : va_D A [(q_rg, .inr (3, [.ref q_le, .null])), (q_le, .inl (cI, 5, .inl z0I)), (q_fo, .inl (cI, 5, .inl z0I))] := hD
  refine W.widen (k := 2) (n := 10) (Nat.le_of_ble_eq_true rfl) (Nat.le_of_ble_eq_true rfl) ?_
  refine va_putF (D := D) (ci := 3) (v := .ref q_fo) (ty := .array .int) (C := RX3) (T := TX3) (N := 2) hx hb hts i_X3_init_X3 tyX3 tyX3_ok nmX3 hown hZ.1 hP hD hS 0 rfl rfl 1 (by decide) (hts _ m_X3_init_f15) (fun _ h9 => h9) rfl hin rfl (by decide +kernel) rfl rfl (Nat.le_of_ble_eq_true rfl) dX3_init_15 (fun H locs hP hD hS => ?_)
  have hP : va_P D vwCl [(q_rg, .inr (3, [.ref q_le, .ref q_fo])), (q_le, .inl (cI, 5, .inl z0I)), (q_fo, .inl (cI, 5, .inl z0I))] H := hP
  have hD : va_D A [(q_rg, .inr (3, [.ref q_le, .ref q_fo])), (q_le, .inl (cI, 5, .inl z0I)), (q_fo, .inl (cI, 5, .inl z0I))] := hD
  have hP9 : va_P D vwCl [(q_rg, .inr (3, [.ref q_le, .ref q_fo])), (q_le, .inl (cI, 5, .inl z0I)), (q_fo, .inl (cI, 5, .inl z0I))] H := hP.sub [0, 1, 2] rfl
  have hD9 : va_D A [(q_rg, .inr (3, [.ref q_le, .ref q_fo])), (q_le, .inl (cI, 5, .inl z0I)), (q_fo, .inl (cI, 5, .inl z0I))] := hD.sub [0, 1, 2] (by decide) rfl
  exact W.vret hx hb hr (fun t ht hW => ⟨⟨(q_le, q_fo), rfl, trivial, by rw [ht]; exact hP9, hD9⟩, hS.F ht⟩) hS.2.2 dX3_init_18
theorem c_X3_init {l : Launch} {D : va_G} {cI cZ : ClassId} : K_X3_init l D cI cZ := w_X3_init
theorem m_X5_init_oc : Cond.code objectInit ⟨#[0xb1]⟩ 1 none ∈ wsX5_init := by decide +kernel
theorem m_X5_init_ol : Cond.methodLink RX5 1 objectInit ∈ wsX5_init := by decide +kernel
theorem m_X5_init_oi : Cond.instanceMethod objectInit ∈ wsX5_init := by decide +kernel
theorem i_X5_init_X2 : ∀ w ∈ wsX20, w ∈ wsX5_init := by decide +kernel
theorem m_X5_init_cl7 : Cond.classLink RX5 7 RX2 ∈ wsX5_init := by decide +kernel
theorem m_X5_init_isX2 : Cond.instantiable RX2 5 ∈ wsX5_init := by decide +kernel
theorem m_X5_init_inX2 : Cond.initialized RX2 ∈ wsX5_init := by decide +kernel
theorem m_X5_init_imX2 : Cond.instanceMethod yX2_init ∈ wsX5_init := by decide +kernel
theorem m_X5_init_mlX2 : Cond.methodLink RX5 9 yX2_init ∈ wsX5_init := by decide +kernel
theorem m_X5_init_f10 : Cond.fieldLink RX5 10 "NetWalkers" "net" "LNetWalkers$Net;" ∈ wsX5_init := by decide +kernel
theorem i_X5_init_X5 : ∀ w ∈ wsX50, w ∈ wsX5_init := by decide +kernel
theorem i_X5_init_X4 : ∀ w ∈ wsX40, w ∈ wsX5_init := by decide +kernel
theorem m_X5_init_cl16 : Cond.classLink RX5 16 RX4 ∈ wsX5_init := by decide +kernel
theorem m_X5_init_isX4 : Cond.instantiable RX4 2 ∈ wsX5_init := by decide +kernel
theorem m_X5_init_inX4 : Cond.initialized RX4 ∈ wsX5_init := by decide +kernel
theorem m_X5_init_imX4 : Cond.instanceMethod yX4_init ∈ wsX5_init := by decide +kernel
theorem m_X5_init_f19 : Cond.fieldLink RX5 19 "NetWalkers" "row" "LNetWalkers$Row;" ∈ wsX5_init := by decide +kernel
theorem m_X5_init_f23 : Cond.fieldLink RX5 23 "NetWalkers" "otherRow" "LNetWalkers$Row;" ∈ wsX5_init := by decide +kernel
theorem i_X5_init_X0 : ∀ w ∈ wsX00, w ∈ wsX5_init := by decide +kernel
theorem m_X5_init_cl26 : Cond.classLink RX5 26 RX0 ∈ wsX5_init := by decide +kernel
theorem m_X5_init_isX0 : Cond.instantiable RX0 1 ∈ wsX5_init := by decide +kernel
theorem m_X5_init_inX0 : Cond.initialized RX0 ∈ wsX5_init := by decide +kernel
theorem m_X5_init_imX0 : Cond.instanceMethod yX0_init ∈ wsX5_init := by decide +kernel
theorem m_X5_init_mlX0 : Cond.methodLink RX5 28 yX0_init ∈ wsX5_init := by decide +kernel
theorem m_X5_init_f31 : Cond.fieldLink RX5 31 "NetWalkers" "hands" "LNetWalkers$Hands;" ∈ wsX5_init := by decide +kernel
theorem i_X5_init_X1 : ∀ w ∈ wsX10, w ∈ wsX5_init := by decide +kernel
theorem m_X5_init_cl35 : Cond.classLink RX5 35 RX1 ∈ wsX5_init := by decide +kernel
theorem m_X5_init_isX1 : Cond.instantiable RX1 4 ∈ wsX5_init := by decide +kernel
theorem m_X5_init_inX1 : Cond.initialized RX1 ∈ wsX5_init := by decide +kernel
theorem m_X5_init_imX1 : Cond.instanceMethod yX1_init ∈ wsX5_init := by decide +kernel
theorem m_X5_init_mlX1 : Cond.methodLink RX5 37 yX1_init ∈ wsX5_init := by decide +kernel
theorem m_X5_init_f38 : Cond.fieldLink RX5 38 "NetWalkers" "looks" "LNetWalkers$Looks;" ∈ wsX5_init := by decide +kernel
theorem i_X5_init_X3 : ∀ w ∈ wsX30, w ∈ wsX5_init := by decide +kernel
theorem m_X5_init_cl42 : Cond.classLink RX5 42 RX3 ∈ wsX5_init := by decide +kernel
theorem m_X5_init_isX3 : Cond.instantiable RX3 2 ∈ wsX5_init := by decide +kernel
theorem m_X5_init_inX3 : Cond.initialized RX3 ∈ wsX5_init := by decide +kernel
theorem m_X5_init_imX3 : Cond.instanceMethod yX3_init ∈ wsX5_init := by decide +kernel
theorem m_X5_init_f45 : Cond.fieldLink RX5 45 "NetWalkers" "rings" "LNetWalkers$Rings;" ∈ wsX5_init := by decide +kernel
def K_X5_init (l : Launch) (D : va_G) (cI cZ : ClassId) : Prop := ∀ (q_x : Nat) (sz : Nat), Met l yX5_init wsX5_init ({ frames := 3, cells := 15, slots := 194, locals := 64 } : Room) (zPw D cI cZ sz [.ref q_x] [(q_x, .inr (5, [.null, .null, .null, .null, .null, .null]))]) (va_Qv (S := Nat × Nat × Nat × Nat × Nat × Nat × Nat × Nat × Nat × Nat × Nat × Nat × Nat × Nat × Nat) (fun zu => True) (fun (zu : Nat × Nat × Nat × Nat × Nat × Nat × Nat × Nat × Nat × Nat × Nat × Nat × Nat × Nat × Nat) zt => va_P D vwCl [(q_x, .inr (5, [.ref zu.1, .ref zu.2.2.2.2.1, .ref zu.2.2.2.2.2.2.1, .ref zu.2.2.2.2.2.2.2.2.1, .ref zu.2.2.2.2.2.2.2.2.2.1, .ref zu.2.2.2.2.2.2.2.2.2.2.2.2.1])), (zu.1, .inr (2, [.ref zu.2.1, .ref zu.2.2.1, .ref zu.2.2.2.1, .int (nI 3), .int (nI (prs tF))])), (zu.2.1, .inl (cI, 32, .inl (aE tF))), (zu.2.2.1, .inl (cZ, 32, .inl (aB wF))), (zu.2.2.2.1, .inl (cI, 8, .inl (aN (dg tF)))), (zu.2.2.2.2.1, .inr (4, [.ref zu.2.2.2.2.2.1, .int (nI 0)])), (zu.2.2.2.2.2.1, .inl (cI, 40, .inl (aN zrF))), (zu.2.2.2.2.2.2.1, .inr (4, [.ref zu.2.2.2.2.2.2.2.1, .int (nI 0)])), (zu.2.2.2.2.2.2.2.1, .inl (cI, 40, .inl (aN zrF))), (zu.2.2.2.2.2.2.2.2.1, .inr (0, [.ref zu.1])), (zu.2.2.2.2.2.2.2.2.2.1, .inr (1, [.ref zu.1, .ref zu.2.2.2.2.2.2.2.2.2.2.1, .ref zu.2.2.2.2.2.2.2.2.2.2.2.1, .int (nI 0)])), (zu.2.2.2.2.2.2.2.2.2.2.1, .inl (cI, 8, .inl (aN zrF))), (zu.2.2.2.2.2.2.2.2.2.2.2.1, .inl (cI, 8, .inl (aN zrF))), (zu.2.2.2.2.2.2.2.2.2.2.2.2.1, .inr (3, [.ref zu.2.2.2.2.2.2.2.2.2.2.2.2.2.1, .ref zu.2.2.2.2.2.2.2.2.2.2.2.2.2.2])), (zu.2.2.2.2.2.2.2.2.2.2.2.2.2.1, .inl (cI, 5, .inl z0I)), (zu.2.2.2.2.2.2.2.2.2.2.2.2.2.2, .inl (cI, 5, .inl z0I))] zt.heap ∧ va_D (va_A [(q_x, .inr (5, [.null, .null, .null, .null, .null, .null]))] sz) [(q_x, .inr (5, [.ref zu.1, .ref zu.2.2.2.2.1, .ref zu.2.2.2.2.2.2.1, .ref zu.2.2.2.2.2.2.2.2.1, .ref zu.2.2.2.2.2.2.2.2.2.1, .ref zu.2.2.2.2.2.2.2.2.2.2.2.2.1])), (zu.1, .inr (2, [.ref zu.2.1, .ref zu.2.2.1, .ref zu.2.2.2.1, .int (nI 3), .int (nI (prs tF))])), (zu.2.1, .inl (cI, 32, .inl (aE tF))), (zu.2.2.1, .inl (cZ, 32, .inl (aB wF))), (zu.2.2.2.1, .inl (cI, 8, .inl (aN (dg tF)))), (zu.2.2.2.2.1, .inr (4, [.ref zu.2.2.2.2.2.1, .int (nI 0)])), (zu.2.2.2.2.2.1, .inl (cI, 40, .inl (aN zrF))), (zu.2.2.2.2.2.2.1, .inr (4, [.ref zu.2.2.2.2.2.2.2.1, .int (nI 0)])), (zu.2.2.2.2.2.2.2.1, .inl (cI, 40, .inl (aN zrF))), (zu.2.2.2.2.2.2.2.2.1, .inr (0, [.ref zu.1])), (zu.2.2.2.2.2.2.2.2.2.1, .inr (1, [.ref zu.1, .ref zu.2.2.2.2.2.2.2.2.2.2.1, .ref zu.2.2.2.2.2.2.2.2.2.2.2.1, .int (nI 0)])), (zu.2.2.2.2.2.2.2.2.2.2.1, .inl (cI, 8, .inl (aN zrF))), (zu.2.2.2.2.2.2.2.2.2.2.2.1, .inl (cI, 8, .inl (aN zrF))), (zu.2.2.2.2.2.2.2.2.2.2.2.2.1, .inr (3, [.ref zu.2.2.2.2.2.2.2.2.2.2.2.2.2.1, .ref zu.2.2.2.2.2.2.2.2.2.2.2.2.2.2])), (zu.2.2.2.2.2.2.2.2.2.2.2.2.2.1, .inl (cI, 5, .inl z0I)), (zu.2.2.2.2.2.2.2.2.2.2.2.2.2.2, .inl (cI, 5, .inl z0I))]) (va_A [(q_x, .inr (5, [.null, .null, .null, .null, .null, .null]))] sz)) 15 194 (va_A [(q_x, .inr (5, [.null, .null, .null, .null, .null, .null]))] sz)
set_option maxRecDepth 100000 in
set_option maxHeartbeats 4000000 in
theorem w_X5_init {l : Launch} {D : va_G} {cI cZ : ClassId} (k_X2_init : K_X2_init l D cI cZ) (k_X4_init : K_X4_init l D cI cZ) (k_X0_init : K_X0_init l D cI cZ) (k_X1_init : K_X1_init l D cI cZ) (k_X3_init : K_X3_init l D cI cZ) : K_X5_init l D cI cZ := by
  intro q_x sz
  refine Met.ofW (cc := cX5_init) (maxL := 1) (ret := none) (by decide) rfl ?_
  intro zp ze zs zm zargs zbelow zmeth zc zs1 B hml hv
  obtain ⟨rfl, hsz, hZ, hP, hD0⟩ := hv
  have hx := B.exec
  have hb := B.bytes
  have hr := B.returns
  have hts := atoms_spec (ws := wsX5_init) B.pre
  have hown : zs.vm.findClass RX5 = some zm.cls := findClass_of_methodNamed B.named
  have hlocks := B.notSynchronized
  have hin : zmeth.name = "<init>" := (name_of_methodNamed B.named B.method).1
  subst hsz
  have hD := hD0.self (sz := zs.heap.size)
  generalize hAe : va_A [(q_x, .inr (5, [.null, .null, .null, .null, .null, .null]))] zs.heap.size = A at hD ⊢
  have hA : ∀ q : Nat, zs.heap.size ≤ q → A q := fun q h => by rw [← hAe]; exact Or.inr h
  have hS : va_S A zs.heap zs.heap [] := va_S.rf
  have hP : va_P D vwCl [(q_x, .inr (5, [.null, .null, .null, .null, .null, .null]))] zs.heap := hP
  have hl := lv_entry ([.ref q_x]) (n := 1) (Nat.le_of_ble_eq_true rfl)
  rw [lg_entry_eq]
  generalize (lg_sl ([.ref q_x]) ++ List.replicate (1 - (lg_sl ([.ref q_x])).length) Slot.unset).toArray = ls at hl ⊢
  have hl : lv_has ls 1 [(0, .ref q_x)] := hl
  refine lv_aload_n hx hb dX5_init_0 rfl (lv_at hl 0 rfl) ?_
  refine W.objInit hx hb hown (hts _ m_X5_init_ol) (hts _ m_X5_init_oi) (hts _ m_X5_init_oc) rfl (by rw [hml]; exact hl.1) rfl dX5_init_1 (Nat.le_of_ble_eq_true rfl) (Nat.le_of_ble_eq_true rfl) ?_
  refine W.eq (g2 := F0 zm 4 ls []) rfl ?_
  refine lv_aload_n hx hb dX5_init_4 rfl (lv_at hl 0 rfl) ?_
  refine va_new (ci := 2) (fs := [.null, .null, .null, .int (nI 0), .int (nI 0)]) (C := RX2) (T := TX2) (N := 5) hx hb hts i_X5_init_X2 tyX2 tyX2_ok hown (hts _ m_X5_init_cl7) (hts _ m_X5_init_isX2) (hts _ m_X5_init_inX2) hZ.1 hP hD hS hA rfl (fun j hj => by rcases (show j = 0 ∨ j = 1 ∨ j = 2 ∨ j = 3 ∨ j = 4 by omega) with rfl | rfl | rfl | rfl | rfl <;> rfl) (Nat.le_of_ble_eq_true rfl) (Nat.le_of_ble_eq_true rfl) dX5_init_5 (fun q_nt H hP hD hS => ?_)
  have hP : va_P D vwCl [(q_x, .inr (5, [.null, .null, .null, .null, .null, .null])), (q_nt, .inr (2, [.null, .null, .null, .int (nI 0), .int (nI 0)]))] H := hP
  have hD : va_D A [(q_x, .inr (5, [.null, .null, .null, .null, .null, .null])), (q_nt, .inr (2, [.null, .null, .null, .int (nI 0), .int (nI 0)]))] := hD
  refine W.widen (k := 1) (n := 5) (Nat.le_of_ble_eq_true rfl) (Nat.le_of_ble_eq_true rfl) ?_
  refine lv_dup hx hb dX5_init_8 rfl ?_
  have hPc : va_P D vwCl [(q_nt, .inr (2, [.null, .null, .null, .int (nI 0), .int (nI 0)]))] H := hP.sub [1] rfl
  have hDc : va_D A [(q_nt, .inr (2, [.null, .null, .null, .int (nI 0), .int (nI 0)]))] := hD.sub [1] (by decide) rfl
  have hFc := va_free (wc := [(q_nt, .inr (2, [.null, .null, .null, .int (nI 0), .int (nI 0)]))]) hD hS hA [1] rfl
  refine va_callv (va_runI (As := []) (rest := [.ref q_nt, .ref q_x]) ⟨hx, hb, hml, hown, hts⟩ (k_X2_init q_nt  H.size) (cwI 0 hts gX5_init_X2_init rfl rfl rfl (hts _ m_X5_init_inX2) (hts _ m_X5_init_mlX2) (hts _ m_X5_init_imX2) rfl (by decide +kernel) ⟨Nat.le_of_ble_eq_true rfl, Nat.le_of_ble_eq_true rfl⟩) (zPw_S (As := [.ref q_nt]) hZ hPc (hDc.weaken (fun _ _ _ _ => trivial))) rfl rfl hl.1 rfl (lv_room (Nat.le_of_ble_eq_true rfl)) dX5_init_9 ⟨Nat.le_of_ble_eq_true rfl, Nat.le_of_ble_eq_true rfl⟩) hS (fun q _ h => hFc q h) hFc (fun zu zt H1 locs1 ht hvm hq hB hz1 hk1 hS => ?_)
  obtain ⟨q_en, q_ba, q_de⟩ := zu
  obtain ⟨hP1, hD1⟩ := hB
  rw [ht] at hP1
  obtain ⟨hP, hD⟩ := va_join (wr := [(q_x, .inr (5, [.null, .null, .null, .null, .null, .null]))]) (w1 := [(q_nt, .inr (2, [.ref q_en, .ref q_ba, .ref q_de, .int (nI 3), .int (nI (prs tF))])), (q_en, .inl (cI, 32, .inl (aE tF))), (q_ba, .inl (cZ, 32, .inl (aB wF))), (q_de, .inl (cI, 8, .inl (aN (dg tF))))]) hP hD [1] [0] rfl rfl (by decide) (by decide) hk1 hFc hP1 hD1
  have hP : va_P D vwCl [(q_x, .inr (5, [.null, .null, .null, .null, .null, .null])), (q_nt, .inr (2, [.ref q_en, .ref q_ba, .ref q_de, .int (nI 3), .int (nI (prs tF))])), (q_en, .inl (cI, 32, .inl (aE tF))), (q_ba, .inl (cZ, 32, .inl (aB wF))), (q_de, .inl (cI, 8, .inl (aN (dg tF))))] H1 := hP
  have hD : va_D A [(q_x, .inr (5, [.null, .null, .null, .null, .null, .null])), (q_nt, .inr (2, [.ref q_en, .ref q_ba, .ref q_de, .int (nI 3), .int (nI (prs tF))])), (q_en, .inl (cI, 32, .inl (aE tF))), (q_ba, .inl (cZ, 32, .inl (aB wF))), (q_de, .inl (cI, 8, .inl (aN (dg tF))))] := hD
  clear hP1 hD1 hk1 hz1 hFc hDc hPc ht hvm
  refine W.widen (k := 4) (n := 77) (Nat.le_of_ble_eq_true rfl) (Nat.le_of_ble_eq_true rfl) ?_
  refine va_putF (D := D) (ci := 5) (v := .ref q_nt) (ty := .object "NetWalkers$Net") (C := RX5) (T := TX5) (N := 6) hx hb hts i_X5_init_X5 tyX5 tyX5_ok nmX5 hown hZ.1 hP hD hS 0 rfl rfl 0 (by decide) (hts _ m_X5_init_f10) (fun _ h9 => h9) rfl hin rfl (by decide +kernel) rfl rfl (Nat.le_of_ble_eq_true rfl) dX5_init_12 (fun H locs hP hD hS => ?_)
  have hP : va_P D vwCl [(q_x, .inr (5, [.ref q_nt, .null, .null, .null, .null, .null])), (q_nt, .inr (2, [.ref q_en, .ref q_ba, .ref q_de, .int (nI 3), .int (nI (prs tF))])), (q_en, .inl (cI, 32, .inl (aE tF))), (q_ba, .inl (cZ, 32, .inl (aB wF))), (q_de, .inl (cI, 8, .inl (aN (dg tF))))] H := hP
  have hD : va_D A [(q_x, .inr (5, [.ref q_nt, .null, .null, .null, .null, .null])), (q_nt, .inr (2, [.ref q_en, .ref q_ba, .ref q_de, .int (nI 3), .int (nI (prs tF))])), (q_en, .inl (cI, 32, .inl (aE tF))), (q_ba, .inl (cZ, 32, .inl (aB wF))), (q_de, .inl (cI, 8, .inl (aN (dg tF))))] := hD
  refine lv_aload_n hx hb dX5_init_15 rfl (lv_at hl 0 rfl) ?_
  refine va_new (ci := 4) (fs := [.null, .int (nI 0)]) (C := RX4) (T := TX4) (N := 2) hx hb hts i_X5_init_X4 tyX4 tyX4_ok hown (hts _ m_X5_init_cl16) (hts _ m_X5_init_isX4) (hts _ m_X5_init_inX4) hZ.1 hP hD hS hA rfl (fun j hj => by rcases (show j = 0 ∨ j = 1 by omega) with rfl | rfl <;> rfl) (Nat.le_of_ble_eq_true rfl) (Nat.le_of_ble_eq_true rfl) dX5_init_16 (fun q_rw H hP hD hS => ?_)
  have hP : va_P D vwCl [(q_x, .inr (5, [.ref q_nt, .null, .null, .null, .null, .null])), (q_nt, .inr (2, [.ref q_en, .ref q_ba, .ref q_de, .int (nI 3), .int (nI (prs tF))])), (q_en, .inl (cI, 32, .inl (aE tF))), (q_ba, .inl (cZ, 32, .inl (aB wF))), (q_de, .inl (cI, 8, .inl (aN (dg tF)))), (q_rw, .inr (4, [.null, .int (nI 0)]))] H := hP
  have hD : va_D A [(q_x, .inr (5, [.ref q_nt, .null, .null, .null, .null, .null])), (q_nt, .inr (2, [.ref q_en, .ref q_ba, .ref q_de, .int (nI 3), .int (nI (prs tF))])), (q_en, .inl (cI, 32, .inl (aE tF))), (q_ba, .inl (cZ, 32, .inl (aB wF))), (q_de, .inl (cI, 8, .inl (aN (dg tF)))), (q_rw, .inr (4, [.null, .int (nI 0)]))] := hD
  refine W.widen (k := 5) (n := 79) (Nat.le_of_ble_eq_true rfl) (Nat.le_of_ble_eq_true rfl) ?_
  refine lv_dup hx hb dX5_init_19 rfl ?_
  have hPc : va_P D vwCl [(q_rw, .inr (4, [.null, .int (nI 0)]))] H := hP.sub [5] rfl
  have hDc : va_D A [(q_rw, .inr (4, [.null, .int (nI 0)]))] := hD.sub [5] (by decide) rfl
  have hFc := va_free (wc := [(q_rw, .inr (4, [.null, .int (nI 0)]))]) hD hS hA [5] rfl
  refine va_callv (va_runIN (As := []) (rest := [.ref q_rw, .ref q_x]) ⟨hx, hb, hml, hown, hts⟩ (k_X4_init q_rw  H.size) ⟨va_cnB 0 hts gX5_init_X4_init_n18 rfl rfl rfl hZ.2.1 (hts _ m_X5_init_inX4) (by decide +kernel) ⟨Nat.le_of_ble_eq_true rfl, Nat.le_of_ble_eq_true rfl⟩, rfl, (hts _ m_X5_init_imX4)⟩ (zPw_S (As := [.ref q_rw]) hZ hPc (hDc.weaken (fun _ _ _ _ => trivial))) rfl rfl hl.1 rfl (lv_room (Nat.le_of_ble_eq_true rfl)) dX5_init_20 ⟨Nat.le_of_ble_eq_true rfl, Nat.le_of_ble_eq_true rfl⟩) hS (fun q _ h => hFc q h) hFc (fun zu zt H1 locs1 ht hvm hq hB hz1 hk1 hS => ?_)
  obtain ⟨q_nm, rfl⟩ : ∃ z, z = zu := ⟨_, rfl⟩
  obtain ⟨hP1, hD1⟩ := hB
  rw [ht] at hP1
  obtain ⟨hP, hD⟩ := va_join (wr := [(q_x, .inr (5, [.ref q_nt, .null, .null, .null, .null, .null])), (q_nt, .inr (2, [.ref q_en, .ref q_ba, .ref q_de, .int (nI 3), .int (nI (prs tF))])), (q_en, .inl (cI, 32, .inl (aE tF))), (q_ba, .inl (cZ, 32, .inl (aB wF))), (q_de, .inl (cI, 8, .inl (aN (dg tF))))]) (w1 := [(q_rw, .inr (4, [.ref q_nm, .int (nI 0)])), (q_nm, .inl (cI, 40, .inl (aN zrF)))]) hP hD [5] [0, 1, 2, 3, 4] rfl rfl (by decide) (by decide) hk1 hFc hP1 hD1
  have hP : va_P D vwCl [(q_x, .inr (5, [.ref q_nt, .null, .null, .null, .null, .null])), (q_nt, .inr (2, [.ref q_en, .ref q_ba, .ref q_de, .int (nI 3), .int (nI (prs tF))])), (q_en, .inl (cI, 32, .inl (aE tF))), (q_ba, .inl (cZ, 32, .inl (aB wF))), (q_de, .inl (cI, 8, .inl (aN (dg tF)))), (q_rw, .inr (4, [.ref q_nm, .int (nI 0)])), (q_nm, .inl (cI, 40, .inl (aN zrF)))] H1 := hP
  have hD : va_D A [(q_x, .inr (5, [.ref q_nt, .null, .null, .null, .null, .null])), (q_nt, .inr (2, [.ref q_en, .ref q_ba, .ref q_de, .int (nI 3), .int (nI (prs tF))])), (q_en, .inl (cI, 32, .inl (aE tF))), (q_ba, .inl (cZ, 32, .inl (aB wF))), (q_de, .inl (cI, 8, .inl (aN (dg tF)))), (q_rw, .inr (4, [.ref q_nm, .int (nI 0)])), (q_nm, .inl (cI, 40, .inl (aN zrF)))] := hD
  clear hP1 hD1 hk1 hz1 hFc hDc hPc ht hvm
  refine W.widen (k := 6) (n := 119) (Nat.le_of_ble_eq_true rfl) (Nat.le_of_ble_eq_true rfl) ?_
  refine va_putF (D := D) (ci := 5) (v := .ref q_rw) (ty := .object "NetWalkers$Row") (C := RX5) (T := TX5) (N := 6) hx hb hts i_X5_init_X5 tyX5 tyX5_ok nmX5 hown hZ.1 hP hD hS 0 rfl rfl 1 (by decide) (hts _ m_X5_init_f19) (fun _ h9 => h9) rfl hin rfl (by decide +kernel) rfl rfl (Nat.le_of_ble_eq_true rfl) dX5_init_23 (fun H locs hP hD hS => ?_)
  have hP : va_P D vwCl [(q_x, .inr (5, [.ref q_nt, .ref q_rw, .null, .null, .null, .null])), (q_nt, .inr (2, [.ref q_en, .ref q_ba, .ref q_de, .int (nI 3), .int (nI (prs tF))])), (q_en, .inl (cI, 32, .inl (aE tF))), (q_ba, .inl (cZ, 32, .inl (aB wF))), (q_de, .inl (cI, 8, .inl (aN (dg tF)))), (q_rw, .inr (4, [.ref q_nm, .int (nI 0)])), (q_nm, .inl (cI, 40, .inl (aN zrF)))] H := hP
  have hD : va_D A [(q_x, .inr (5, [.ref q_nt, .ref q_rw, .null, .null, .null, .null])), (q_nt, .inr (2, [.ref q_en, .ref q_ba, .ref q_de, .int (nI 3), .int (nI (prs tF))])), (q_en, .inl (cI, 32, .inl (aE tF))), (q_ba, .inl (cZ, 32, .inl (aB wF))), (q_de, .inl (cI, 8, .inl (aN (dg tF)))), (q_rw, .inr (4, [.ref q_nm, .int (nI 0)])), (q_nm, .inl (cI, 40, .inl (aN zrF)))] := hD
  refine lv_aload_n hx hb dX5_init_26 rfl (lv_at hl 0 rfl) ?_
  refine va_new (ci := 4) (fs := [.null, .int (nI 0)]) (C := RX4) (T := TX4) (N := 2) hx hb hts i_X5_init_X4 tyX4 tyX4_ok hown (hts _ m_X5_init_cl16) (hts _ m_X5_init_isX4) (hts _ m_X5_init_inX4) hZ.1 hP hD hS hA rfl (fun j hj => by rcases (show j = 0 ∨ j = 1 by omega) with rfl | rfl <;> rfl) (Nat.le_of_ble_eq_true rfl) (Nat.le_of_ble_eq_true rfl) dX5_init_27 (fun q_rv H hP hD hS => ?_)
  have hP : va_P D vwCl [(q_x, .inr (5, [.ref q_nt, .ref q_rw, .null, .null, .null, .null])), (q_nt, .inr (2, [.ref q_en, .ref q_ba, .ref q_de, .int (nI 3), .int (nI (prs tF))])), (q_en, .inl (cI, 32, .inl (aE tF))), (q_ba, .inl (cZ, 32, .inl (aB wF))), (q_de, .inl (cI, 8, .inl (aN (dg tF)))), (q_rw, .inr (4, [.ref q_nm, .int (nI 0)])), (q_nm, .inl (cI, 40, .inl (aN zrF))), (q_rv, .inr (4, [.null, .int (nI 0)]))] H := hP
  have hD : va_D A [(q_x, .inr (5, [.ref q_nt, .ref q_rw, .null, .null, .null, .null])), (q_nt, .inr (2, [.ref q_en, .ref q_ba, .ref q_de, .int (nI 3), .int (nI (prs tF))])), (q_en, .inl (cI, 32, .inl (aE tF))), (q_ba, .inl (cZ, 32, .inl (aB wF))), (q_de, .inl (cI, 8, .inl (aN (dg tF)))), (q_rw, .inr (4, [.ref q_nm, .int (nI 0)])), (q_nm, .inl (cI, 40, .inl (aN zrF))), (q_rv, .inr (4, [.null, .int (nI 0)]))] := hD
  refine W.widen (k := 7) (n := 121) (Nat.le_of_ble_eq_true rfl) (Nat.le_of_ble_eq_true rfl) ?_
  refine lv_dup hx hb dX5_init_30 rfl ?_
  have hPc : va_P D vwCl [(q_rv, .inr (4, [.null, .int (nI 0)]))] H := hP.sub [7] rfl
  have hDc : va_D A [(q_rv, .inr (4, [.null, .int (nI 0)]))] := hD.sub [7] (by decide) rfl
  have hFc := va_free (wc := [(q_rv, .inr (4, [.null, .int (nI 0)]))]) hD hS hA [7] rfl
  refine va_callv (va_runIN (As := []) (rest := [.ref q_rv, .ref q_x]) ⟨hx, hb, hml, hown, hts⟩ (k_X4_init q_rv  H.size) ⟨va_cnB 0 hts gX5_init_X4_init_n18 rfl rfl rfl hZ.2.1 (hts _ m_X5_init_inX4) (by decide +kernel) ⟨Nat.le_of_ble_eq_true rfl, Nat.le_of_ble_eq_true rfl⟩, rfl, (hts _ m_X5_init_imX4)⟩ (zPw_S (As := [.ref q_rv]) hZ hPc (hDc.weaken (fun _ _ _ _ => trivial))) rfl rfl hl.1 rfl (lv_room (Nat.le_of_ble_eq_true rfl)) dX5_init_31 ⟨Nat.le_of_ble_eq_true rfl, Nat.le_of_ble_eq_true rfl⟩) hS (fun q _ h => hFc q h) hFc (fun zu zt H1 locs1 ht hvm hq hB hz1 hk1 hS => ?_)
  obtain ⟨q_nv, rfl⟩ : ∃ z, z = zu := ⟨_, rfl⟩
  obtain ⟨hP1, hD1⟩ := hB
  rw [ht] at hP1
  obtain ⟨hP, hD⟩ := va_join (wr := [(q_x, .inr (5, [.ref q_nt, .ref q_rw, .null, .null, .null, .null])), (q_nt, .inr (2, [.ref q_en, .ref q_ba, .ref q_de, .int (nI 3), .int (nI (prs tF))])), (q_en, .inl (cI, 32, .inl (aE tF))), (q_ba, .inl (cZ, 32, .inl (aB wF))), (q_de, .inl (cI, 8, .inl (aN (dg tF)))), (q_rw, .inr (4, [.ref q_nm, .int (nI 0)])), (q_nm, .inl (cI, 40, .inl (aN zrF)))]) (w1 := [(q_rv, .inr (4, [.ref q_nv, .int (nI 0)])), (q_nv, .inl (cI, 40, .inl (aN zrF)))]) hP hD [7] [0, 1, 2, 3, 4, 5, 6] rfl rfl (by decide) (by decide) hk1 hFc hP1 hD1
  have hP : va_P D vwCl [(q_x, .inr (5, [.ref q_nt, .ref q_rw, .null, .null, .null, .null])), (q_nt, .inr (2, [.ref q_en, .ref q_ba, .ref q_de, .int (nI 3), .int (nI (prs tF))])), (q_en, .inl (cI, 32, .inl (aE tF))), (q_ba, .inl (cZ, 32, .inl (aB wF))), (q_de, .inl (cI, 8, .inl (aN (dg tF)))), (q_rw, .inr (4, [.ref q_nm, .int (nI 0)])), (q_nm, .inl (cI, 40, .inl (aN zrF))), (q_rv, .inr (4, [.ref q_nv, .int (nI 0)])), (q_nv, .inl (cI, 40, .inl (aN zrF)))] H1 := hP
  have hD : va_D A [(q_x, .inr (5, [.ref q_nt, .ref q_rw, .null, .null, .null, .null])), (q_nt, .inr (2, [.ref q_en, .ref q_ba, .ref q_de, .int (nI 3), .int (nI (prs tF))])), (q_en, .inl (cI, 32, .inl (aE tF))), (q_ba, .inl (cZ, 32, .inl (aB wF))), (q_de, .inl (cI, 8, .inl (aN (dg tF)))), (q_rw, .inr (4, [.ref q_nm, .int (nI 0)])), (q_nm, .inl (cI, 40, .inl (aN zrF))), (q_rv, .inr (4, [.ref q_nv, .int (nI 0)])), (q_nv, .inl (cI, 40, .inl (aN zrF)))] := hD
  clear hP1 hD1 hk1 hz1 hFc hDc hPc ht hvm
  refine W.widen (k := 8) (n := 161) (Nat.le_of_ble_eq_true rfl) (Nat.le_of_ble_eq_true rfl) ?_
  refine va_putF (D := D) (ci := 5) (v := .ref q_rv) (ty := .object "NetWalkers$Row") (C := RX5) (T := TX5) (N := 6) hx hb hts i_X5_init_X5 tyX5 tyX5_ok nmX5 hown hZ.1 hP hD hS 0 rfl rfl 2 (by decide) (hts _ m_X5_init_f23) (fun _ h9 => h9) rfl hin rfl (by decide +kernel) rfl rfl (Nat.le_of_ble_eq_true rfl) dX5_init_34 (fun H locs hP hD hS => ?_)
  have hP : va_P D vwCl [(q_x, .inr (5, [.ref q_nt, .ref q_rw, .ref q_rv, .null, .null, .null])), (q_nt, .inr (2, [.ref q_en, .ref q_ba, .ref q_de, .int (nI 3), .int (nI (prs tF))])), (q_en, .inl (cI, 32, .inl (aE tF))), (q_ba, .inl (cZ, 32, .inl (aB wF))), (q_de, .inl (cI, 8, .inl (aN (dg tF)))), (q_rw, .inr (4, [.ref q_nm, .int (nI 0)])), (q_nm, .inl (cI, 40, .inl (aN zrF))), (q_rv, .inr (4, [.ref q_nv, .int (nI 0)])), (q_nv, .inl (cI, 40, .inl (aN zrF)))] H := hP
  have hD : va_D A [(q_x, .inr (5, [.ref q_nt, .ref q_rw, .ref q_rv, .null, .null, .null])), (q_nt, .inr (2, [.ref q_en, .ref q_ba, .ref q_de, .int (nI 3), .int (nI (prs tF))])), (q_en, .inl (cI, 32, .inl (aE tF))), (q_ba, .inl (cZ, 32, .inl (aB wF))), (q_de, .inl (cI, 8, .inl (aN (dg tF)))), (q_rw, .inr (4, [.ref q_nm, .int (nI 0)])), (q_nm, .inl (cI, 40, .inl (aN zrF))), (q_rv, .inr (4, [.ref q_nv, .int (nI 0)])), (q_nv, .inl (cI, 40, .inl (aN zrF)))] := hD
  refine lv_aload_n hx hb dX5_init_37 rfl (lv_at hl 0 rfl) ?_
  refine va_new (ci := 0) (fs := [.null]) (C := RX0) (T := TX0) (N := 1) hx hb hts i_X5_init_X0 tyX0 tyX0_ok hown (hts _ m_X5_init_cl26) (hts _ m_X5_init_isX0) (hts _ m_X5_init_inX0) hZ.1 hP hD hS hA rfl (fun j hj => by rcases (show j = 0 by omega) with rfl <;> rfl) (Nat.le_of_ble_eq_true rfl) (Nat.le_of_ble_eq_true rfl) dX5_init_38 (fun q_hd H hP hD hS => ?_)
  have hP : va_P D vwCl [(q_x, .inr (5, [.ref q_nt, .ref q_rw, .ref q_rv, .null, .null, .null])), (q_nt, .inr (2, [.ref q_en, .ref q_ba, .ref q_de, .int (nI 3), .int (nI (prs tF))])), (q_en, .inl (cI, 32, .inl (aE tF))), (q_ba, .inl (cZ, 32, .inl (aB wF))), (q_de, .inl (cI, 8, .inl (aN (dg tF)))), (q_rw, .inr (4, [.ref q_nm, .int (nI 0)])), (q_nm, .inl (cI, 40, .inl (aN zrF))), (q_rv, .inr (4, [.ref q_nv, .int (nI 0)])), (q_nv, .inl (cI, 40, .inl (aN zrF))), (q_hd, .inr (0, [.null]))] H := hP
  have hD : va_D A [(q_x, .inr (5, [.ref q_nt, .ref q_rw, .ref q_rv, .null, .null, .null])), (q_nt, .inr (2, [.ref q_en, .ref q_ba, .ref q_de, .int (nI 3), .int (nI (prs tF))])), (q_en, .inl (cI, 32, .inl (aE tF))), (q_ba, .inl (cZ, 32, .inl (aB wF))), (q_de, .inl (cI, 8, .inl (aN (dg tF)))), (q_rw, .inr (4, [.ref q_nm, .int (nI 0)])), (q_nm, .inl (cI, 40, .inl (aN zrF))), (q_rv, .inr (4, [.ref q_nv, .int (nI 0)])), (q_nv, .inl (cI, 40, .inl (aN zrF))), (q_hd, .inr (0, [.null]))] := hD
  refine W.widen (k := 9) (n := 162) (Nat.le_of_ble_eq_true rfl) (Nat.le_of_ble_eq_true rfl) ?_
  refine lv_dup hx hb dX5_init_41 rfl ?_
  refine lv_aload_n hx hb dX5_init_42 rfl (lv_at hl 0 rfl) ?_
  refine va_get (D := D) (ci := 5) (v := .ref q_nt) (C := RX5) (T := TX5) (N := 6) hx hb hts i_X5_init_X5 hown hZ.1 hP 0 rfl rfl 0 (by decide) (hts _ m_X5_init_f10) (fun _ h9 => h9) rfl dX5_init_43 ?_
  have hPc : va_P D vwCl [(q_hd, .inr (0, [.null]))] H := hP.sub [9] rfl
  have hDc : va_D A [(q_hd, .inr (0, [.null]))] := hD.sub [9] (by decide) rfl
  have hFc := va_free (wc := [(q_hd, .inr (0, [.null]))]) hD hS hA [9] rfl
  refine va_callv (va_runI (As := [.ref q_nt]) (rest := [.ref q_hd, .ref q_x]) ⟨hx, hb, hml, hown, hts⟩ (k_X0_init q_hd q_nt H.size) (cwI 1 hts gX5_init_X0_init rfl rfl rfl (hts _ m_X5_init_inX0) (hts _ m_X5_init_mlX0) (hts _ m_X5_init_imX0) rfl (by decide +kernel) ⟨Nat.le_of_ble_eq_true rfl, Nat.le_of_ble_eq_true rfl⟩) (zPw_S (As := [.ref q_hd, .ref q_nt]) hZ hPc (hDc.weaken (fun _ _ _ _ => trivial))) rfl rfl hl.1 rfl (lv_room (Nat.le_of_ble_eq_true rfl)) dX5_init_46 ⟨Nat.le_of_ble_eq_true rfl, Nat.le_of_ble_eq_true rfl⟩) hS (fun q _ h => hFc q h) hFc (fun zu zt H1 locs1 ht hvm hq hB hz1 hk1 hS => ?_)
  obtain ⟨hP1, hD1⟩ := hB
  rw [ht] at hP1
  obtain ⟨hP, hD⟩ := va_join (wr := [(q_x, .inr (5, [.ref q_nt, .ref q_rw, .ref q_rv, .null, .null, .null])), (q_nt, .inr (2, [.ref q_en, .ref q_ba, .ref q_de, .int (nI 3), .int (nI (prs tF))])), (q_en, .inl (cI, 32, .inl (aE tF))), (q_ba, .inl (cZ, 32, .inl (aB wF))), (q_de, .inl (cI, 8, .inl (aN (dg tF)))), (q_rw, .inr (4, [.ref q_nm, .int (nI 0)])), (q_nm, .inl (cI, 40, .inl (aN zrF))), (q_rv, .inr (4, [.ref q_nv, .int (nI 0)])), (q_nv, .inl (cI, 40, .inl (aN zrF)))]) (w1 := [(q_hd, .inr (0, [.ref q_nt]))]) hP hD [9] [0, 1, 2, 3, 4, 5, 6, 7, 8] rfl rfl (by decide) (by decide) hk1 hFc hP1 hD1
  have hP : va_P D vwCl [(q_x, .inr (5, [.ref q_nt, .ref q_rw, .ref q_rv, .null, .null, .null])), (q_nt, .inr (2, [.ref q_en, .ref q_ba, .ref q_de, .int (nI 3), .int (nI (prs tF))])), (q_en, .inl (cI, 32, .inl (aE tF))), (q_ba, .inl (cZ, 32, .inl (aB wF))), (q_de, .inl (cI, 8, .inl (aN (dg tF)))), (q_rw, .inr (4, [.ref q_nm, .int (nI 0)])), (q_nm, .inl (cI, 40, .inl (aN zrF))), (q_rv, .inr (4, [.ref q_nv, .int (nI 0)])), (q_nv, .inl (cI, 40, .inl (aN zrF))), (q_hd, .inr (0, [.ref q_nt]))] H1 := hP
  have hD : va_D A [(q_x, .inr (5, [.ref q_nt, .ref q_rw, .ref q_rv, .null, .null, .null])), (q_nt, .inr (2, [.ref q_en, .ref q_ba, .ref q_de, .int (nI 3), .int (nI (prs tF))])), (q_en, .inl (cI, 32, .inl (aE tF))), (q_ba, .inl (cZ, 32, .inl (aB wF))), (q_de, .inl (cI, 8, .inl (aN (dg tF)))), (q_rw, .inr (4, [.ref q_nm, .int (nI 0)])), (q_nm, .inl (cI, 40, .inl (aN zrF))), (q_rv, .inr (4, [.ref q_nv, .int (nI 0)])), (q_nv, .inl (cI, 40, .inl (aN zrF))), (q_hd, .inr (0, [.ref q_nt]))] := hD
  clear hP1 hD1 hk1 hz1 hFc hDc hPc ht hvm
  refine W.widen (k := 9) (n := 162) (Nat.le_of_ble_eq_true rfl) (Nat.le_of_ble_eq_true rfl) ?_
  refine va_putF (D := D) (ci := 5) (v := .ref q_hd) (ty := .object "NetWalkers$Hands") (C := RX5) (T := TX5) (N := 6) hx hb hts i_X5_init_X5 tyX5 tyX5_ok nmX5 hown hZ.1 hP hD hS 0 rfl rfl 3 (by decide) (hts _ m_X5_init_f31) (fun _ h9 => h9) rfl hin rfl (by decide +kernel) rfl rfl (Nat.le_of_ble_eq_true rfl) dX5_init_49 (fun H locs hP hD hS => ?_)
  have hP : va_P D vwCl [(q_x, .inr (5, [.ref q_nt, .ref q_rw, .ref q_rv, .ref q_hd, .null, .null])), (q_nt, .inr (2, [.ref q_en, .ref q_ba, .ref q_de, .int (nI 3), .int (nI (prs tF))])), (q_en, .inl (cI, 32, .inl (aE tF))), (q_ba, .inl (cZ, 32, .inl (aB wF))), (q_de, .inl (cI, 8, .inl (aN (dg tF)))), (q_rw, .inr (4, [.ref q_nm, .int (nI 0)])), (q_nm, .inl (cI, 40, .inl (aN zrF))), (q_rv, .inr (4, [.ref q_nv, .int (nI 0)])), (q_nv, .inl (cI, 40, .inl (aN zrF))), (q_hd, .inr (0, [.ref q_nt]))] H := hP
  have hD : va_D A [(q_x, .inr (5, [.ref q_nt, .ref q_rw, .ref q_rv, .ref q_hd, .null, .null])), (q_nt, .inr (2, [.ref q_en, .ref q_ba, .ref q_de, .int (nI 3), .int (nI (prs tF))])), (q_en, .inl (cI, 32, .inl (aE tF))), (q_ba, .inl (cZ, 32, .inl (aB wF))), (q_de, .inl (cI, 8, .inl (aN (dg tF)))), (q_rw, .inr (4, [.ref q_nm, .int (nI 0)])), (q_nm, .inl (cI, 40, .inl (aN zrF))), (q_rv, .inr (4, [.ref q_nv, .int (nI 0)])), (q_nv, .inl (cI, 40, .inl (aN zrF))), (q_hd, .inr (0, [.ref q_nt]))] := hD
  refine lv_aload_n hx hb dX5_init_52 rfl (lv_at hl 0 rfl) ?_
  refine va_new (ci := 1) (fs := [.null, .null, .null, .int (nI 0)]) (C := RX1) (T := TX1) (N := 4) hx hb hts i_X5_init_X1 tyX1 tyX1_ok hown (hts _ m_X5_init_cl35) (hts _ m_X5_init_isX1) (hts _ m_X5_init_inX1) hZ.1 hP hD hS hA rfl (fun j hj => by rcases (show j = 0 ∨ j = 1 ∨ j = 2 ∨ j = 3 by omega) with rfl | rfl | rfl | rfl <;> rfl) (Nat.le_of_ble_eq_true rfl) (Nat.le_of_ble_eq_true rfl) dX5_init_53 (fun q_lk H hP hD hS => ?_)
  have hP : va_P D vwCl [(q_x, .inr (5, [.ref q_nt, .ref q_rw, .ref q_rv, .ref q_hd, .null, .null])), (q_nt, .inr (2, [.ref q_en, .ref q_ba, .ref q_de, .int (nI 3), .int (nI (prs tF))])), (q_en, .inl (cI, 32, .inl (aE tF))), (q_ba, .inl (cZ, 32, .inl (aB wF))), (q_de, .inl (cI, 8, .inl (aN (dg tF)))), (q_rw, .inr (4, [.ref q_nm, .int (nI 0)])), (q_nm, .inl (cI, 40, .inl (aN zrF))), (q_rv, .inr (4, [.ref q_nv, .int (nI 0)])), (q_nv, .inl (cI, 40, .inl (aN zrF))), (q_hd, .inr (0, [.ref q_nt])), (q_lk, .inr (1, [.null, .null, .null, .int (nI 0)]))] H := hP
  have hD : va_D A [(q_x, .inr (5, [.ref q_nt, .ref q_rw, .ref q_rv, .ref q_hd, .null, .null])), (q_nt, .inr (2, [.ref q_en, .ref q_ba, .ref q_de, .int (nI 3), .int (nI (prs tF))])), (q_en, .inl (cI, 32, .inl (aE tF))), (q_ba, .inl (cZ, 32, .inl (aB wF))), (q_de, .inl (cI, 8, .inl (aN (dg tF)))), (q_rw, .inr (4, [.ref q_nm, .int (nI 0)])), (q_nm, .inl (cI, 40, .inl (aN zrF))), (q_rv, .inr (4, [.ref q_nv, .int (nI 0)])), (q_nv, .inl (cI, 40, .inl (aN zrF))), (q_hd, .inr (0, [.ref q_nt])), (q_lk, .inr (1, [.null, .null, .null, .int (nI 0)]))] := hD
  refine W.widen (k := 10) (n := 166) (Nat.le_of_ble_eq_true rfl) (Nat.le_of_ble_eq_true rfl) ?_
  refine lv_dup hx hb dX5_init_56 rfl ?_
  refine lv_aload_n hx hb dX5_init_57 rfl (lv_at hl 0 rfl) ?_
  refine va_get (D := D) (ci := 5) (v := .ref q_nt) (C := RX5) (T := TX5) (N := 6) hx hb hts i_X5_init_X5 hown hZ.1 hP 0 rfl rfl 0 (by decide) (hts _ m_X5_init_f10) (fun _ h9 => h9) rfl dX5_init_58 ?_
  have hPc : va_P D vwCl [(q_lk, .inr (1, [.null, .null, .null, .int (nI 0)]))] H := hP.sub [10] rfl
  have hDc : va_D A [(q_lk, .inr (1, [.null, .null, .null, .int (nI 0)]))] := hD.sub [10] (by decide) rfl
  have hFc := va_free (wc := [(q_lk, .inr (1, [.null, .null, .null, .int (nI 0)]))]) hD hS hA [10] rfl
  refine va_callv (va_runI (As := [.ref q_nt]) (rest := [.ref q_lk, .ref q_x]) ⟨hx, hb, hml, hown, hts⟩ (k_X1_init q_lk q_nt H.size) (cwI 1 hts gX5_init_X1_init rfl rfl rfl (hts _ m_X5_init_inX1) (hts _ m_X5_init_mlX1) (hts _ m_X5_init_imX1) rfl (by decide +kernel) ⟨Nat.le_of_ble_eq_true rfl, Nat.le_of_ble_eq_true rfl⟩) (zPw_S (As := [.ref q_lk, .ref q_nt]) hZ hPc (hDc.weaken (fun _ _ _ _ => trivial))) rfl rfl hl.1 rfl (lv_room (Nat.le_of_ble_eq_true rfl)) dX5_init_61 ⟨Nat.le_of_ble_eq_true rfl, Nat.le_of_ble_eq_true rfl⟩) hS (fun q _ h => hFc q h) hFc (fun zu zt H1 locs1 ht hvm hq hB hz1 hk1 hS => ?_)
  obtain ⟨q_kn, q_fi⟩ := zu
  obtain ⟨hP1, hD1⟩ := hB
  rw [ht] at hP1
  obtain ⟨hP, hD⟩ := va_join (wr := [(q_x, .inr (5, [.ref q_nt, .ref q_rw, .ref q_rv, .ref q_hd, .null, .null])), (q_nt, .inr (2, [.ref q_en, .ref q_ba, .ref q_de, .int (nI 3), .int (nI (prs tF))])), (q_en, .inl (cI, 32, .inl (aE tF))), (q_ba, .inl (cZ, 32, .inl (aB wF))), (q_de, .inl (cI, 8, .inl (aN (dg tF)))), (q_rw, .inr (4, [.ref q_nm, .int (nI 0)])), (q_nm, .inl (cI, 40, .inl (aN zrF))), (q_rv, .inr (4, [.ref q_nv, .int (nI 0)])), (q_nv, .inl (cI, 40, .inl (aN zrF))), (q_hd, .inr (0, [.ref q_nt]))]) (w1 := [(q_lk, .inr (1, [.ref q_nt, .ref q_kn, .ref q_fi, .int (nI 0)])), (q_kn, .inl (cI, 8, .inl (aN zrF))), (q_fi, .inl (cI, 8, .inl (aN zrF)))]) hP hD [10] [0, 1, 2, 3, 4, 5, 6, 7, 8, 9] rfl rfl (by decide) (by decide) hk1 hFc hP1 hD1
  have hP : va_P D vwCl [(q_x, .inr (5, [.ref q_nt, .ref q_rw, .ref q_rv, .ref q_hd, .null, .null])), (q_nt, .inr (2, [.ref q_en, .ref q_ba, .ref q_de, .int (nI 3), .int (nI (prs tF))])), (q_en, .inl (cI, 32, .inl (aE tF))), (q_ba, .inl (cZ, 32, .inl (aB wF))), (q_de, .inl (cI, 8, .inl (aN (dg tF)))), (q_rw, .inr (4, [.ref q_nm, .int (nI 0)])), (q_nm, .inl (cI, 40, .inl (aN zrF))), (q_rv, .inr (4, [.ref q_nv, .int (nI 0)])), (q_nv, .inl (cI, 40, .inl (aN zrF))), (q_hd, .inr (0, [.ref q_nt])), (q_lk, .inr (1, [.ref q_nt, .ref q_kn, .ref q_fi, .int (nI 0)])), (q_kn, .inl (cI, 8, .inl (aN zrF))), (q_fi, .inl (cI, 8, .inl (aN zrF)))] H1 := hP
  have hD : va_D A [(q_x, .inr (5, [.ref q_nt, .ref q_rw, .ref q_rv, .ref q_hd, .null, .null])), (q_nt, .inr (2, [.ref q_en, .ref q_ba, .ref q_de, .int (nI 3), .int (nI (prs tF))])), (q_en, .inl (cI, 32, .inl (aE tF))), (q_ba, .inl (cZ, 32, .inl (aB wF))), (q_de, .inl (cI, 8, .inl (aN (dg tF)))), (q_rw, .inr (4, [.ref q_nm, .int (nI 0)])), (q_nm, .inl (cI, 40, .inl (aN zrF))), (q_rv, .inr (4, [.ref q_nv, .int (nI 0)])), (q_nv, .inl (cI, 40, .inl (aN zrF))), (q_hd, .inr (0, [.ref q_nt])), (q_lk, .inr (1, [.ref q_nt, .ref q_kn, .ref q_fi, .int (nI 0)])), (q_kn, .inl (cI, 8, .inl (aN zrF))), (q_fi, .inl (cI, 8, .inl (aN zrF)))] := hD
  clear hP1 hD1 hk1 hz1 hFc hDc hPc ht hvm
  refine W.widen (k := 12) (n := 182) (Nat.le_of_ble_eq_true rfl) (Nat.le_of_ble_eq_true rfl) ?_
  refine va_putF (D := D) (ci := 5) (v := .ref q_lk) (ty := .object "NetWalkers$Looks") (C := RX5) (T := TX5) (N := 6) hx hb hts i_X5_init_X5 tyX5 tyX5_ok nmX5 hown hZ.1 hP hD hS 0 rfl rfl 4 (by decide) (hts _ m_X5_init_f38) (fun _ h9 => h9) rfl hin rfl (by decide +kernel) rfl rfl (Nat.le_of_ble_eq_true rfl) dX5_init_64 (fun H locs hP hD hS => ?_)
  have hP : va_P D vwCl [(q_x, .inr (5, [.ref q_nt, .ref q_rw, .ref q_rv, .ref q_hd, .ref q_lk, .null])), (q_nt, .inr (2, [.ref q_en, .ref q_ba, .ref q_de, .int (nI 3), .int (nI (prs tF))])), (q_en, .inl (cI, 32, .inl (aE tF))), (q_ba, .inl (cZ, 32, .inl (aB wF))), (q_de, .inl (cI, 8, .inl (aN (dg tF)))), (q_rw, .inr (4, [.ref q_nm, .int (nI 0)])), (q_nm, .inl (cI, 40, .inl (aN zrF))), (q_rv, .inr (4, [.ref q_nv, .int (nI 0)])), (q_nv, .inl (cI, 40, .inl (aN zrF))), (q_hd, .inr (0, [.ref q_nt])), (q_lk, .inr (1, [.ref q_nt, .ref q_kn, .ref q_fi, .int (nI 0)])), (q_kn, .inl (cI, 8, .inl (aN zrF))), (q_fi, .inl (cI, 8, .inl (aN zrF)))] H := hP
  have hD : va_D A [(q_x, .inr (5, [.ref q_nt, .ref q_rw, .ref q_rv, .ref q_hd, .ref q_lk, .null])), (q_nt, .inr (2, [.ref q_en, .ref q_ba, .ref q_de, .int (nI 3), .int (nI (prs tF))])), (q_en, .inl (cI, 32, .inl (aE tF))), (q_ba, .inl (cZ, 32, .inl (aB wF))), (q_de, .inl (cI, 8, .inl (aN (dg tF)))), (q_rw, .inr (4, [.ref q_nm, .int (nI 0)])), (q_nm, .inl (cI, 40, .inl (aN zrF))), (q_rv, .inr (4, [.ref q_nv, .int (nI 0)])), (q_nv, .inl (cI, 40, .inl (aN zrF))), (q_hd, .inr (0, [.ref q_nt])), (q_lk, .inr (1, [.ref q_nt, .ref q_kn, .ref q_fi, .int (nI 0)])), (q_kn, .inl (cI, 8, .inl (aN zrF))), (q_fi, .inl (cI, 8, .inl (aN zrF)))] := hD
  refine lv_aload_n hx hb dX5_init_67 rfl (lv_at hl 0 rfl) ?_
  refine va_new (ci := 3) (fs := [.null, .null]) (C := RX3) (T := TX3) (N := 2) hx hb hts i_X5_init_X3 tyX3 tyX3_ok hown (hts _ m_X5_init_cl42) (hts _ m_X5_init_isX3) (hts _ m_X5_init_inX3) hZ.1 hP hD hS hA rfl (fun j hj => by rcases (show j = 0 ∨ j = 1 by omega) with rfl | rfl <;> rfl) (Nat.le_of_ble_eq_true rfl) (Nat.le_of_ble_eq_true rfl) dX5_init_68 (fun q_rg H hP hD hS => ?_)
  have hP : va_P D vwCl [(q_x, .inr (5, [.ref q_nt, .ref q_rw, .ref q_rv, .ref q_hd, .ref q_lk, .null])), (q_nt, .inr (2, [.ref q_en, .ref q_ba, .ref q_de, .int (nI 3), .int (nI (prs tF))])), (q_en, .inl (cI, 32, .inl (aE tF))), (q_ba, .inl (cZ, 32, .inl (aB wF))), (q_de, .inl (cI, 8, .inl (aN (dg tF)))), (q_rw, .inr (4, [.ref q_nm, .int (nI 0)])), (q_nm, .inl (cI, 40, .inl (aN zrF))), (q_rv, .inr (4, [.ref q_nv, .int (nI 0)])), (q_nv, .inl (cI, 40, .inl (aN zrF))), (q_hd, .inr (0, [.ref q_nt])), (q_lk, .inr (1, [.ref q_nt, .ref q_kn, .ref q_fi, .int (nI 0)])), (q_kn, .inl (cI, 8, .inl (aN zrF))), (q_fi, .inl (cI, 8, .inl (aN zrF))), (q_rg, .inr (3, [.null, .null]))] H := hP
  have hD : va_D A [(q_x, .inr (5, [.ref q_nt, .ref q_rw, .ref q_rv, .ref q_hd, .ref q_lk, .null])), (q_nt, .inr (2, [.ref q_en, .ref q_ba, .ref q_de, .int (nI 3), .int (nI (prs tF))])), (q_en, .inl (cI, 32, .inl (aE tF))), (q_ba, .inl (cZ, 32, .inl (aB wF))), (q_de, .inl (cI, 8, .inl (aN (dg tF)))), (q_rw, .inr (4, [.ref q_nm, .int (nI 0)])), (q_nm, .inl (cI, 40, .inl (aN zrF))), (q_rv, .inr (4, [.ref q_nv, .int (nI 0)])), (q_nv, .inl (cI, 40, .inl (aN zrF))), (q_hd, .inr (0, [.ref q_nt])), (q_lk, .inr (1, [.ref q_nt, .ref q_kn, .ref q_fi, .int (nI 0)])), (q_kn, .inl (cI, 8, .inl (aN zrF))), (q_fi, .inl (cI, 8, .inl (aN zrF))), (q_rg, .inr (3, [.null, .null]))] := hD
  refine W.widen (k := 13) (n := 184) (Nat.le_of_ble_eq_true rfl) (Nat.le_of_ble_eq_true rfl) ?_
  refine lv_dup hx hb dX5_init_71 rfl ?_
  have hPc : va_P D vwCl [(q_rg, .inr (3, [.null, .null]))] H := hP.sub [13] rfl
  have hDc : va_D A [(q_rg, .inr (3, [.null, .null]))] := hD.sub [13] (by decide) rfl
  have hFc := va_free (wc := [(q_rg, .inr (3, [.null, .null]))]) hD hS hA [13] rfl
  refine va_callv (va_runIN (As := []) (rest := [.ref q_rg, .ref q_x]) ⟨hx, hb, hml, hown, hts⟩ (k_X3_init q_rg  H.size) ⟨va_cnB 0 hts gX5_init_X3_init_n44 rfl rfl rfl hZ.2.2.1 (hts _ m_X5_init_inX3) (by decide +kernel) ⟨Nat.le_of_ble_eq_true rfl, Nat.le_of_ble_eq_true rfl⟩, rfl, (hts _ m_X5_init_imX3)⟩ (zPw_S (As := [.ref q_rg]) hZ hPc (hDc.weaken (fun _ _ _ _ => trivial))) rfl rfl hl.1 rfl (lv_room (Nat.le_of_ble_eq_true rfl)) dX5_init_72 ⟨Nat.le_of_ble_eq_true rfl, Nat.le_of_ble_eq_true rfl⟩) hS (fun q _ h => hFc q h) hFc (fun zu zt H1 locs1 ht hvm hq hB hz1 hk1 hS => ?_)
  obtain ⟨q_le, q_fo⟩ := zu
  obtain ⟨hP1, hD1⟩ := hB
  rw [ht] at hP1
  obtain ⟨hP, hD⟩ := va_join (wr := [(q_x, .inr (5, [.ref q_nt, .ref q_rw, .ref q_rv, .ref q_hd, .ref q_lk, .null])), (q_nt, .inr (2, [.ref q_en, .ref q_ba, .ref q_de, .int (nI 3), .int (nI (prs tF))])), (q_en, .inl (cI, 32, .inl (aE tF))), (q_ba, .inl (cZ, 32, .inl (aB wF))), (q_de, .inl (cI, 8, .inl (aN (dg tF)))), (q_rw, .inr (4, [.ref q_nm, .int (nI 0)])), (q_nm, .inl (cI, 40, .inl (aN zrF))), (q_rv, .inr (4, [.ref q_nv, .int (nI 0)])), (q_nv, .inl (cI, 40, .inl (aN zrF))), (q_hd, .inr (0, [.ref q_nt])), (q_lk, .inr (1, [.ref q_nt, .ref q_kn, .ref q_fi, .int (nI 0)])), (q_kn, .inl (cI, 8, .inl (aN zrF))), (q_fi, .inl (cI, 8, .inl (aN zrF)))]) (w1 := [(q_rg, .inr (3, [.ref q_le, .ref q_fo])), (q_le, .inl (cI, 5, .inl z0I)), (q_fo, .inl (cI, 5, .inl z0I))]) hP hD [13] [0, 1, 2, 3, 4, 5, 6, 7, 8, 9, 10, 11, 12] rfl rfl (by decide) (by decide) hk1 hFc hP1 hD1
  have hP : va_P D vwCl [(q_x, .inr (5, [.ref q_nt, .ref q_rw, .ref q_rv, .ref q_hd, .ref q_lk, .null])), (q_nt, .inr (2, [.ref q_en, .ref q_ba, .ref q_de, .int (nI 3), .int (nI (prs tF))])), (q_en, .inl (cI, 32, .inl (aE tF))), (q_ba, .inl (cZ, 32, .inl (aB wF))), (q_de, .inl (cI, 8, .inl (aN (dg tF)))), (q_rw, .inr (4, [.ref q_nm, .int (nI 0)])), (q_nm, .inl (cI, 40, .inl (aN zrF))), (q_rv, .inr (4, [.ref q_nv, .int (nI 0)])), (q_nv, .inl (cI, 40, .inl (aN zrF))), (q_hd, .inr (0, [.ref q_nt])), (q_lk, .inr (1, [.ref q_nt, .ref q_kn, .ref q_fi, .int (nI 0)])), (q_kn, .inl (cI, 8, .inl (aN zrF))), (q_fi, .inl (cI, 8, .inl (aN zrF))), (q_rg, .inr (3, [.ref q_le, .ref q_fo])), (q_le, .inl (cI, 5, .inl z0I)), (q_fo, .inl (cI, 5, .inl z0I))] H1 := hP
  have hD : va_D A [(q_x, .inr (5, [.ref q_nt, .ref q_rw, .ref q_rv, .ref q_hd, .ref q_lk, .null])), (q_nt, .inr (2, [.ref q_en, .ref q_ba, .ref q_de, .int (nI 3), .int (nI (prs tF))])), (q_en, .inl (cI, 32, .inl (aE tF))), (q_ba, .inl (cZ, 32, .inl (aB wF))), (q_de, .inl (cI, 8, .inl (aN (dg tF)))), (q_rw, .inr (4, [.ref q_nm, .int (nI 0)])), (q_nm, .inl (cI, 40, .inl (aN zrF))), (q_rv, .inr (4, [.ref q_nv, .int (nI 0)])), (q_nv, .inl (cI, 40, .inl (aN zrF))), (q_hd, .inr (0, [.ref q_nt])), (q_lk, .inr (1, [.ref q_nt, .ref q_kn, .ref q_fi, .int (nI 0)])), (q_kn, .inl (cI, 8, .inl (aN zrF))), (q_fi, .inl (cI, 8, .inl (aN zrF))), (q_rg, .inr (3, [.ref q_le, .ref q_fo])), (q_le, .inl (cI, 5, .inl z0I)), (q_fo, .inl (cI, 5, .inl z0I))] := hD
  clear hP1 hD1 hk1 hz1 hFc hDc hPc ht hvm
  refine W.widen (k := 15) (n := 194) (Nat.le_of_ble_eq_true rfl) (Nat.le_of_ble_eq_true rfl) ?_
  refine va_putF (D := D) (ci := 5) (v := .ref q_rg) (ty := .object "NetWalkers$Rings") (C := RX5) (T := TX5) (N := 6) hx hb hts i_X5_init_X5 tyX5 tyX5_ok nmX5 hown hZ.1 hP hD hS 0 rfl rfl 5 (by decide) (hts _ m_X5_init_f45) (fun _ h9 => h9) rfl hin rfl (by decide +kernel) rfl rfl (Nat.le_of_ble_eq_true rfl) dX5_init_75 (fun H locs hP hD hS => ?_)
  have hP : va_P D vwCl [(q_x, .inr (5, [.ref q_nt, .ref q_rw, .ref q_rv, .ref q_hd, .ref q_lk, .ref q_rg])), (q_nt, .inr (2, [.ref q_en, .ref q_ba, .ref q_de, .int (nI 3), .int (nI (prs tF))])), (q_en, .inl (cI, 32, .inl (aE tF))), (q_ba, .inl (cZ, 32, .inl (aB wF))), (q_de, .inl (cI, 8, .inl (aN (dg tF)))), (q_rw, .inr (4, [.ref q_nm, .int (nI 0)])), (q_nm, .inl (cI, 40, .inl (aN zrF))), (q_rv, .inr (4, [.ref q_nv, .int (nI 0)])), (q_nv, .inl (cI, 40, .inl (aN zrF))), (q_hd, .inr (0, [.ref q_nt])), (q_lk, .inr (1, [.ref q_nt, .ref q_kn, .ref q_fi, .int (nI 0)])), (q_kn, .inl (cI, 8, .inl (aN zrF))), (q_fi, .inl (cI, 8, .inl (aN zrF))), (q_rg, .inr (3, [.ref q_le, .ref q_fo])), (q_le, .inl (cI, 5, .inl z0I)), (q_fo, .inl (cI, 5, .inl z0I))] H := hP
  have hD : va_D A [(q_x, .inr (5, [.ref q_nt, .ref q_rw, .ref q_rv, .ref q_hd, .ref q_lk, .ref q_rg])), (q_nt, .inr (2, [.ref q_en, .ref q_ba, .ref q_de, .int (nI 3), .int (nI (prs tF))])), (q_en, .inl (cI, 32, .inl (aE tF))), (q_ba, .inl (cZ, 32, .inl (aB wF))), (q_de, .inl (cI, 8, .inl (aN (dg tF)))), (q_rw, .inr (4, [.ref q_nm, .int (nI 0)])), (q_nm, .inl (cI, 40, .inl (aN zrF))), (q_rv, .inr (4, [.ref q_nv, .int (nI 0)])), (q_nv, .inl (cI, 40, .inl (aN zrF))), (q_hd, .inr (0, [.ref q_nt])), (q_lk, .inr (1, [.ref q_nt, .ref q_kn, .ref q_fi, .int (nI 0)])), (q_kn, .inl (cI, 8, .inl (aN zrF))), (q_fi, .inl (cI, 8, .inl (aN zrF))), (q_rg, .inr (3, [.ref q_le, .ref q_fo])), (q_le, .inl (cI, 5, .inl z0I)), (q_fo, .inl (cI, 5, .inl z0I))] := hD
  have hP9 : va_P D vwCl [(q_x, .inr (5, [.ref q_nt, .ref q_rw, .ref q_rv, .ref q_hd, .ref q_lk, .ref q_rg])), (q_nt, .inr (2, [.ref q_en, .ref q_ba, .ref q_de, .int (nI 3), .int (nI (prs tF))])), (q_en, .inl (cI, 32, .inl (aE tF))), (q_ba, .inl (cZ, 32, .inl (aB wF))), (q_de, .inl (cI, 8, .inl (aN (dg tF)))), (q_rw, .inr (4, [.ref q_nm, .int (nI 0)])), (q_nm, .inl (cI, 40, .inl (aN zrF))), (q_rv, .inr (4, [.ref q_nv, .int (nI 0)])), (q_nv, .inl (cI, 40, .inl (aN zrF))), (q_hd, .inr (0, [.ref q_nt])), (q_lk, .inr (1, [.ref q_nt, .ref q_kn, .ref q_fi, .int (nI 0)])), (q_kn, .inl (cI, 8, .inl (aN zrF))), (q_fi, .inl (cI, 8, .inl (aN zrF))), (q_rg, .inr (3, [.ref q_le, .ref q_fo])), (q_le, .inl (cI, 5, .inl z0I)), (q_fo, .inl (cI, 5, .inl z0I))] H := hP.sub [0, 1, 2, 3, 4, 5, 6, 7, 8, 9, 10, 11, 12, 13, 14, 15] rfl
  have hD9 : va_D A [(q_x, .inr (5, [.ref q_nt, .ref q_rw, .ref q_rv, .ref q_hd, .ref q_lk, .ref q_rg])), (q_nt, .inr (2, [.ref q_en, .ref q_ba, .ref q_de, .int (nI 3), .int (nI (prs tF))])), (q_en, .inl (cI, 32, .inl (aE tF))), (q_ba, .inl (cZ, 32, .inl (aB wF))), (q_de, .inl (cI, 8, .inl (aN (dg tF)))), (q_rw, .inr (4, [.ref q_nm, .int (nI 0)])), (q_nm, .inl (cI, 40, .inl (aN zrF))), (q_rv, .inr (4, [.ref q_nv, .int (nI 0)])), (q_nv, .inl (cI, 40, .inl (aN zrF))), (q_hd, .inr (0, [.ref q_nt])), (q_lk, .inr (1, [.ref q_nt, .ref q_kn, .ref q_fi, .int (nI 0)])), (q_kn, .inl (cI, 8, .inl (aN zrF))), (q_fi, .inl (cI, 8, .inl (aN zrF))), (q_rg, .inr (3, [.ref q_le, .ref q_fo])), (q_le, .inl (cI, 5, .inl z0I)), (q_fo, .inl (cI, 5, .inl z0I))] := hD.sub [0, 1, 2, 3, 4, 5, 6, 7, 8, 9, 10, 11, 12, 13, 14, 15] (by decide) rfl
  exact W.vret hx hb hr (fun t ht hW => ⟨⟨(q_nt, q_en, q_ba, q_de, q_rw, q_nm, q_rv, q_nv, q_hd, q_lk, q_kn, q_fi, q_rg, q_le, q_fo), rfl, trivial, by rw [ht]; exact hP9, hD9⟩, hS.F ht⟩) hS.2.2 dX5_init_78
theorem c_X5_init {l : Launch} {D : va_G} {cI cZ : ClassId} : K_X5_init l D cI cZ := w_X5_init c_X2_init c_X4_init c_X0_init c_X1_init c_X3_init
theorem m_X6_init_oc : Cond.code objectInit ⟨#[0xb1]⟩ 1 none ∈ wsX6_init := by decide +kernel
theorem m_X6_init_ol : Cond.methodLink RX6 1 objectInit ∈ wsX6_init := by decide +kernel
theorem m_X6_init_oi : Cond.instanceMethod objectInit ∈ wsX6_init := by decide +kernel
theorem m_X6_init_f7 : Cond.fieldLink RX6 7 "NetWalkersModel" "posts" "I" ∈ wsX6_init := by decide +kernel
theorem i_X6_init_X6 : ∀ w ∈ wsX60, w ∈ wsX6_init := by decide +kernel
theorem m_X6_init_aint : Cond.arrayClass .int ∈ wsX6_init := by decide +kernel
theorem m_X6_init_f13 : Cond.fieldLink RX6 13 "NetWalkersModel" "to" "[I" ∈ wsX6_init := by decide +kernel
theorem m_X6_init_aboolean : Cond.arrayClass .boolean ∈ wsX6_init := by decide +kernel
theorem m_X6_init_f17 : Cond.fieldLink RX6 17 "NetWalkersModel" "isBad" "[Z" ∈ wsX6_init := by decide +kernel
theorem m_X6_init_f21 : Cond.fieldLink RX6 21 "NetWalkersModel" "length" "[I" ∈ wsX6_init := by decide +kernel
theorem m_X6_init_f24 : Cond.fieldLink RX6 24 "NetWalkersModel" "row" "[I" ∈ wsX6_init := by decide +kernel
theorem m_X6_init_f27 : Cond.fieldLink RX6 27 "NetWalkersModel" "look" "[I" ∈ wsX6_init := by decide +kernel
theorem m_X6_init_f30 : Cond.fieldLink RX6 30 "NetWalkersModel" "deeper" "[I" ∈ wsX6_init := by decide +kernel
theorem m_X6_init_f33 : Cond.fieldLink RX6 33 "NetWalkersModel" "shortest" "[I" ∈ wsX6_init := by decide +kernel
theorem m_X6_init_f36 : Cond.fieldLink RX6 36 "NetWalkersModel" "found" "[I" ∈ wsX6_init := by decide +kernel
def K_X6_init (l : Launch) (D : va_G) (cI cZ : ClassId) : Prop := ∀ (q_md : Nat) (sz : Nat), Met l yX6_init wsX6_init ({ frames := 1, cells := 8, slots := 172, locals := 21 } : Room) (zPw D cI cZ sz [.ref q_md] [(q_md, .inr (6, [.int (nI 0), .null, .null, .null, .null, .int (nI 0), .int (nI 0), .null, .null, .int (nI 0), .null, .null]))]) (va_Qv (S := Nat × Nat × Nat × Nat × Nat × Nat × Nat × Nat) (fun zu => True) (fun (zu : Nat × Nat × Nat × Nat × Nat × Nat × Nat × Nat) zt => va_P D vwCl [(q_md, .inr (6, [.int (nI 3), .ref zu.1, .ref zu.2.1, .ref zu.2.2.1, .ref zu.2.2.2.1, .int (nI 0), .int (nI 0), .ref zu.2.2.2.2.1, .ref zu.2.2.2.2.2.1, .int (nI 0), .ref zu.2.2.2.2.2.2.1, .ref zu.2.2.2.2.2.2.2])), (zu.1, .inl (cI, 32, .inl (aT tF))), (zu.2.1, .inl (cZ, 32, .inl (aB wF))), (zu.2.2.1, .inl (cI, 2, .inl (aN (lnF 0 0)))), (zu.2.2.2.1, .inl (cI, 80, .inl (aN (rwF zrF zrF)))), (zu.2.2.2.2.1, .inl (cI, 8, .inl z0I)), (zu.2.2.2.2.2.1, .inl (cI, 8, .inl z0I)), (zu.2.2.2.2.2.2.1, .inl (cI, 5, .inl (aN zrF))), (zu.2.2.2.2.2.2.2, .inl (cI, 5, .inl (aN zrF)))] zt.heap ∧ va_D (va_A [(q_md, .inr (6, [.int (nI 0), .null, .null, .null, .null, .int (nI 0), .int (nI 0), .null, .null, .int (nI 0), .null, .null]))] sz) [(q_md, .inr (6, [.int (nI 3), .ref zu.1, .ref zu.2.1, .ref zu.2.2.1, .ref zu.2.2.2.1, .int (nI 0), .int (nI 0), .ref zu.2.2.2.2.1, .ref zu.2.2.2.2.2.1, .int (nI 0), .ref zu.2.2.2.2.2.2.1, .ref zu.2.2.2.2.2.2.2])), (zu.1, .inl (cI, 32, .inl (aT tF))), (zu.2.1, .inl (cZ, 32, .inl (aB wF))), (zu.2.2.1, .inl (cI, 2, .inl (aN (lnF 0 0)))), (zu.2.2.2.1, .inl (cI, 80, .inl (aN (rwF zrF zrF)))), (zu.2.2.2.2.1, .inl (cI, 8, .inl z0I)), (zu.2.2.2.2.2.1, .inl (cI, 8, .inl z0I)), (zu.2.2.2.2.2.2.1, .inl (cI, 5, .inl (aN zrF))), (zu.2.2.2.2.2.2.2, .inl (cI, 5, .inl (aN zrF)))]) (va_A [(q_md, .inr (6, [.int (nI 0), .null, .null, .null, .null, .int (nI 0), .int (nI 0), .null, .null, .int (nI 0), .null, .null]))] sz)) 8 172 (va_A [(q_md, .inr (6, [.int (nI 0), .null, .null, .null, .null, .int (nI 0), .int (nI 0), .null, .null, .int (nI 0), .null, .null]))] sz)
set_option maxRecDepth 100000 in
set_option maxHeartbeats 4000000 in
theorem w_X6_init {l : Launch} {D : va_G} {cI cZ : ClassId}  : K_X6_init l D cI cZ := by
  intro q_md sz
  refine Met.ofW (cc := cX6_init) (maxL := 1) (ret := none) (by decide) rfl ?_
  intro zp ze zs zm zargs zbelow zmeth zc zs1 B hml hv
  obtain ⟨rfl, hsz, hZ, hP, hD0⟩ := hv
  have hx := B.exec
  have hb := B.bytes
  have hr := B.returns
  have hts := atoms_spec (ws := wsX6_init) B.pre
  have hown : zs.vm.findClass RX6 = some zm.cls := findClass_of_methodNamed B.named
  have hlocks := B.notSynchronized
  have hin : zmeth.name = "<init>" := (name_of_methodNamed B.named B.method).1
  subst hsz
  have hD := hD0.self (sz := zs.heap.size)
  generalize hAe : va_A [(q_md, .inr (6, [.int (nI 0), .null, .null, .null, .null, .int (nI 0), .int (nI 0), .null, .null, .int (nI 0), .null, .null]))] zs.heap.size = A at hD ⊢
  have hA : ∀ q : Nat, zs.heap.size ≤ q → A q := fun q h => by rw [← hAe]; exact Or.inr h
  have hS : va_S A zs.heap zs.heap [] := va_S.rf
  have hP : va_P D vwCl [(q_md, .inr (6, [.int (nI 0), .null, .null, .null, .null, .int (nI 0), .int (nI 0), .null, .null, .int (nI 0), .null, .null]))] zs.heap := hP
  have hl := lv_entry ([.ref q_md]) (n := 1) (Nat.le_of_ble_eq_true rfl)
  rw [lg_entry_eq]
  generalize (lg_sl ([.ref q_md]) ++ List.replicate (1 - (lg_sl ([.ref q_md])).length) Slot.unset).toArray = ls at hl ⊢
  have hl : lv_has ls 1 [(0, .ref q_md)] := hl
  refine lv_aload_n hx hb dX6_init_0 rfl (lv_at hl 0 rfl) ?_
  refine W.objInit hx hb hown (hts _ m_X6_init_ol) (hts _ m_X6_init_oi) (hts _ m_X6_init_oc) rfl (by rw [hml]; exact hl.1) rfl dX6_init_1 (Nat.le_of_ble_eq_true rfl) (Nat.le_of_ble_eq_true rfl) ?_
  refine W.eq (g2 := F0 zm 4 ls []) rfl ?_
  refine lv_aload_n hx hb dX6_init_4 rfl (lv_at hl 0 rfl) ?_
  refine lv_iconst (v := nI 3) hx hb dX6_init_5 (by decide +kernel) ?_
  refine va_put (D := D) (ci := 6) (v := .int (nI 3)) (ty := .int) (C := RX6) (T := TX6) (N := 12) hx hb hts i_X6_init_X6 tyX6 tyX6_ok nmX6 hown hZ.1 hP hD hS 0 rfl rfl 0 (by decide) (hts _ m_X6_init_f7) (fun _ h9 => h9) rfl (by decide +kernel) rfl rfl (Nat.le_of_ble_eq_true rfl) dX6_init_6 (fun H locs hP hD hS => ?_)
  have hP : va_P D vwCl [(q_md, .inr (6, [.int (nI 3), .null, .null, .null, .null, .int (nI 0), .int (nI 0), .null, .null, .int (nI 0), .null, .null]))] H := hP
  have hD : va_D A [(q_md, .inr (6, [.int (nI 3), .null, .null, .null, .null, .int (nI 0), .int (nI 0), .null, .null, .int (nI 0), .null, .null]))] := hD
  refine lv_aload_n hx hb dX6_init_9 rfl (lv_at hl 0 rfl) ?_
  refine lv_bipush (v := nI 32) hx hb dX6_init_10 (by decide +kernel) ?_
  refine z_newi (n := 32) (f := z0I) hx hb (hts _ m_X6_init_aint) hZ hP hD hS hA (fun _ => rfl) (by decide) (Nat.le_of_ble_eq_true rfl) (Nat.le_of_ble_eq_true rfl) dX6_init_12 (fun q_mt H hP hD hS => ?_)
  have hP : va_P D vwCl [(q_md, .inr (6, [.int (nI 3), .null, .null, .null, .null, .int (nI 0), .int (nI 0), .null, .null, .int (nI 0), .null, .null])), (q_mt, .inl (cI, 32, .inl z0I))] H := hP
  have hD : va_D A [(q_md, .inr (6, [.int (nI 3), .null, .null, .null, .null, .int (nI 0), .int (nI 0), .null, .null, .int (nI 0), .null, .null])), (q_mt, .inl (cI, 32, .inl z0I))] := hD
  refine W.widen (k := 1) (n := 32) (Nat.le_of_ble_eq_true rfl) (Nat.le_of_ble_eq_true rfl) ?_
  refine va_putF (D := D) (ci := 6) (v := .ref q_mt) (ty := .array .int) (C := RX6) (T := TX6) (N := 12) hx hb hts i_X6_init_X6 tyX6 tyX6_ok nmX6 hown hZ.1 hP hD hS 0 rfl rfl 1 (by decide) (hts _ m_X6_init_f13) (fun _ h9 => h9) rfl hin rfl (by decide +kernel) rfl rfl (Nat.le_of_ble_eq_true rfl) dX6_init_14 (fun H locs hP hD hS => ?_)
  have hP : va_P D vwCl [(q_md, .inr (6, [.int (nI 3), .ref q_mt, .null, .null, .null, .int (nI 0), .int (nI 0), .null, .null, .int (nI 0), .null, .null])), (q_mt, .inl (cI, 32, .inl z0I))] H := hP
  have hD : va_D A [(q_md, .inr (6, [.int (nI 3), .ref q_mt, .null, .null, .null, .int (nI 0), .int (nI 0), .null, .null, .int (nI 0), .null, .null])), (q_mt, .inl (cI, 32, .inl z0I))] := hD
  refine lv_aload_n hx hb dX6_init_17 rfl (lv_at hl 0 rfl) ?_
  refine lv_bipush (v := nI 32) hx hb dX6_init_18 (by decide +kernel) ?_
  refine z_newz (n := 32) (f := (aB wF)) hx hb (hts _ m_X6_init_aboolean) hZ hP hD hS hA (fun _ => rfl) (by decide) (Nat.le_of_ble_eq_true rfl) (Nat.le_of_ble_eq_true rfl) dX6_init_20 (fun q_mb H hP hD hS => ?_)
  have hP : va_P D vwCl [(q_md, .inr (6, [.int (nI 3), .ref q_mt, .null, .null, .null, .int (nI 0), .int (nI 0), .null, .null, .int (nI 0), .null, .null])), (q_mt, .inl (cI, 32, .inl z0I)), (q_mb, .inl (cZ, 32, .inl (aB wF)))] H := hP
  have hD : va_D A [(q_md, .inr (6, [.int (nI 3), .ref q_mt, .null, .null, .null, .int (nI 0), .int (nI 0), .null, .null, .int (nI 0), .null, .null])), (q_mt, .inl (cI, 32, .inl z0I)), (q_mb, .inl (cZ, 32, .inl (aB wF)))] := hD
  refine W.widen (k := 2) (n := 64) (Nat.le_of_ble_eq_true rfl) (Nat.le_of_ble_eq_true rfl) ?_
  refine va_putF (D := D) (ci := 6) (v := .ref q_mb) (ty := .array .boolean) (C := RX6) (T := TX6) (N := 12) hx hb hts i_X6_init_X6 tyX6 tyX6_ok nmX6 hown hZ.1 hP hD hS 0 rfl rfl 2 (by decide) (hts _ m_X6_init_f17) (fun _ h9 => h9) rfl hin rfl (by decide +kernel) rfl rfl (Nat.le_of_ble_eq_true rfl) dX6_init_22 (fun H locs hP hD hS => ?_)
  have hP : va_P D vwCl [(q_md, .inr (6, [.int (nI 3), .ref q_mt, .ref q_mb, .null, .null, .int (nI 0), .int (nI 0), .null, .null, .int (nI 0), .null, .null])), (q_mt, .inl (cI, 32, .inl z0I)), (q_mb, .inl (cZ, 32, .inl (aB wF)))] H := hP
  have hD : va_D A [(q_md, .inr (6, [.int (nI 3), .ref q_mt, .ref q_mb, .null, .null, .int (nI 0), .int (nI 0), .null, .null, .int (nI 0), .null, .null])), (q_mt, .inl (cI, 32, .inl z0I)), (q_mb, .inl (cZ, 32, .inl (aB wF)))] := hD
  refine lv_aload_n hx hb dX6_init_25 rfl (lv_at hl 0 rfl) ?_
  refine lv_iconst (v := nI 2) hx hb dX6_init_26 (by decide +kernel) ?_
  refine z_newi (n := 2) (f := (aN (lnF 0 0))) hx hb (hts _ m_X6_init_aint) hZ hP hD hS hA z_ln0 (by decide) (Nat.le_of_ble_eq_true rfl) (Nat.le_of_ble_eq_true rfl) dX6_init_27 (fun q_ml H hP hD hS => ?_)
  have hP : va_P D vwCl [(q_md, .inr (6, [.int (nI 3), .ref q_mt, .ref q_mb, .null, .null, .int (nI 0), .int (nI 0), .null, .null, .int (nI 0), .null, .null])), (q_mt, .inl (cI, 32, .inl z0I)), (q_mb, .inl (cZ, 32, .inl (aB wF))), (q_ml, .inl (cI, 2, .inl (aN (lnF 0 0))))] H := hP
  have hD : va_D A [(q_md, .inr (6, [.int (nI 3), .ref q_mt, .ref q_mb, .null, .null, .int (nI 0), .int (nI 0), .null, .null, .int (nI 0), .null, .null])), (q_mt, .inl (cI, 32, .inl z0I)), (q_mb, .inl (cZ, 32, .inl (aB wF))), (q_ml, .inl (cI, 2, .inl (aN (lnF 0 0))))] := hD
  refine W.widen (k := 3) (n := 66) (Nat.le_of_ble_eq_true rfl) (Nat.le_of_ble_eq_true rfl) ?_
  refine va_putF (D := D) (ci := 6) (v := .ref q_ml) (ty := .array .int) (C := RX6) (T := TX6) (N := 12) hx hb hts i_X6_init_X6 tyX6 tyX6_ok nmX6 hown hZ.1 hP hD hS 0 rfl rfl 3 (by decide) (hts _ m_X6_init_f21) (fun _ h9 => h9) rfl hin rfl (by decide +kernel) rfl rfl (Nat.le_of_ble_eq_true rfl) dX6_init_29 (fun H locs hP hD hS => ?_)
  have hP : va_P D vwCl [(q_md, .inr (6, [.int (nI 3), .ref q_mt, .ref q_mb, .ref q_ml, .null, .int (nI 0), .int (nI 0), .null, .null, .int (nI 0), .null, .null])), (q_mt, .inl (cI, 32, .inl z0I)), (q_mb, .inl (cZ, 32, .inl (aB wF))), (q_ml, .inl (cI, 2, .inl (aN (lnF 0 0))))] H := hP
  have hD : va_D A [(q_md, .inr (6, [.int (nI 3), .ref q_mt, .ref q_mb, .ref q_ml, .null, .int (nI 0), .int (nI 0), .null, .null, .int (nI 0), .null, .null])), (q_mt, .inl (cI, 32, .inl z0I)), (q_mb, .inl (cZ, 32, .inl (aB wF))), (q_ml, .inl (cI, 2, .inl (aN (lnF 0 0))))] := hD
  refine lv_aload_n hx hb dX6_init_32 rfl (lv_at hl 0 rfl) ?_
  refine lv_bipush (v := nI 80) hx hb dX6_init_33 (by decide +kernel) ?_
  refine z_newi (n := 80) (f := (aN (rwF zrF zrF))) hx hb (hts _ m_X6_init_aint) hZ hP hD hS hA z_rw0 (by decide) (Nat.le_of_ble_eq_true rfl) (Nat.le_of_ble_eq_true rfl) dX6_init_35 (fun q_mr H hP hD hS => ?_)
  have hP : va_P D vwCl [(q_md, .inr (6, [.int (nI 3), .ref q_mt, .ref q_mb, .ref q_ml, .null, .int (nI 0), .int (nI 0), .null, .null, .int (nI 0), .null, .null])), (q_mt, .inl (cI, 32, .inl z0I)), (q_mb, .inl (cZ, 32, .inl (aB wF))), (q_ml, .inl (cI, 2, .inl (aN (lnF 0 0)))), (q_mr, .inl (cI, 80, .inl (aN (rwF zrF zrF))))] H := hP
  have hD : va_D A [(q_md, .inr (6, [.int (nI 3), .ref q_mt, .ref q_mb, .ref q_ml, .null, .int (nI 0), .int (nI 0), .null, .null, .int (nI 0), .null, .null])), (q_mt, .inl (cI, 32, .inl z0I)), (q_mb, .inl (cZ, 32, .inl (aB wF))), (q_ml, .inl (cI, 2, .inl (aN (lnF 0 0)))), (q_mr, .inl (cI, 80, .inl (aN (rwF zrF zrF))))] := hD
  refine W.widen (k := 4) (n := 146) (Nat.le_of_ble_eq_true rfl) (Nat.le_of_ble_eq_true rfl) ?_
  refine va_putF (D := D) (ci := 6) (v := .ref q_mr) (ty := .array .int) (C := RX6) (T := TX6) (N := 12) hx hb hts i_X6_init_X6 tyX6 tyX6_ok nmX6 hown hZ.1 hP hD hS 0 rfl rfl 4 (by decide) (hts _ m_X6_init_f24) (fun _ h9 => h9) rfl hin rfl (by decide +kernel) rfl rfl (Nat.le_of_ble_eq_true rfl) dX6_init_37 (fun H locs hP hD hS => ?_)
  have hP : va_P D vwCl [(q_md, .inr (6, [.int (nI 3), .ref q_mt, .ref q_mb, .ref q_ml, .ref q_mr, .int (nI 0), .int (nI 0), .null, .null, .int (nI 0), .null, .null])), (q_mt, .inl (cI, 32, .inl z0I)), (q_mb, .inl (cZ, 32, .inl (aB wF))), (q_ml, .inl (cI, 2, .inl (aN (lnF 0 0)))), (q_mr, .inl (cI, 80, .inl (aN (rwF zrF zrF))))] H := hP
  have hD : va_D A [(q_md, .inr (6, [.int (nI 3), .ref q_mt, .ref q_mb, .ref q_ml, .ref q_mr, .int (nI 0), .int (nI 0), .null, .null, .int (nI 0), .null, .null])), (q_mt, .inl (cI, 32, .inl z0I)), (q_mb, .inl (cZ, 32, .inl (aB wF))), (q_ml, .inl (cI, 2, .inl (aN (lnF 0 0)))), (q_mr, .inl (cI, 80, .inl (aN (rwF zrF zrF))))] := hD
  refine lv_aload_n hx hb dX6_init_40 rfl (lv_at hl 0 rfl) ?_
  refine lv_bipush (v := nI 8) hx hb dX6_init_41 (by decide +kernel) ?_
  refine z_newi (n := 8) (f := z0I) hx hb (hts _ m_X6_init_aint) hZ hP hD hS hA (fun _ => rfl) (by decide) (Nat.le_of_ble_eq_true rfl) (Nat.le_of_ble_eq_true rfl) dX6_init_43 (fun q_lo H hP hD hS => ?_)
  have hP : va_P D vwCl [(q_md, .inr (6, [.int (nI 3), .ref q_mt, .ref q_mb, .ref q_ml, .ref q_mr, .int (nI 0), .int (nI 0), .null, .null, .int (nI 0), .null, .null])), (q_mt, .inl (cI, 32, .inl z0I)), (q_mb, .inl (cZ, 32, .inl (aB wF))), (q_ml, .inl (cI, 2, .inl (aN (lnF 0 0)))), (q_mr, .inl (cI, 80, .inl (aN (rwF zrF zrF)))), (q_lo, .inl (cI, 8, .inl z0I))] H := hP
  have hD : va_D A [(q_md, .inr (6, [.int (nI 3), .ref q_mt, .ref q_mb, .ref q_ml, .ref q_mr, .int (nI 0), .int (nI 0), .null, .null, .int (nI 0), .null, .null])), (q_mt, .inl (cI, 32, .inl z0I)), (q_mb, .inl (cZ, 32, .inl (aB wF))), (q_ml, .inl (cI, 2, .inl (aN (lnF 0 0)))), (q_mr, .inl (cI, 80, .inl (aN (rwF zrF zrF)))), (q_lo, .inl (cI, 8, .inl z0I))] := hD
  refine W.widen (k := 5) (n := 154) (Nat.le_of_ble_eq_true rfl) (Nat.le_of_ble_eq_true rfl) ?_
  refine va_putF (D := D) (ci := 6) (v := .ref q_lo) (ty := .array .int) (C := RX6) (T := TX6) (N := 12) hx hb hts i_X6_init_X6 tyX6 tyX6_ok nmX6 hown hZ.1 hP hD hS 0 rfl rfl 7 (by decide) (hts _ m_X6_init_f27) (fun _ h9 => h9) rfl hin rfl (by decide +kernel) rfl rfl (Nat.le_of_ble_eq_true rfl) dX6_init_45 (fun H locs hP hD hS => ?_)
  have hP : va_P D vwCl [(q_md, .inr (6, [.int (nI 3), .ref q_mt, .ref q_mb, .ref q_ml, .ref q_mr, .int (nI 0), .int (nI 0), .ref q_lo, .null, .int (nI 0), .null, .null])), (q_mt, .inl (cI, 32, .inl z0I)), (q_mb, .inl (cZ, 32, .inl (aB wF))), (q_ml, .inl (cI, 2, .inl (aN (lnF 0 0)))), (q_mr, .inl (cI, 80, .inl (aN (rwF zrF zrF)))), (q_lo, .inl (cI, 8, .inl z0I))] H := hP
  have hD : va_D A [(q_md, .inr (6, [.int (nI 3), .ref q_mt, .ref q_mb, .ref q_ml, .ref q_mr, .int (nI 0), .int (nI 0), .ref q_lo, .null, .int (nI 0), .null, .null])), (q_mt, .inl (cI, 32, .inl z0I)), (q_mb, .inl (cZ, 32, .inl (aB wF))), (q_ml, .inl (cI, 2, .inl (aN (lnF 0 0)))), (q_mr, .inl (cI, 80, .inl (aN (rwF zrF zrF)))), (q_lo, .inl (cI, 8, .inl z0I))] := hD
  refine lv_aload_n hx hb dX6_init_48 rfl (lv_at hl 0 rfl) ?_
  refine lv_bipush (v := nI 8) hx hb dX6_init_49 (by decide +kernel) ?_
  refine z_newi (n := 8) (f := z0I) hx hb (hts _ m_X6_init_aint) hZ hP hD hS hA (fun _ => rfl) (by decide) (Nat.le_of_ble_eq_true rfl) (Nat.le_of_ble_eq_true rfl) dX6_init_51 (fun q_dp H hP hD hS => ?_)
  have hP : va_P D vwCl [(q_md, .inr (6, [.int (nI 3), .ref q_mt, .ref q_mb, .ref q_ml, .ref q_mr, .int (nI 0), .int (nI 0), .ref q_lo, .null, .int (nI 0), .null, .null])), (q_mt, .inl (cI, 32, .inl z0I)), (q_mb, .inl (cZ, 32, .inl (aB wF))), (q_ml, .inl (cI, 2, .inl (aN (lnF 0 0)))), (q_mr, .inl (cI, 80, .inl (aN (rwF zrF zrF)))), (q_lo, .inl (cI, 8, .inl z0I)), (q_dp, .inl (cI, 8, .inl z0I))] H := hP
  have hD : va_D A [(q_md, .inr (6, [.int (nI 3), .ref q_mt, .ref q_mb, .ref q_ml, .ref q_mr, .int (nI 0), .int (nI 0), .ref q_lo, .null, .int (nI 0), .null, .null])), (q_mt, .inl (cI, 32, .inl z0I)), (q_mb, .inl (cZ, 32, .inl (aB wF))), (q_ml, .inl (cI, 2, .inl (aN (lnF 0 0)))), (q_mr, .inl (cI, 80, .inl (aN (rwF zrF zrF)))), (q_lo, .inl (cI, 8, .inl z0I)), (q_dp, .inl (cI, 8, .inl z0I))] := hD
  refine W.widen (k := 6) (n := 162) (Nat.le_of_ble_eq_true rfl) (Nat.le_of_ble_eq_true rfl) ?_
  refine va_putF (D := D) (ci := 6) (v := .ref q_dp) (ty := .array .int) (C := RX6) (T := TX6) (N := 12) hx hb hts i_X6_init_X6 tyX6 tyX6_ok nmX6 hown hZ.1 hP hD hS 0 rfl rfl 8 (by decide) (hts _ m_X6_init_f30) (fun _ h9 => h9) rfl hin rfl (by decide +kernel) rfl rfl (Nat.le_of_ble_eq_true rfl) dX6_init_53 (fun H locs hP hD hS => ?_)
  have hP : va_P D vwCl [(q_md, .inr (6, [.int (nI 3), .ref q_mt, .ref q_mb, .ref q_ml, .ref q_mr, .int (nI 0), .int (nI 0), .ref q_lo, .ref q_dp, .int (nI 0), .null, .null])), (q_mt, .inl (cI, 32, .inl z0I)), (q_mb, .inl (cZ, 32, .inl (aB wF))), (q_ml, .inl (cI, 2, .inl (aN (lnF 0 0)))), (q_mr, .inl (cI, 80, .inl (aN (rwF zrF zrF)))), (q_lo, .inl (cI, 8, .inl z0I)), (q_dp, .inl (cI, 8, .inl z0I))] H := hP
  have hD : va_D A [(q_md, .inr (6, [.int (nI 3), .ref q_mt, .ref q_mb, .ref q_ml, .ref q_mr, .int (nI 0), .int (nI 0), .ref q_lo, .ref q_dp, .int (nI 0), .null, .null])), (q_mt, .inl (cI, 32, .inl z0I)), (q_mb, .inl (cZ, 32, .inl (aB wF))), (q_ml, .inl (cI, 2, .inl (aN (lnF 0 0)))), (q_mr, .inl (cI, 80, .inl (aN (rwF zrF zrF)))), (q_lo, .inl (cI, 8, .inl z0I)), (q_dp, .inl (cI, 8, .inl z0I))] := hD
  refine lv_aload_n hx hb dX6_init_56 rfl (lv_at hl 0 rfl) ?_
  refine lv_iconst (v := nI 5) hx hb dX6_init_57 (by decide +kernel) ?_
  refine z_newi (n := 5) (f := (aN zrF)) hx hb (hts _ m_X6_init_aint) hZ hP hD hS hA (fun _ => rfl) (by decide) (Nat.le_of_ble_eq_true rfl) (Nat.le_of_ble_eq_true rfl) dX6_init_58 (fun q_sh H hP hD hS => ?_)
  have hP : va_P D vwCl [(q_md, .inr (6, [.int (nI 3), .ref q_mt, .ref q_mb, .ref q_ml, .ref q_mr, .int (nI 0), .int (nI 0), .ref q_lo, .ref q_dp, .int (nI 0), .null, .null])), (q_mt, .inl (cI, 32, .inl z0I)), (q_mb, .inl (cZ, 32, .inl (aB wF))), (q_ml, .inl (cI, 2, .inl (aN (lnF 0 0)))), (q_mr, .inl (cI, 80, .inl (aN (rwF zrF zrF)))), (q_lo, .inl (cI, 8, .inl z0I)), (q_dp, .inl (cI, 8, .inl z0I)), (q_sh, .inl (cI, 5, .inl (aN zrF)))] H := hP
  have hD : va_D A [(q_md, .inr (6, [.int (nI 3), .ref q_mt, .ref q_mb, .ref q_ml, .ref q_mr, .int (nI 0), .int (nI 0), .ref q_lo, .ref q_dp, .int (nI 0), .null, .null])), (q_mt, .inl (cI, 32, .inl z0I)), (q_mb, .inl (cZ, 32, .inl (aB wF))), (q_ml, .inl (cI, 2, .inl (aN (lnF 0 0)))), (q_mr, .inl (cI, 80, .inl (aN (rwF zrF zrF)))), (q_lo, .inl (cI, 8, .inl z0I)), (q_dp, .inl (cI, 8, .inl z0I)), (q_sh, .inl (cI, 5, .inl (aN zrF)))] := hD
  refine W.widen (k := 7) (n := 167) (Nat.le_of_ble_eq_true rfl) (Nat.le_of_ble_eq_true rfl) ?_
  refine va_putF (D := D) (ci := 6) (v := .ref q_sh) (ty := .array .int) (C := RX6) (T := TX6) (N := 12) hx hb hts i_X6_init_X6 tyX6 tyX6_ok nmX6 hown hZ.1 hP hD hS 0 rfl rfl 10 (by decide) (hts _ m_X6_init_f33) (fun _ h9 => h9) rfl hin rfl (by decide +kernel) rfl rfl (Nat.le_of_ble_eq_true rfl) dX6_init_60 (fun H locs hP hD hS => ?_)
  have hP : va_P D vwCl [(q_md, .inr (6, [.int (nI 3), .ref q_mt, .ref q_mb, .ref q_ml, .ref q_mr, .int (nI 0), .int (nI 0), .ref q_lo, .ref q_dp, .int (nI 0), .ref q_sh, .null])), (q_mt, .inl (cI, 32, .inl z0I)), (q_mb, .inl (cZ, 32, .inl (aB wF))), (q_ml, .inl (cI, 2, .inl (aN (lnF 0 0)))), (q_mr, .inl (cI, 80, .inl (aN (rwF zrF zrF)))), (q_lo, .inl (cI, 8, .inl z0I)), (q_dp, .inl (cI, 8, .inl z0I)), (q_sh, .inl (cI, 5, .inl (aN zrF)))] H := hP
  have hD : va_D A [(q_md, .inr (6, [.int (nI 3), .ref q_mt, .ref q_mb, .ref q_ml, .ref q_mr, .int (nI 0), .int (nI 0), .ref q_lo, .ref q_dp, .int (nI 0), .ref q_sh, .null])), (q_mt, .inl (cI, 32, .inl z0I)), (q_mb, .inl (cZ, 32, .inl (aB wF))), (q_ml, .inl (cI, 2, .inl (aN (lnF 0 0)))), (q_mr, .inl (cI, 80, .inl (aN (rwF zrF zrF)))), (q_lo, .inl (cI, 8, .inl z0I)), (q_dp, .inl (cI, 8, .inl z0I)), (q_sh, .inl (cI, 5, .inl (aN zrF)))] := hD
  refine lv_aload_n hx hb dX6_init_63 rfl (lv_at hl 0 rfl) ?_
  refine lv_iconst (v := nI 5) hx hb dX6_init_64 (by decide +kernel) ?_
  refine z_newi (n := 5) (f := (aN zrF)) hx hb (hts _ m_X6_init_aint) hZ hP hD hS hA (fun _ => rfl) (by decide) (Nat.le_of_ble_eq_true rfl) (Nat.le_of_ble_eq_true rfl) dX6_init_65 (fun q_fd H hP hD hS => ?_)
  have hP : va_P D vwCl [(q_md, .inr (6, [.int (nI 3), .ref q_mt, .ref q_mb, .ref q_ml, .ref q_mr, .int (nI 0), .int (nI 0), .ref q_lo, .ref q_dp, .int (nI 0), .ref q_sh, .null])), (q_mt, .inl (cI, 32, .inl z0I)), (q_mb, .inl (cZ, 32, .inl (aB wF))), (q_ml, .inl (cI, 2, .inl (aN (lnF 0 0)))), (q_mr, .inl (cI, 80, .inl (aN (rwF zrF zrF)))), (q_lo, .inl (cI, 8, .inl z0I)), (q_dp, .inl (cI, 8, .inl z0I)), (q_sh, .inl (cI, 5, .inl (aN zrF))), (q_fd, .inl (cI, 5, .inl (aN zrF)))] H := hP
  have hD : va_D A [(q_md, .inr (6, [.int (nI 3), .ref q_mt, .ref q_mb, .ref q_ml, .ref q_mr, .int (nI 0), .int (nI 0), .ref q_lo, .ref q_dp, .int (nI 0), .ref q_sh, .null])), (q_mt, .inl (cI, 32, .inl z0I)), (q_mb, .inl (cZ, 32, .inl (aB wF))), (q_ml, .inl (cI, 2, .inl (aN (lnF 0 0)))), (q_mr, .inl (cI, 80, .inl (aN (rwF zrF zrF)))), (q_lo, .inl (cI, 8, .inl z0I)), (q_dp, .inl (cI, 8, .inl z0I)), (q_sh, .inl (cI, 5, .inl (aN zrF))), (q_fd, .inl (cI, 5, .inl (aN zrF)))] := hD
  refine W.widen (k := 8) (n := 172) (Nat.le_of_ble_eq_true rfl) (Nat.le_of_ble_eq_true rfl) ?_
  refine va_putF (D := D) (ci := 6) (v := .ref q_fd) (ty := .array .int) (C := RX6) (T := TX6) (N := 12) hx hb hts i_X6_init_X6 tyX6 tyX6_ok nmX6 hown hZ.1 hP hD hS 0 rfl rfl 11 (by decide) (hts _ m_X6_init_f36) (fun _ h9 => h9) rfl hin rfl (by decide +kernel) rfl rfl (Nat.le_of_ble_eq_true rfl) dX6_init_67 (fun H locs hP hD hS => ?_)
  have hP : va_P D vwCl [(q_md, .inr (6, [.int (nI 3), .ref q_mt, .ref q_mb, .ref q_ml, .ref q_mr, .int (nI 0), .int (nI 0), .ref q_lo, .ref q_dp, .int (nI 0), .ref q_sh, .ref q_fd])), (q_mt, .inl (cI, 32, .inl z0I)), (q_mb, .inl (cZ, 32, .inl (aB wF))), (q_ml, .inl (cI, 2, .inl (aN (lnF 0 0)))), (q_mr, .inl (cI, 80, .inl (aN (rwF zrF zrF)))), (q_lo, .inl (cI, 8, .inl z0I)), (q_dp, .inl (cI, 8, .inl z0I)), (q_sh, .inl (cI, 5, .inl (aN zrF))), (q_fd, .inl (cI, 5, .inl (aN zrF)))] H := hP
  have hD : va_D A [(q_md, .inr (6, [.int (nI 3), .ref q_mt, .ref q_mb, .ref q_ml, .ref q_mr, .int (nI 0), .int (nI 0), .ref q_lo, .ref q_dp, .int (nI 0), .ref q_sh, .ref q_fd])), (q_mt, .inl (cI, 32, .inl z0I)), (q_mb, .inl (cZ, 32, .inl (aB wF))), (q_ml, .inl (cI, 2, .inl (aN (lnF 0 0)))), (q_mr, .inl (cI, 80, .inl (aN (rwF zrF zrF)))), (q_lo, .inl (cI, 8, .inl z0I)), (q_dp, .inl (cI, 8, .inl z0I)), (q_sh, .inl (cI, 5, .inl (aN zrF))), (q_fd, .inl (cI, 5, .inl (aN zrF)))] := hD
  refine lv_aload_n hx hb dX6_init_70 rfl (lv_at hl 0 rfl) ?_
  have hPc : va_P D vwCl [(q_md, .inr (6, [.int (nI 3), .ref q_mt, .ref q_mb, .ref q_ml, .ref q_mr, .int (nI 0), .int (nI 0), .ref q_lo, .ref q_dp, .int (nI 0), .ref q_sh, .ref q_fd])), (q_mt, .inl (cI, 32, .inl z0I)), (q_mb, .inl (cZ, 32, .inl (aB wF))), (q_ml, .inl (cI, 2, .inl (aN (lnF 0 0)))), (q_mr, .inl (cI, 80, .inl (aN (rwF zrF zrF)))), (q_lo, .inl (cI, 8, .inl z0I)), (q_dp, .inl (cI, 8, .inl z0I)), (q_sh, .inl (cI, 5, .inl (aN zrF))), (q_fd, .inl (cI, 5, .inl (aN zrF)))] H := hP.sub [0, 1, 2, 3, 4, 5, 6, 7, 8] rfl
  have hDc : va_D A [(q_md, .inr (6, [.int (nI 3), .ref q_mt, .ref q_mb, .ref q_ml, .ref q_mr, .int (nI 0), .int (nI 0), .ref q_lo, .ref q_dp, .int (nI 0), .ref q_sh, .ref q_fd])), (q_mt, .inl (cI, 32, .inl z0I)), (q_mb, .inl (cZ, 32, .inl (aB wF))), (q_ml, .inl (cI, 2, .inl (aN (lnF 0 0)))), (q_mr, .inl (cI, 80, .inl (aN (rwF zrF zrF)))), (q_lo, .inl (cI, 8, .inl z0I)), (q_dp, .inl (cI, 8, .inl z0I)), (q_sh, .inl (cI, 5, .inl (aN zrF))), (q_fd, .inl (cI, 5, .inl (aN zrF)))] := hD.sub [0, 1, 2, 3, 4, 5, 6, 7, 8] (by decide) rfl
  have hFc := va_free (wc := [(q_md, .inr (6, [.int (nI 3), .ref q_mt, .ref q_mb, .ref q_ml, .ref q_mr, .int (nI 0), .int (nI 0), .ref q_lo, .ref q_dp, .int (nI 0), .ref q_sh, .ref q_fd])), (q_mt, .inl (cI, 32, .inl z0I)), (q_mb, .inl (cZ, 32, .inl (aB wF))), (q_ml, .inl (cI, 2, .inl (aN (lnF 0 0)))), (q_mr, .inl (cI, 80, .inl (aN (rwF zrF zrF)))), (q_lo, .inl (cI, 8, .inl z0I)), (q_dp, .inl (cI, 8, .inl z0I)), (q_sh, .inl (cI, 5, .inl (aN zrF))), (q_fd, .inl (cI, 5, .inl (aN zrF)))]) hD hS hA [0, 1, 2, 3, 4, 5, 6, 7, 8] rfl
  refine va_callv (va_runV (As := []) (rest := []) ⟨hx, hb, hml, hown, hts⟩ (c_X6_begin q_md q_mt q_mb q_ml q_mr q_lo q_dp q_sh q_fd H.size 3 z0I wF zrF 0 zrF 0 0 0 z0I z0I 0 zrF zrF) (cwV 0 hts gX6_init_X6_begin rfl rfl rfl (by decide +kernel) ⟨Nat.le_of_ble_eq_true rfl, Nat.le_of_ble_eq_true rfl⟩) (zPw_V hZ hPc (hDc.weaken (fun _ _ _ _ => trivial)) 0 rfl rfl) rfl rfl hl.1 rfl (lv_room (Nat.le_of_ble_eq_true rfl)) dX6_init_71 ⟨Nat.le_of_ble_eq_true rfl, Nat.le_of_ble_eq_true rfl⟩) hS (fun q _ h => hFc q h) hFc (fun zu zt H1 locs1 ht hvm hq hB hz1 hk1 hS => ?_)
  obtain ⟨hP1, hD1⟩ := hB
  rw [ht] at hP1
  obtain ⟨hP, hD⟩ := va_join (wr := []) (w1 := [(q_md, .inr (6, [.int (nI 3), .ref q_mt, .ref q_mb, .ref q_ml, .ref q_mr, .int (nI 0), .int (nI 0), .ref q_lo, .ref q_dp, .int (nI 0), .ref q_sh, .ref q_fd])), (q_mt, .inl (cI, 32, .inl (aT tF))), (q_mb, .inl (cZ, 32, .inl (aB wF))), (q_ml, .inl (cI, 2, .inl (aN (lnF 0 0)))), (q_mr, .inl (cI, 80, .inl (aN (rwF zrF zrF)))), (q_lo, .inl (cI, 8, .inl z0I)), (q_dp, .inl (cI, 8, .inl z0I)), (q_sh, .inl (cI, 5, .inl (aN zrF))), (q_fd, .inl (cI, 5, .inl (aN zrF)))]) hP hD [0, 1, 2, 3, 4, 5, 6, 7, 8] [] rfl rfl (by decide) (by decide) hk1 hFc hP1 hD1
  have hP : va_P D vwCl [(q_md, .inr (6, [.int (nI 3), .ref q_mt, .ref q_mb, .ref q_ml, .ref q_mr, .int (nI 0), .int (nI 0), .ref q_lo, .ref q_dp, .int (nI 0), .ref q_sh, .ref q_fd])), (q_mt, .inl (cI, 32, .inl (aT tF))), (q_mb, .inl (cZ, 32, .inl (aB wF))), (q_ml, .inl (cI, 2, .inl (aN (lnF 0 0)))), (q_mr, .inl (cI, 80, .inl (aN (rwF zrF zrF)))), (q_lo, .inl (cI, 8, .inl z0I)), (q_dp, .inl (cI, 8, .inl z0I)), (q_sh, .inl (cI, 5, .inl (aN zrF))), (q_fd, .inl (cI, 5, .inl (aN zrF)))] H1 := hP
  have hD : va_D A [(q_md, .inr (6, [.int (nI 3), .ref q_mt, .ref q_mb, .ref q_ml, .ref q_mr, .int (nI 0), .int (nI 0), .ref q_lo, .ref q_dp, .int (nI 0), .ref q_sh, .ref q_fd])), (q_mt, .inl (cI, 32, .inl (aT tF))), (q_mb, .inl (cZ, 32, .inl (aB wF))), (q_ml, .inl (cI, 2, .inl (aN (lnF 0 0)))), (q_mr, .inl (cI, 80, .inl (aN (rwF zrF zrF)))), (q_lo, .inl (cI, 8, .inl z0I)), (q_dp, .inl (cI, 8, .inl z0I)), (q_sh, .inl (cI, 5, .inl (aN zrF))), (q_fd, .inl (cI, 5, .inl (aN zrF)))] := hD
  clear hP1 hD1 hk1 hz1 hFc hDc hPc ht hvm
  refine W.widen (k := 8) (n := 172) (Nat.le_of_ble_eq_true rfl) (Nat.le_of_ble_eq_true rfl) ?_
  have hP9 : va_P D vwCl [(q_md, .inr (6, [.int (nI 3), .ref q_mt, .ref q_mb, .ref q_ml, .ref q_mr, .int (nI 0), .int (nI 0), .ref q_lo, .ref q_dp, .int (nI 0), .ref q_sh, .ref q_fd])), (q_mt, .inl (cI, 32, .inl (aT tF))), (q_mb, .inl (cZ, 32, .inl (aB wF))), (q_ml, .inl (cI, 2, .inl (aN (lnF 0 0)))), (q_mr, .inl (cI, 80, .inl (aN (rwF zrF zrF)))), (q_lo, .inl (cI, 8, .inl z0I)), (q_dp, .inl (cI, 8, .inl z0I)), (q_sh, .inl (cI, 5, .inl (aN zrF))), (q_fd, .inl (cI, 5, .inl (aN zrF)))] H1 := hP.sub [0, 1, 2, 3, 4, 5, 6, 7, 8] rfl
  have hD9 : va_D A [(q_md, .inr (6, [.int (nI 3), .ref q_mt, .ref q_mb, .ref q_ml, .ref q_mr, .int (nI 0), .int (nI 0), .ref q_lo, .ref q_dp, .int (nI 0), .ref q_sh, .ref q_fd])), (q_mt, .inl (cI, 32, .inl (aT tF))), (q_mb, .inl (cZ, 32, .inl (aB wF))), (q_ml, .inl (cI, 2, .inl (aN (lnF 0 0)))), (q_mr, .inl (cI, 80, .inl (aN (rwF zrF zrF)))), (q_lo, .inl (cI, 8, .inl z0I)), (q_dp, .inl (cI, 8, .inl z0I)), (q_sh, .inl (cI, 5, .inl (aN zrF))), (q_fd, .inl (cI, 5, .inl (aN zrF)))] := hD.sub [0, 1, 2, 3, 4, 5, 6, 7, 8] (by decide) rfl
  exact W.vret hx hb hr (fun t ht hW => ⟨⟨(q_mt, q_mb, q_ml, q_mr, q_lo, q_dp, q_sh, q_fd), rfl, trivial, by rw [ht]; exact hP9, hD9⟩, hS.F ht⟩) hS.2.2 dX6_init_74
theorem c_X6_init {l : Launch} {D : va_G} {cI cZ : ClassId} : K_X6_init l D cI cZ := w_X6_init
