/-! ===== by hand: the reference's states; both sides' rings ===== -/
theorem tb3 (i : Nat) : (3 : Nat).testBit i = decide (i < 2) := Nat.testBit_two_pow_sub_one 2 i
theorem tb_lo {x k i : Nat} (h : x < 2 ^ k) (hi : k ≤ i) : x.testBit i = false := by
  apply Nat.testBit_lt_two_pow
  exact Nat.lt_of_lt_of_le h (Nat.pow_le_pow_right (by decide) hi)
theorem hnH_bit {t : Nat → Nat} {s : Nat} (hs : s >>> 16 < 8) (h : 0 < dg t (s >>> 16)) (j : Nat) : (hnH t s).testBit j = if 2 * (s >>> 16) ≤ j ∧ j < 2 * (s >>> 16) + 2 then ((hnd t s + 1) % dg t (s >>> 16)).testBit (j - 2 * (s >>> 16)) else (decide (j < 16) && s.testBit j) := by
  have a2 := Nat.mod_lt (hnd t s + 1) h
  have a3 := dg_le t (s >>> 16)
  unfold hnH
  generalize hp : s >>> 16 = p at *
  generalize ht : (hnd t s + 1) % dg t p = tt at *
  have e65 : (s &&& 65535).testBit j = (s.testBit j && decide (j < 16)) := by
    rw [Nat.testBit_and]
    congr 1
    exact Nat.testBit_two_pow_sub_one 16 j
  rw [Nat.testBit_xor, e65, Nat.testBit_shiftLeft, Nat.testBit_xor]
  have ea : ∀ i, (hnd t s).testBit i = (s.testBit (2 * p + i) && decide (i < 2)) := by
    intro i
    unfold hnd
    rw [hp, Nat.testBit_and, Nat.testBit_shiftRight, tb3]
  rw [ea]
  by_cases c1 : 2 * p ≤ j
  · rw [decide_eq_true c1]
    by_cases c2 : j < 2 * p + 2
    · rw [if_pos ⟨c1, c2⟩, decide_eq_true (show j < 16 by omega), decide_eq_true (show j - 2 * p < 2 by omega), show 2 * p + (j - 2 * p) = j by omega]
      cases s.testBit j <;> cases tt.testBit (j - 2 * p) <;> rfl
    · rw [if_neg (by omega), decide_eq_false (show ¬ j - 2 * p < 2 by omega), tb_lo (x := tt) (k := 2) (by omega) (by omega)]
      cases s.testBit j <;> cases decide (j < 16) <;> cases s.testBit (2 * p + (j - 2 * p)) <;> rfl
  · rw [decide_eq_false c1, if_neg (by omega)]
    cases s.testBit j <;> cases decide (j < 16) <;> rfl
theorem sn_bit {n : Nat} {t : Nat → Nat} {w : Nat → Bool} {s : Nat} (hs : s >>> 16 < 8) (h : 0 < dg t (s >>> 16)) {j : Nat} (hj : j < 16) : (sn t w s).testBit j = (hnH t s).testBit j := by
  rw [sn_1 (by omega), Nat.testBit_or, Nat.testBit_shiftLeft, decide_eq_false (by omega)]
  cases (hnH t s).testBit j <;> rfl
theorem sK_sn {n : Nat} {t : Nat → Nat} {w : Nat → Bool} {s : Nat} (hn : nOK n t) (h : sK n t s) : sK n t (sn t w s) := by
  have h8 := hn.2.1
  refine ⟨sOK_sn hn h.1, fun q hq => ?_⟩
  by_cases c : dg t (s >>> 16) = 0
  · rw [sn_0 c]
    exact h.2 q hq
  · have h1 := sOK_sh h.1
    by_cases e : q = s >>> 16
    · right
      have a2 := Nat.mod_lt (hnd t s + 1) (show 0 < dg t (s >>> 16) by omega)
      have a3 := dg_le t (s >>> 16)
      have : (sn t w s) >>> (2 * q) &&& 3 = (hnd t s + 1) % dg t (s >>> 16) := by
        apply Nat.eq_of_testBit_eq
        intro i
        rw [Nat.testBit_and, Nat.testBit_shiftRight, tb3]
        by_cases ci : i < 2
        · rw [decide_eq_true ci, Bool.and_true, sn_bit (n := n) (by omega) (by omega) (by omega), hnH_bit (by omega) (by omega), if_pos (by omega), e]
          rw [show 2 * (s >>> 16) + i - 2 * (s >>> 16) = i by omega]
        · rw [decide_eq_false ci, Bool.and_false]
          exact (tb_lo (k := 2) (by omega) (by omega)).symm
      rw [this, e]
      exact a2
    · rcases h.2 q hq with d | d
      · exact Or.inl d
      · right
        have : (sn t w s) >>> (2 * q) &&& 3 = s >>> (2 * q) &&& 3 := by
          apply Nat.eq_of_testBit_eq
          intro i
          rw [Nat.testBit_and, Nat.testBit_shiftRight, tb3, Nat.testBit_and, Nat.testBit_shiftRight, tb3]
          by_cases ci : i < 2
          · rw [decide_eq_true ci, Bool.and_true, Bool.and_true, sn_bit (n := n) (by omega) (by omega) (by omega), hnH_bit (by omega) (by omega), if_neg (by omega), decide_eq_true (by omega), Bool.true_and]
          · rw [decide_eq_false ci, Bool.and_false, Bool.and_false]
        rw [this]
        exact d
theorem sK_p {n p : Nat} {t : Nat → Nat} (hn : nOK n t) (h : p < n) : sK n t (p <<< 16) := by
  have h8 := hn.2.1
  refine ⟨sOK_p h, fun q hq => ?_⟩
  have : (p <<< 16) >>> (2 * q) &&& 3 = 0 := by
    apply Nat.eq_of_testBit_eq
    intro i
    rw [Nat.testBit_and, Nat.testBit_shiftRight, tb3, Nat.testBit_shiftLeft, Nat.zero_testBit]
    by_cases ci : i < 2
    · rw [decide_eq_false (show ¬ 2 * q + i ≥ 16 by omega)]
      rfl
    · rw [decide_eq_false ci, Bool.and_false]
  rw [this]
  omega
theorem sK_sns {n : Nat} {t : Nat → Nat} {w : Nat → Bool} {s : Nat} (hn : nOK n t) (h : sK n t s) : ∀ k, sK n t (sns t w s k)
  | 0 => h
  | k + 1 => sK_sn hn (sK_sns hn h k)
theorem mE_7 {s : Nat} (h : s < 524288) : mE s &&& 7 = s >>> 16 := by
  rw [show mE s &&& 7 = mE s % 8 from Nat.and_two_pow_sub_one_eq_mod (mE s) 3, sh16]
  unfold mE
  omega
theorem mE_lt {s : Nat} (h : s < 524288) : mE s < 524288 := by
  unfold mE
  omega
theorem mE_inj {a b : Nat} (ha : a < 524288) (hb : b < 524288) (h : mE a = mE b) : a = b := by
  unfold mE at h
  omega
theorem mE_bit {s : Nat} (h : s < 524288) (i : Nat) : (mE s).testBit i = if i < 3 then (s >>> 16).testBit i else (decide (i - 3 < 16) && s.testBit (i - 3)) := by
  have e : mE s = 2 ^ 3 * (s % 65536) + s >>> 16 := by
    rw [sh16]
    unfold mE
    omega
  rw [e, Nat.testBit_two_pow_mul_add _ (by rw [sh16]; omega)]
  by_cases c : i < 3
  · rw [if_pos c, if_pos c]
  · rw [if_neg c, if_neg c]
    exact Nat.testBit_mod_two_pow s 16 (i - 3)
theorem mE_hand {s : Nat} (h : s < 524288) : (mE s >>> (3 + 2 * (s >>> 16))) &&& 3 = (s >>> (2 * (s >>> 16))) &&& 3 := by
  have hp : s >>> 16 < 8 := by rw [sh16]; omega
  apply Nat.eq_of_testBit_eq
  intro i
  rw [Nat.testBit_and, Nat.testBit_shiftRight, tb3, Nat.testBit_and, Nat.testBit_shiftRight, mE_bit h]
  by_cases ci : i < 2
  · rw [if_neg (by omega), decide_eq_true (by omega), Bool.true_and]
    rw [show 3 + 2 * (s >>> 16) + i - 3 = 2 * (s >>> 16) + i by omega, tb3]
  · rw [tb3, decide_eq_false ci, Bool.and_false, Bool.and_false]
theorem mE_sn {t : Nat → Nat} {w : Nat → Bool} {s : Nat} (hs : s < 524288) (h : 0 < dg t (s >>> 16)) (hq : hnQ t w s < 8) : (((mE s &&& ((3 <<< (3 + 2 * (s >>> 16))) ^^^ 4294967295)) ||| (((hnd t s + 1) % dg t (s >>> 16)) <<< (3 + 2 * (s >>> 16)))) &&& 4294967288) ||| hnQ t w s = mE (sn t w s) := by
  have hp : s >>> 16 < 8 := by rw [sh16]; omega
  have a2 := Nat.mod_lt (hnd t s + 1) h
  have a3 := dg_le t (s >>> 16)
  have hH := hnH_lt hp h
  have es : sn t w s = hnQ t w s * 65536 + hnH t s := by rw [sn_1 (by omega), or_add _ _ hH]
  have e : mE (sn t w s) = 2 ^ 3 * hnH t s + hnQ t w s := by
    rw [es]
    unfold mE
    omega
  apply Nat.eq_of_testBit_eq
  intro i
  rw [e, Nat.testBit_two_pow_mul_add _ (show hnQ t w s < 2 ^ 3 by omega)]
  have m1 : (4294967295 : Nat).testBit i = decide (i < 32) := Nat.testBit_two_pow_sub_one 32 i
  have m8 : (4294967288 : Nat).testBit i = (decide (i ≥ 3) && decide (i - 3 < 29)) := by
    rw [show (4294967288 : Nat) = (2 ^ 29 - 1) <<< 3 by rw [Nat.shiftLeft_eq], Nat.testBit_shiftLeft, Nat.testBit_two_pow_sub_one]
  rw [Nat.testBit_or, Nat.testBit_and, Nat.testBit_or, Nat.testBit_and, Nat.testBit_xor, Nat.testBit_shiftLeft, Nat.testBit_shiftLeft, m1, m8, tb3, mE_bit hs]
  by_cases c : i < 3
  · rw [if_pos c, if_pos c, decide_eq_false (show ¬ i ≥ 3 by omega), Bool.false_and, Bool.and_false, Bool.false_or]
  · rw [if_neg c, if_neg c, tb_lo (x := hnQ t w s) (k := 3) (by omega) (by omega), Bool.or_false, decide_eq_true (show i ≥ 3 by omega), Bool.true_and, hnH_bit hp h]
    generalize s >>> 16 = p at *
    by_cases c32 : i < 32
    · rw [decide_eq_true c32, decide_eq_true (show i - 3 < 29 by omega), Bool.and_true]
      by_cases c1 : 2 * p ≤ i - 3
      · rw [decide_eq_true (show i ≥ 3 + 2 * p by omega)]
        by_cases c2 : i - 3 < 2 * p + 2
        · rw [if_pos ⟨c1, c2⟩, decide_eq_true (show i - (3 + 2 * p) < 2 by omega), show i - 3 - 2 * p = i - (3 + 2 * p) by omega]
          cases ((hnd t s + 1) % dg t p).testBit (i - (3 + 2 * p)) <;> cases decide (i - 3 < 16) <;> cases s.testBit (i - 3) <;> rfl
        · rw [if_neg (by omega), decide_eq_false (show ¬ i - (3 + 2 * p) < 2 by omega), tb_lo (x := (hnd t s + 1) % dg t p) (k := 2) (by omega) (by omega)]
          cases decide (i - 3 < 16) <;> cases s.testBit (i - 3) <;> rfl
      · rw [decide_eq_false (show ¬ i ≥ 3 + 2 * p by omega), if_neg (by omega)]
        cases decide (i - 3 < 16) <;> cases s.testBit (i - 3) <;> rfl
    · rw [decide_eq_false (show ¬ i - 3 < 29 by omega), Bool.and_false, if_neg (by omega), decide_eq_false (show ¬ i - 3 < 16 by omega)]
      rfl
theorem v_X6_sentOn : V_X6_sentOn := by
  intro n t w r L r2 L2 a0 y0 lo dp cl sh fd s m hn hr hk hm
  subst hm
  have h8 := hn.2.1
  have hb := sOK_big h8 hk.1
  have hp := sOK_sh hk.1
  unfold B_X6_sentOn_in
  rw [mE_7 hb]
  rintro p rfl
  refine ⟨by omega, ?_⟩
  rintro g rfl
  have gl := dg_le t (s >>> 16)
  have ml := mE_lt hb
  refine ⟨by omega, fun c => ?_, fun c => ⟨_, _, by rw [sn_0 c], rfl, rfl⟩⟩
  rintro x6 rfl
  refine ⟨by omega, by omega, ?_⟩
  rw [mE_hand hb]
  rintro x9 rfl
  have a1 := and3 (s >>> (2 * (s >>> 16)))
  have a4 := (hk.2 (s >>> 16) hp).resolve_left c
  refine ⟨by omega, a1, Or.inr (ok_in hr hp a4), by omega, by omega, by omega, by omega, by omega, ?_⟩
  rintro x20 rfl
  refine ⟨_, _, ?_, rfl, rfl⟩
  rw [show (-1 : Int32) = nI 4294967295 from by decide +kernel, show (-8 : Int32) = nI 4294967288 from by decide +kernel, n_xor, n_and, n_or, n_and, n_or]
  have q8 := hnQ_n (w := w) hn hp
  exact congrArg nI (mE_sn (t := t) (w := w) hb (by omega) (by omega))
theorem v_X6_sentAll : V_X6_sentAll := by
  intro n t w r L r2 L2 a0 y0 lo dp cl sh fd p hn hr hp X9 h9
  have h8 := hn.2.1
  have h28 := p28 h8
  have key : ∀ (z v : Nat), v + z = 20001 → srch (fun k => decide (sen (fun j => sns t w (p <<< 16) j >>> 16) k = 2 ^ n - 1)) z v = saV n t w p → ∀ a y, X9 (mE (sns t w (p <<< 16) v)) (sen (fun j => sns t w (p <<< 16) j >>> 16) v) v a y := by
    intro z
    induction z with
    | zero =>
      intro v hv e a y
      exact h9 _ _ _ _ _ ⟨by omega, fun _ => ⟨_, _, e, rfl, rfl⟩, fun q => absurd q (by omega)⟩
    | succ z ih =>
      intro v hv e a y
      have k1 := sK_sns (w := w) hn (sK_p hn hp) v
      have k2 := sK_sns (w := w) hn (sK_p hn hp) (v + 1)
      have b2 := sOK_big h8 k2.1
      have q2 := sOK_sh k2.1
      have hs := sen_lt (f := fun j => sns t w (p <<< 16) j >>> 16) (n := n) (fun k => sOK_sh (sOK_sns (w := w) hn (sOK_p hp) k)) v
      refine h9 _ _ _ _ _ ⟨by omega, fun q => absurd q (by omega), fun _ => ⟨h8, by omega, by omega, fun c => ⟨_, hn, hr, k1, rfl, fun a2 y2 => ?_⟩, fun c => ⟨_, _, ?_, rfl, rfl⟩⟩⟩
      · rintro x rfl
        rw [show mE (sn t w (sns t w (p <<< 16) v)) &&& 7 = sns t w (p <<< 16) (v + 1) >>> 16 from mE_7 b2]
        refine ⟨by omega, ?_⟩
        rintro y3 rfl
        refine ih (v + 1) (by omega) ?_ a2 y2
        rw [← e]
        exact (srch_f (decide_eq_false c)).symm
      · rw [← e]
        exact (srch_t (decide_eq_true c)).symm
  refine ⟨by omega, ?_⟩
  rintro y rfl
  have k0 := key 20001 0 (by omega) rfl a0 y0
  have e1 : sen (fun j => sns t w (p <<< 16) j >>> 16) 0 = 1 <<< p := by
    show 1 <<< ((p <<< 16) >>> 16) = _
    rw [shl16, sh16, show p * 65536 / 65536 = p by omega]
  have e2 : mE (sns t w (p <<< 16) 0) = p := by
    show mE (p <<< 16) = p
    rw [shl16]
    unfold mE
    omega
  rw [e1, e2] at k0
  exact k0
theorem v_X6_ringOf : V_X6_ringOf := by
  intro n t w r L r2 L2 a0 y0 lo dp cl sh fd p what hn hr hp X18 X96 X117 h18 h96 h117
  have h8 := hn.2.1
  have kk := fun k => sK_sns (w := w) hn (sK_p hn hp) k
  have bb := fun k => sOK_big h8 (kk k).1
  have ml := fun k => mE_lt (bb k)
  have e0 : mE (sns t w (p <<< 16) 0) = p := by
    show mE (p <<< 16) = p
    rw [shl16]
    unfold mE
    omega
  have l117 : ∀ (z v m k : Nat), v + z = 20001 → rgM t w (p <<< 16) m k → k ≤ 20000 → (∀ j, j < v → ¬ sns t w (p <<< 16) j = sns t w (p <<< 16) (j + k)) → ∀ a y, X117 k v (mE (sns t w (p <<< 16) v)) (mE (sns t w (p <<< 16) (v + k))) a y := by
    intro z
    have fin : ∀ (v m k : Nat), rgM t w (p <<< 16) m k → k ≤ 20000 → (∀ j, j < v → ¬ sns t w (p <<< 16) j = sns t w (p <<< 16) (j + k)) → sns t w (p <<< 16) v = sns t w (p <<< 16) (v + k) → v = m := by
      intro v m k hm _ hno he
      have := (hm.2.2 v k hm.1 he).1
      have : ¬ m < v := fun q => hno m q hm.2.1
      omega
    induction z with
    | zero =>
      intro v m k hv hm hk hno a y
      have b1 := ml v
      have b2 := ml (v + k)
      refine h117 _ _ _ _ _ _ ⟨by omega, by omega, fun c => ⟨by omega, fun q => absurd q (by omega), fun q => ⟨_, _, _, Or.inr ⟨rfl, fun m2 k2 hm2 => ?_⟩, rfl, rfl, rfl⟩⟩, fun c => ⟨by omega, fun _ => ⟨by omega, fun q => absurd q (by omega), fun q => ⟨_, _, _, Or.inr ⟨rfl, fun m2 k2 hm2 => ?_⟩, rfl, rfl, rfl⟩⟩, fun q => absurd hv (by omega)⟩⟩
      · have u := rg_un hm hm2
        have := fin v m k hm hk hno (mE_inj (bb v) (bb (v + k)) c)
        omega
      · have u := rg_un hm hm2
        have : ¬ m < v := fun q => hno m q hm.2.1
        omega
    | succ z ih =>
      intro v m k hv hm hk hno a y
      have b1 := ml v
      have b2 := ml (v + k)
      refine h117 _ _ _ _ _ _ ⟨by omega, by omega, fun c => ?_, fun c => ⟨by omega, fun q => absurd q (by omega), fun _ => ⟨_, hn, hr, kk v, rfl, fun a2 y2 => ?_⟩⟩⟩
      · have vm := fin v m k hm hk hno (mE_inj (bb v) (bb (v + k)) c)
        subst vm
        refine ⟨by omega, fun q => ⟨fun q2 => ⟨_, _, _, Or.inl ⟨v, k, q, hm, rfl⟩, ?_, rfl, rfl⟩, fun q2 => ⟨_, _, _, Or.inl ⟨v, k, q, hm, rfl⟩, ?_, rfl, rfl⟩⟩, fun q => ⟨_, _, _, Or.inr ⟨rfl, fun m2 k2 hm2 => ?_⟩, rfl, rfl, rfl⟩⟩
        · rw [if_neg q2]
        · rw [if_pos q2]
        · have u := rg_un hm hm2
          omega
      · rintro x rfl
        refine ⟨_, hn, hr, kk (v + k), rfl, fun a3 y3 => ?_⟩
        rintro x2 rfl
        have nx := ih (v + 1) m k (by omega) hm hk (fun j hj => by
          by_cases e : j = v
          · rw [e]; exact fun q => c (congrArg mE q)
          · exact hno j (by omega)) a3 y3
        rw [show v + 1 + k = (v + k) + 1 by omega] at nx
        exact nx
  have l96 : ∀ (z v m k : Nat), v + z = k → rgM t w (p <<< 16) m k → k ≤ 20000 → ∀ a y, X96 k 0 p (mE (sns t w (p <<< 16) v)) v a y := by
    intro z
    induction z with
    | zero =>
      intro v m k hv hm hk a y
      refine h96 _ _ _ _ _ _ _ ⟨by omega, by omega, fun _ => ?_, fun q => absurd hv (by omega)⟩
      have := l117 20001 0 m k (by omega) hm hk (fun j hj => absurd hj (by omega)) a y
      rw [e0, Nat.zero_add] at this
      obtain rfl : v = k := by omega
      exact this
    | succ z ih =>
      intro v m k hv hm hk a y
      refine h96 _ _ _ _ _ _ _ ⟨by omega, by omega, fun q => absurd q (by omega), fun _ => ⟨_, hn, hr, kk v, rfl, fun a2 y2 => ?_⟩⟩
      rintro x rfl
      exact ih (v + 1) m k (by omega) hm hk a2 y2
  have l18 : ∀ (z g b e : Nat), g + z = 120000 → g = b + e → b + 1 = 2 ^ (z - z) * (b + 1) → (∃ x, b + 1 = 2 ^ x) → 1 ≤ e → e ≤ b + 1 → (∀ j, 1 ≤ j → j < e → ¬ sns t w (p <<< 16) (b + j) = sns t w (p <<< 16) b) → ∀ a y, X18 (mE (sns t w (p <<< 16) b)) (mE (sns t w (p <<< 16) (b + e))) (b + 1) e g a y := by
    intro z
    have hit : ∀ (b e : Nat) (a y : Nat), 1 ≤ e → e ≤ 200000 → (∀ j, 1 ≤ j → j < e → ¬ sns t w (p <<< 16) (b + j) = sns t w (p <<< 16) b) → mE (sns t w (p <<< 16) (b + e)) = mE (sns t w (p <<< 16) b) → (e < 2147483648) ∧ (((e ≤ 20000) → X96 e 0 p p 0 a y) ∧ ((¬ e ≤ 20000) → (∃ a9 : Nat, ∃ y9 : Nat, ∃ y' : Int32, (rgP t w p what y') ∧ ((-7) = y') ∧ (a = a9) ∧ (y = y9)))) := by
      intro b e a y he1 he2 hno hc
      obtain ⟨m, hm⟩ := rg_first (t := t) (w := w) (s := p <<< 16) (a := b) (k := e) he1 (mE_inj (bb (b + e)) (bb b) hc).symm hno
      refine ⟨by omega, fun q => ?_, fun q => ⟨_, _, _, Or.inr ⟨rfl, fun m2 k2 hm2 => ?_⟩, rfl, rfl, rfl⟩⟩
      · have := l96 e 0 m e (by omega) hm q a y
        rw [e0] at this
        exact this
      · have := rg_un hm hm2
        omega
    induction z with
    | zero =>
      intro g b e hg hge _ hpow he1 he2 hno a y
      have b1 := ml b
      have b2 := ml (b + e)
      refine h18 _ _ _ _ _ _ _ ⟨by omega, by omega, fun c => ⟨by omega, by omega, fun q => absurd c q, fun _ => hit b e a y he1 (by omega) hno c⟩, fun c => ⟨by omega, fun _ => ⟨by omega, by omega, fun _ => ⟨_, _, _, Or.inr ⟨rfl, fun m k hm => ?_⟩, rfl, rfl, rfl⟩, fun q => absurd q c⟩, fun q => absurd hg (by omega)⟩⟩
      apply Nat.lt_of_not_le
      intro q
      obtain ⟨x, hx⟩ := hpow
      have ge : 16 ≤ x := Nat.le_of_not_lt (fun z => by
        have : 2 ^ x ≤ 2 ^ 15 := Nat.pow_le_pow_right (by decide) (by omega)
        omega)
      have le : x < 17 := Nat.lt_of_not_le (fun z => by
        have : 2 ^ 17 ≤ 2 ^ x := Nat.pow_le_pow_right (by decide) z
        omega)
      obtain rfl : x = 16 := by omega
      exact hno k hm.1 (by omega) (rg_on hm (by omega)).symm
    | succ z ih =>
      intro g b e hg hge _ hpow he1 he2 hno a y
      have b1 := ml b
      have b2 := ml (b + e)
      refine h18 _ _ _ _ _ _ _ ⟨by omega, by omega, fun c => ⟨by omega, by omega, fun q => absurd c q, fun _ => hit b e a y he1 (by omega) hno c⟩, fun c => ⟨by omega, fun q => absurd q (by omega), fun _ => ⟨by omega, by omega, fun c2 => ⟨_, hn, hr, kk (b + e), rfl, fun a2 y2 => ?_⟩, fun c2 => ?_⟩⟩⟩
      · rintro x rfl
        exact ih (g + 1) b (e + 1) (by omega) (by omega) (by rw [Nat.sub_self]; omega) hpow (by omega) (by omega) (fun j j1 j2 => by
          by_cases ee : j = e
          · rw [ee]; exact fun q => c (congrArg mE q)
          · exact hno j j1 (by omega)) a2 y2
      · rintro x21 rfl
        refine ⟨_, hn, hr, kk (b + e), rfl, fun a2 y2 => ?_⟩
        rintro x rfl
        have nx := ih (g + 1) (b + e) 1 (by omega) (by omega) (by rw [Nat.sub_self]; omega) (by
          obtain ⟨x, hx⟩ := hpow
          exact ⟨x + 1, by rw [Nat.pow_succ]; omega⟩) (by omega) (by omega) (fun j j1 j2 => absurd j2 (by omega)) a2 y2
        rw [show b + e + 1 = (b + 1) * 2 by omega] at nx
        rw [show (b + 1) * 2 = b + e + 1 by omega] at nx ⊢
        exact nx
  refine ⟨p <<< 16, hn, hr, sK_p hn hp, e0.symm, fun a2 y2 => ?_⟩
  rintro x rfl
  have k0 := l18 119999 1 0 1 (by omega) (by omega) (by rw [Nat.sub_self]) ⟨0, by omega⟩ (by omega) (by omega) (fun j j1 j2 => absurd j2 (by omega)) a2 y2
  rw [e0] at k0
  exact k0
theorem v_X6_sent : V_X6_sent := by
  intro n t w r L r2 L2 a0 y0 lo dp cl sh fd p what hn
  have h8 := hn.2.1
  unfold B_X6_sent_in
  rw [show decide (nI 0 ≤ what ∧ what ≤ nI 2) = hp what 3 from in_hp (n := 3) (by decide) (by decide)]
  refine ⟨hn.1, h8, fun c => ⟨fun h3 => ⟨hn, fun c4 => ⟨fun c5 => ?_, fun c5 => ?_⟩, fun c4 => ⟨_, _, _, se_3 c h3 c4, rfl, rfl, rfl⟩⟩, fun h3 => ⟨_, _, _, se_2 c h3, rfl, rfl, rfl⟩⟩, fun c => ⟨_, _, _, se_1 c, rfl, rfl, rfl⟩⟩
  · obtain ⟨p', hp', rfl⟩ := hp_ok (by omega) c
    have c6 : ¬ what = nI 0 := c5
    refine ⟨p', rfl, hn, c4, hp', fun a y z hz => ⟨_, _, _, se_4 c h3 c4 ?_, rfl, rfl, rfl⟩⟩
    rw [if_neg c6, tN_nI (by omega)]
    exact hz
  · obtain ⟨p', hp', rfl⟩ := hp_ok (by omega) c
    refine ⟨p', rfl, hn, c4, hp', fun a y => ⟨_, _, _, se_4 c h3 c4 ?_, rfl, rfl, rfl⟩⟩
    rw [if_pos (show what = nI 0 from c5), tN_nI (by omega)]
