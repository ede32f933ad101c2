/-! ===== by hand: those who are sent on; rings of states ===== -/
theorem and3 (a : Nat) : a &&& 3 < 4 := by
  have := Nat.and_le_right (n := a) (m := 3)
  omega
theorem sh16 (s : Nat) : s >>> 16 = s / 65536 := by rw [Nat.shiftRight_eq_div_pow]
theorem shl16 (s : Nat) : s <<< 16 = s * 65536 := by rw [Nat.shiftLeft_eq]
theorem a65535 (s : Nat) : s &&& 65535 = s % 65536 := Nat.and_two_pow_sub_one_eq_mod s 16
def hnd (t : Nat → Nat) (s : Nat) : Nat := (s >>> (2 * (s >>> 16))) &&& 3
def hnH (t : Nat → Nat) (s : Nat) : Nat := (s &&& 65535) ^^^ ((hnd t s ^^^ ((hnd t s + 1) % dg t (s >>> 16))) <<< (2 * (s >>> 16)))
def hnQ (t : Nat → Nat) (w : Nat → Bool) (s : Nat) : Nat := thr t w (4 * (s >>> 16) + hnd t s) / 4
theorem sn_0 {t : Nat → Nat} {w : Nat → Bool} {s : Nat} (h : dg t (s >>> 16) = 0) : sn t w s = s := by unfold sn; rw [if_pos h]
theorem sn_1 {t : Nat → Nat} {w : Nat → Bool} {s : Nat} (h : ¬ dg t (s >>> 16) = 0) : sn t w s = hnH t s ||| (hnQ t w s <<< 16) := by unfold sn; rw [if_neg h]; rfl
theorem or_add (H q : Nat) (h : H < 65536) : H ||| (q <<< 16) = q * 65536 + H := by
  rw [Nat.or_comm, shl16]
  have := Nat.two_pow_add_eq_or_of_lt (i := 16) (b := H) h q
  rw [show (2 : Nat) ^ 16 * q = q * 65536 by omega] at this
  exact this.symm
theorem hnH_lt {t : Nat → Nat} {s : Nat} (hs : s >>> 16 < 8) (h : 0 < dg t (s >>> 16)) : hnH t s < 65536 := by
  unfold hnH
  refine Nat.xor_lt_two_pow (n := 16) ?_ ?_
  · rw [a65535]; omega
  · have a1 := and3 (s >>> (2 * (s >>> 16)))
    have a2 := Nat.mod_lt (hnd t s + 1) h
    have a3 := dg_le t (s >>> 16)
    have a4 : hnd t s < 4 := a1
    have a5 : (hnd t s ^^^ ((hnd t s + 1) % dg t (s >>> 16))) < 2 ^ 2 := Nat.xor_lt_two_pow (by omega) (by omega)
    rw [Nat.shiftLeft_eq]
    have a6 : 2 ^ (2 * (s >>> 16)) ≤ 2 ^ 14 := Nat.pow_le_pow_right (by decide) (by omega)
    have a7 : (hnd t s ^^^ ((hnd t s + 1) % dg t (s >>> 16))) * 2 ^ (2 * (s >>> 16)) ≤ 3 * 2 ^ 14 := Nat.mul_le_mul (by omega) a6
    omega
theorem hnQ_n {n : Nat} {t : Nat → Nat} {w : Nat → Bool} {s : Nat} (hn : nOK n t) (hs : s >>> 16 < n) : hnQ t w s < n := by
  have a1 := and3 (s >>> (2 * (s >>> 16)))
  have a2 := thr_n (w := w) hn (show 4 * (s >>> 16) + hnd t s < 4 * n by unfold hnd; omega)
  unfold hnQ
  omega
theorem sOK_sh {n s : Nat} (h : sOK n s) : s >>> 16 < n := by
  unfold sOK at h
  rw [sh16]
  omega
theorem sOK_sn {n : Nat} {t : Nat → Nat} {w : Nat → Bool} {s : Nat} (hn : nOK n t) (h : sOK n s) : sOK n (sn t w s) := by
  by_cases c : dg t (s >>> 16) = 0
  · rw [sn_0 c]; exact h
  · have h8 := hn.2.1
    have h1 := sOK_sh h
    have h2 := hnH_lt (t := t) (show s >>> 16 < 8 by omega) (by omega)
    have h3 := hnQ_n (w := w) hn h1
    rw [sn_1 c, or_add _ _ h2]
    unfold sOK
    omega
theorem sOK_sns {n : Nat} {t : Nat → Nat} {w : Nat → Bool} {s : Nat} (hn : nOK n t) (h : sOK n s) : ∀ k, sOK n (sns t w s k)
  | 0 => h
  | k + 1 => sOK_sn hn (sOK_sns hn h k)
theorem sOK_p {n p : Nat} (h : p < n) : sOK n (p <<< 16) := by
  unfold sOK
  rw [shl16]
  omega
theorem sOK_big {n s : Nat} (h8 : n ≤ 8) (h : sOK n s) : s < 524288 := by
  unfold sOK at h
  omega
theorem v_X0_start : V_X0_start := by
  intro p
  exact rfl
theorem v_X0_postAt : V_X0_postAt := by
  intro s h
  exact ⟨h, rfl⟩
theorem v_X0_isMarkTime : V_X0_isMarkTime := by
  intro k h hb
  have l : k &&& (k - 1) ≤ k - 1 := Nat.and_le_right
  exact ⟨h, by omega, fun c => (decide_eq_false c).symm, fun c => (decide_eq_true c).symm⟩
theorem v_X0_sendOn : V_X0_sendOn := by
  intro n t w s hn hr hs
  have h8 := hn.2.1
  have hb := sOK_big h8 hs
  have hp := sOK_sh hs
  refine ⟨by omega, ?_⟩
  rintro p rfl
  refine ⟨by omega, ?_⟩
  rintro g rfl
  have gl := dg_le t (s >>> 16)
  refine ⟨by omega, fun c => ?_, fun c => (sn_0 (by omega)).symm⟩
  rintro x8 rfl
  refine ⟨by omega, by omega, ?_⟩
  rintro x11 rfl
  have a1 := and3 (s >>> (2 * (s >>> 16)))
  refine ⟨by omega, c, by omega, ?_⟩
  rintro x15 rfl
  rintro x16 rfl
  refine ⟨by omega, ?_⟩
  rintro x18 rfl
  have tl := thr_lt (t := t) (w := w) (show 4 * (s >>> 16) + ((s >>> (2 * (s >>> 16))) &&& 3) < 32 by omega)
  exact ⟨by omega, by omega, (sn_1 (by omega)).symm⟩
/-! the rows of states -/
theorem sns_eq {t : Nat → Nat} {w : Nat → Bool} {s a b : Nat} (h : sns t w s a = sns t w s b) : ∀ k, sns t w s (a + k) = sns t w s (b + k)
  | 0 => h
  | k + 1 => by
    show sn t w (sns t w s (a + k)) = sn t w (sns t w s (b + k))
    rw [sns_eq h k]
theorem sns_per {t : Nat → Nat} {w : Nat → Bool} {s m b : Nat} (h : sns t w s m = sns t w s (m + b)) : ∀ j, sns t w s m = sns t w s (m + j * b)
  | 0 => by rw [Nat.zero_mul, Nat.add_zero]
  | j + 1 => by
    have h1 := sns_per h j
    have h2 := sns_eq h (j * b)
    rw [show m + b + j * b = m + (j + 1) * b by rw [Nat.add_mul]; omega] at h2
    rw [← h2]
    exact h1
theorem rg_ex {t : Nat → Nat} {w : Nat → Bool} {s : Nat} (h : ∃ a b, 1 ≤ b ∧ sns t w s a = sns t w s (a + b)) : ∃ m k, rgM t w s m k := by
  obtain ⟨a0, b0, h1, h2⟩ := h
  obtain ⟨k, ⟨k1, a, ka⟩, kmin⟩ := pk_least (fun b => 1 ≤ b ∧ ∃ a, sns t w s a = sns t w s (a + b)) ⟨b0, h1, a0, h2⟩
  obtain ⟨m, ⟨b, b1, mb⟩, mmin⟩ := pk_least (fun a => ∃ b, 1 ≤ b ∧ sns t w s a = sns t w s (a + b)) ⟨a0, b0, h1, h2⟩
  refine ⟨m, k, k1, ?_, fun c d d1 cd => ⟨?_, ?_⟩⟩
  · have e1 := sns_per mb a
    have le : a ≤ m + a * b := by
      have : a * 1 ≤ a * b := Nat.mul_le_mul_left a b1
      omega
    have e2 := sns_eq ka (m + a * b - a)
    rw [show a + (m + a * b - a) = m + a * b by omega, show a + k + (m + a * b - a) = m + a * b + k by omega] at e2
    have e3 := sns_eq e1 k
    rw [e1, e2, ← e3]
  · exact Nat.le_of_not_lt (fun q => mmin c q ⟨d, d1, cd⟩)
  · exact Nat.le_of_not_lt (fun q => kmin d q ⟨d1, c, cd⟩)
theorem rg_un {t : Nat → Nat} {w : Nat → Bool} {s m k m2 k2 : Nat} (h : rgM t w s m k) (h2 : rgM t w s m2 k2) : m = m2 ∧ k = k2 := by
  have a := h.2.2 m2 k2 h2.1 h2.2.1
  have b := h2.2.2 m k h.1 h.2.1
  omega
/-- on the ring: it comes again behind k steps -/
theorem rg_on {t : Nat → Nat} {w : Nat → Bool} {s m k a : Nat} (h : rgM t w s m k) (ha : m ≤ a) : sns t w s a = sns t w s (a + k) := by
  have e := sns_eq h.2.1 (a - m)
  rw [show m + (a - m) = a by omega, show m + k + (a - m) = a + k by omega] at e
  exact e
/-- the first return to a mark is the ring's length -/
theorem rg_first {t : Nat → Nat} {w : Nat → Bool} {s a k : Nat} (h1 : 1 ≤ k) (h : sns t w s a = sns t w s (a + k)) (hf : ∀ j, 1 ≤ j → j < k → ¬ sns t w s (a + j) = sns t w s a) : ∃ m, rgM t w s m k := by
  obtain ⟨m, k', hr⟩ := rg_ex ⟨a, k, h1, h⟩
  have l := hr.2.2 a k h1 h
  have e := rg_on hr l.1
  have : ¬ k' < k := fun q => hf k' hr.1 q e.symm
  obtain rfl : k' = k := by omega
  exact ⟨m, hr⟩
theorem rg_per {t : Nat → Nat} {w : Nat → Bool} {p m k : Nat} (h : rgM t w (p <<< 16) m k) : perP t w p k := ⟨h.1, ⟨m, h.2.1⟩, fun a b b1 ab => (h.2.2 a b b1 ab).2⟩
theorem mk_no {e T : Nat} (h1 : 2 ^ e < T) (h2 : T < 2 ^ (e + 1)) : ¬ T &&& (T - 1) = 0 := by
  intro q
  have hp := Nat.two_pow_pos e
  have e2 : 2 ^ (e + 1) = 2 ^ e * 2 := Nat.pow_succ 2 e
  have bit : ∀ x, 2 ^ e ≤ x → x < 2 ^ (e + 1) → x.testBit e = true := by
    intro x a b
    rw [Nat.testBit_eq_decide_div_mod_eq]
    have : x / 2 ^ e = 1 := by
      apply Nat.div_eq_of_lt_le
      · omega
      · omega
    rw [this]
    rfl
  have : (T &&& (T - 1)).testBit e = true := by
    rw [Nat.testBit_and, bit T (by omega) h2, bit (T - 1) (by omega) (by omega)]
    rfl
  rw [q, Nat.zero_testBit] at this
  cases this
theorem mk_yes (e : Nat) : 2 ^ e &&& (2 ^ e - 1) = 0 := by
  rw [Nat.and_two_pow_sub_one_eq_mod, Nat.mod_self]
theorem v_X0_ringLength : V_X0_ringLength := by
  intro n t w p hn hr hp X13 h13
  have h8 := hn.2.1
  have key : ∀ (z T a mk st : Nat), T + z = 60001 → 1 ≤ T → st = sns t w (p <<< 16) (T - 1) → mk = sns t w (p <<< 16) a → a < T → ((T = 1 ∧ a = 0) ∨ ∃ e, a = 2 ^ e ∧ T ≤ 2 ^ (e + 1)) → (∀ j, 1 ≤ j → a + j < T → ¬ sns t w (p <<< 16) (a + j) = sns t w (p <<< 16) a) → X13 st mk a T := by
    intro z
    induction z with
    | zero =>
      rintro T a mk st hT T1 rfl rfl haT hcase hno
      refine h13 _ _ _ _ ⟨by omega, fun _ => ⟨_, Or.inr ⟨rfl, fun m k hm => ?_⟩, rfl⟩, fun q => absurd hT (by omega)⟩
      apply Nat.lt_of_not_le
      intro q
      rcases hcase with ⟨c, _⟩ | ⟨e, e1, e2⟩
      · omega
      · have ge : 15 ≤ e := Nat.le_of_not_lt (fun z => by
          have : 2 ^ (e + 1) ≤ 2 ^ 15 := Nat.pow_le_pow_right (by decide) (by omega)
          omega)
        have ge2 : 2 ^ 15 ≤ 2 ^ e := Nat.pow_le_pow_right (by decide) ge
        have le2 : e < 16 := Nat.lt_of_not_le (fun z => by
          have : 2 ^ 16 ≤ 2 ^ e := Nat.pow_le_pow_right (by decide) z
          omega)
        obtain rfl : e = 15 := by omega
        exact hno k hm.1 (by omega) (rg_on hm (by omega)).symm
    | succ z ih =>
      rintro T a mk st hT T1 rfl rfl haT hcase hno
      have s1 := sOK_sns (w := w) hn (sOK_p hp) (T - 1)
      have s2 := sOK_sns (w := w) hn (sOK_p hp) a
      have s3 := sOK_sn (w := w) hn s1
      have nx : sn t w (sns t w (p <<< 16) (T - 1)) = sns t w (p <<< 16) T := by
        rw [show T = (T - 1) + 1 by omega]
        rfl
      have b2 := sOK_big h8 s2
      have b3 := sOK_big h8 s3
      rw [nx] at b3
      refine h13 _ _ _ _ ⟨by omega, fun q => absurd q (by omega), fun _ => ⟨hn, hr, s1, ?_⟩⟩
      rw [nx]
      rintro x rfl
      refine ⟨by omega, by omega, fun c => ⟨T1, by omega, fun c2 => ?_, fun c2 => ?_⟩, fun c => ⟨by omega, ?_⟩⟩
      · have c2 := of_decide_eq_false c2
        have no2 : ∀ j, 1 ≤ j → a + j < T + 1 → ¬ sns t w (p <<< 16) (a + j) = sns t w (p <<< 16) a := by
          intro j j1 j2
          by_cases ee : a + j = T
          · rw [ee]; exact c
          · exact hno j j1 (by omega)
        refine ih (T + 1) a _ _ (by omega) (by omega) rfl rfl (by omega) (Or.inr ?_) no2
        rcases hcase with ⟨d, _⟩ | ⟨e, e1, e2⟩
        · subst d
          exact absurd rfl c2
        · refine ⟨e, e1, ?_⟩
          have : ¬ T = 2 ^ (e + 1) := fun q => c2 (by rw [q]; exact mk_yes (e + 1))
          omega
      · have c2 := of_decide_eq_true c2
        refine ih (T + 1) T _ _ (by omega) (by omega) rfl rfl (by omega) (Or.inr ?_) (fun j j1 j2 => absurd j2 (by omega))
        rcases hcase with ⟨d, _⟩ | ⟨e, e1, e2⟩
        · exact ⟨0, d, by rw [d]; decide⟩
        · have : T = 2 ^ (e + 1) := Classical.byContradiction (fun q => mk_no (e := e) (T := T) (by omega) (by omega) c2)
          refine ⟨e + 1, this, ?_⟩
          have e3 : 2 ^ (e + 1 + 1) = 2 ^ (e + 1) * 2 := Nat.pow_succ 2 (e + 1)
          have := Nat.two_pow_pos (e + 1)
          omega
      · rintro y rfl
        obtain ⟨m, hm⟩ := rg_first (t := t) (w := w) (s := p <<< 16) (a := a) (k := T - a) (by omega) (by rw [show a + (T - a) = T by omega]; exact c.symm) (fun j j1 j2 => hno j j1 (by omega))
        refine ⟨by omega, fun c3 => ⟨_, Or.inr ⟨rfl, fun m2 k2 hm2 => ?_⟩, rfl⟩, fun c3 => ⟨_, Or.inl ⟨T - a, by omega, rfl, rg_per hm⟩, rfl⟩⟩
        have := rg_un hm hm2
        omega
  rintro x rfl
  exact key 60000 1 0 _ _ (by omega) (by omega) rfl rfl (by omega) (Or.inl ⟨rfl, rfl⟩) (fun j j1 j2 => absurd j2 (by omega))
theorem v_X0_stepsAhead : V_X0_stepsAhead := by
  intro n t w p k hn hr hp hk hper X11 X34 h11 h34
  have h8 := hn.2.1
  have l34 : ∀ (z a : Nat), a + z = 20001 - k → (∀ j, j < a → ¬ sns t w (p <<< 16) j = sns t w (p <<< 16) (j + k)) → X34 (sns t w (p <<< 16) a) (sns t w (p <<< 16) (a + k)) a := by
    intro z
    induction z with
    | zero =>
      intro a ha hno
      refine h34 _ _ _ ⟨hk, by omega, by omega, fun _ => ⟨_, Or.inr ⟨rfl, fun m b hm => ?_⟩, rfl⟩, fun q => absurd ha (by omega)⟩
      obtain ⟨k1, ⟨c, hc⟩, hmin⟩ := hper
      have e1 := hmin m b hm.1 hm.2.1
      have e2 := (hm.2.2 c k k1 hc).2
      obtain rfl : b = k := by omega
      apply Nat.lt_of_not_le
      intro q
      exact hno m (by omega) hm.2.1
    | succ z ih =>
      intro a ha hno
      have s1 := sOK_sns (w := w) hn (sOK_p hp) a
      have s2 := sOK_sns (w := w) hn (sOK_p hp) (a + k)
      have b1 := sOK_big h8 s1
      have b2 := sOK_big h8 s2
      refine h34 _ _ _ ⟨hk, by omega, by omega, fun q => absurd q (by omega), fun _ => ⟨by omega, by omega, fun c => ⟨hn, hr, s1, ?_⟩, fun c => ⟨_, Or.inl ⟨a, by omega, ?_, rfl⟩, rfl⟩⟩⟩
      · rintro x rfl
        refine ⟨hn, hr, s2, ?_⟩
        rintro y rfl
        have nx := ih (a + 1) (by omega) (fun j hj => by
          by_cases e : j = a
          · rw [e]; exact c
          · exact hno j (by omega))
        rw [show a + 1 + k = (a + k) + 1 by omega] at nx
        exact nx
      · obtain ⟨k1, hex, hmin⟩ := hper
        refine ⟨k1, c, fun a2 d2 d21 ad => ⟨?_, hmin a2 d2 d21 ad⟩⟩
        obtain ⟨m, k', hm⟩ := rg_ex ⟨a, k, k1, c⟩
        have e1 := hmin m k' hm.1 hm.2.1
        have e2 := (hm.2.2 a k k1 c).2
        obtain rfl : k' = k := by omega
        have e3 := (hm.2.2 a2 d2 d21 ad).1
        have : ¬ m < a := fun q => hno m q hm.2.1
        omega
  have l11 : ∀ (z a : Nat), a + z = k → X11 (p <<< 16) (sns t w (p <<< 16) a) a := by
    intro z
    induction z with
    | zero =>
      intro a ha
      refine h11 _ _ _ ⟨by omega, by omega, fun _ => ?_, fun q => absurd ha (by omega)⟩
      have := l34 (20001 - k) 0 (by omega) (fun j hj => absurd hj (by omega))
      rw [Nat.zero_add] at this
      obtain rfl : a = k := by omega
      exact this
    | succ z ih =>
      intro a ha
      have s1 := sOK_sns (w := w) hn (sOK_p hp) a
      refine h11 _ _ _ ⟨by omega, by omega, fun q => absurd q (by omega), fun _ => ⟨hn, hr, s1, ?_⟩⟩
      rintro x rfl
      exact ih (a + 1) (by omega)
  rintro x rfl
  exact l11 k 0 (by omega)
theorem srch_none {P : Nat → Bool} : ∀ m k, (∀ j, k ≤ j → P j = false) → srch P m k = (-6)
  | 0, _, _ => rfl
  | m + 1, k, h => by
    rw [srch_f (h k (Nat.le_refl _))]
    exact srch_none m (k + 1) (fun j hj => h j (by omega))
theorem sen_same {f : Nat → Nat} {a : Nat} (h : ∀ j, ∃ l, l ≤ a ∧ f j = f l) {k : Nat} (hk : a ≤ k) : sen f k = sen f a := by
  apply Nat.eq_of_testBit_eq
  intro q
  have e : (sen f k).testBit q = true ↔ (sen f a).testBit q = true := by
    rw [sen_bit, sen_bit]
    refine ⟨fun ⟨j, h1, h2⟩ => ?_, fun ⟨j, h1, h2⟩ => ⟨j, by omega, h2⟩⟩
    obtain ⟨l, l1, l2⟩ := h j
    exact ⟨l, l1, by rw [← l2]; exact h2⟩
  exact Bool.eq_iff_iff.mpr e
theorem v_X0_stepsToAll : V_X0_stepsToAll := by
  intro n t w p hn hr hp X15 h15
  have h8 := hn.2.1
  have h28 := p28 h8
  have key : ∀ (z v a : Nat), v + z = 20001 → a ≤ v → srch (fun k => decide (sen (fun j => sns t w (p <<< 16) j >>> 16) k = 2 ^ n - 1)) z v = saV n t w p → X15 (sns t w (p <<< 16) v) (sns t w (p <<< 16) a) (sen (fun j => sns t w (p <<< 16) j >>> 16) v) v := by
    intro z
    induction z with
    | zero =>
      intro v a hv ha e
      exact h15 _ _ _ _ ⟨by omega, fun _ => e, fun q => absurd q (by omega)⟩
    | succ z ih =>
      intro v a hv ha e
      have s1 := sOK_sns (w := w) hn (sOK_p hp) v
      have s2 := sOK_sns (w := w) hn (sOK_p hp) a
      have s3 : sOK n (sn t w (sns t w (p <<< 16) v)) := sOK_sn hn s1
      have b2 := sOK_big h8 s2
      have b3 := sOK_big h8 s3
      have q3 := sOK_sh s3
      have hs := sen_lt (f := fun j => sns t w (p <<< 16) j >>> 16) (n := n) (fun k => sOK_sh (sOK_sns (w := w) hn (sOK_p hp) k)) v
      refine h15 _ _ _ _ ⟨by omega, fun q => absurd q (by omega), fun _ => ⟨h8, by omega, by omega, fun c => ⟨hn, hr, s1, ?_⟩, fun c => ?_⟩⟩
      · rintro x rfl
        have e2 : srch (fun k => decide (sen (fun j => sns t w (p <<< 16) j >>> 16) k = 2 ^ n - 1)) z (v + 1) = saV n t w p := by
          rw [← e]
          exact (srch_f (decide_eq_false c)).symm
        refine ⟨by omega, by omega, fun c2 => ⟨by omega, by omega, ?_⟩, fun c2 => ?_⟩
        · rintro y rfl
          refine ⟨by omega, by omega, fun _ => ?_, fun _ => ?_⟩
          · exact ih (v + 1) a (by omega) (by omega) e2
          · exact ih (v + 1) (v + 1) (by omega) (by omega) e2
        · rw [← e]
          refine (srch_none _ _ (fun j hj => decide_eq_false ?_)).symm
          rw [sen_same (a := v) ?_ hj]
          · exact c
          · intro i
            have c3 : sns t w (p <<< 16) (v + 1) = sns t w (p <<< 16) a := c2
            have back : ∃ l, l ≤ v ∧ sns t w (p <<< 16) i = sns t w (p <<< 16) l := by
              induction i using Nat.strongRecOn with
              | _ i ihi =>
                by_cases d : i ≤ v
                · exact ⟨i, d, rfl⟩
                · have ee := sns_eq c3 (i - (v + 1))
                  rw [show v + 1 + (i - (v + 1)) = i by omega] at ee
                  obtain ⟨l, l1, l2⟩ := ihi (a + (i - (v + 1))) (by omega)
                  exact ⟨l, l1, by rw [ee, l2]⟩
            obtain ⟨l, l1, l2⟩ := back
            exact ⟨l, l1, by show sns t w (p <<< 16) i >>> 16 = _; rw [l2]⟩
      · rw [← e]
        exact (srch_t (decide_eq_true c)).symm
  rintro x rfl
  refine ⟨by omega, ?_⟩
  rintro y rfl
  have k0 := key 20001 0 0 (by omega) (by omega) rfl
  have e1 : sen (fun j => sns t w (p <<< 16) j >>> 16) 0 = 1 <<< p := by
    show 1 <<< ((p <<< 16) >>> 16) = _
    rw [shl16, sh16, show p * 65536 / 65536 = p by omega]
  rw [e1] at k0
  exact k0
theorem n2c {x : Int32} (h : ¬ x ≤ nI 2) : nI 3 ≤ x := by
  rw [Int32.le_iff_toInt_le, nI_toInt (by decide)] at h ⊢
  omega
theorem se_1 {n : Nat} {t : Nat → Nat} {w : Nat → Bool} {p what : Int32} (h : hp p n = false) : seP n t w p what (-1) := by unfold seP; rw [h]; rfl
theorem se_2 {n : Nat} {t : Nat → Nat} {w : Nat → Bool} {p what : Int32} (h : hp p n = true) (h2 : hp what 3 = false) : seP n t w p what (-2) := by unfold seP; rw [h, h2]; rfl
theorem se_3 {n : Nat} {t : Nat → Nat} {w : Nat → Bool} {p what : Int32} (h : hp p n = true) (h2 : hp what 3 = true) (h3 : rdy n t = false) : seP n t w p what (-3) := by unfold seP; rw [h, h2, h3]; rfl
theorem se_4 {n : Nat} {t : Nat → Nat} {w : Nat → Bool} {p what r : Int32} (h : hp p n = true) (h2 : hp what 3 = true) (h3 : rdy n t = true) (h4 : if what = nI 0 then r = saV n t w (tN p) else rgP t w (tN p) what r) : seP n t w p what r := by unfold seP; rw [h, h2, h3]; exact h4
theorem m7_nI {k : Nat} (h : k < 2147483648) : ¬ nI k = (-7) := by
  intro z
  have := congrArg Int32.toInt z
  rw [nI_toInt (by omega)] at this
  have e : (-7 : Int32).toInt = -7 := by decide
  omega
theorem v_X5_sent : V_X5_sent := by
  intro n t w p what hn
  have h8 := hn.2.1
  refine ⟨fun c => ⟨fun c2 => ⟨_, se_2 c (hp_lt0 c2), rfl⟩, fun c2 => ⟨fun c3 => ⟨hn, fun c4 => ⟨fun c5 => ?_, fun c5 => ?_⟩, fun c4 => ⟨_, se_3 c (hp_in c2 (fun q => ?_)) c4, rfl⟩⟩, fun c3 => ⟨_, se_2 c (hp_ge (n2c c3)), rfl⟩⟩⟩, fun c => ⟨_, se_1 c, rfl⟩⟩
  · have h3 : hp what 3 = true := hpS (L := 2) (by decide) c2 c3
    obtain ⟨p', hp', rfl⟩ := hp_ok (by omega) c
    have c6 : ¬ what = nI 0 := c5
    refine ⟨p', rfl, hn, c4, hp', ?_⟩
    intro y hy
    refine ⟨fun c7 => ?_, fun c7 => ⟨_, se_4 c h3 c4 ?_, rfl⟩⟩
    · rcases hy with ⟨k, k1, rfl, k3⟩ | ⟨q, _⟩
      · refine ⟨p', rfl, k, rfl, hn, c4, hp', k1, k3, ?_⟩
        intro y2 hy2
        have fin : ∀ z : Int32, (rgP t w p' what z) → ∃ y : Int32, seP n t w (nI p') what y ∧ z = y := by
          intro z hz
          refine ⟨z, se_4 c h3 c4 ?_, rfl⟩
          rw [if_neg c6, tN_nI (by omega)]
          exact hz
        refine ⟨fun c8 => fin _ ?_, fun c8 => ⟨fun c9 => fin _ ?_, fun c9 => fin _ ?_⟩⟩
        · rcases hy2 with ⟨m, m1, m2, rfl⟩ | ⟨rfl, m2⟩
          · exact Or.inl ⟨m, k, m1, m2, by rw [if_pos c8]⟩
          · exact Or.inr ⟨rfl, m2⟩
        · rcases hy2 with ⟨m, m1, m2, rfl⟩ | ⟨rfl, m2⟩
          · exact Or.inl ⟨m, k, m1, m2, by rw [if_neg c8]⟩
          · exact absurd rfl c9
        · rcases hy2 with ⟨m, m1, m2, rfl⟩ | ⟨rfl, m2⟩
          · exact absurd c9 (m7_nI (by omega))
          · exact Or.inr ⟨rfl, m2⟩
      · exact absurd q c7
    · rw [if_neg c6, tN_nI (by omega)]
      rcases hy with ⟨k, k1, rfl, k3⟩ | ⟨_, q⟩
      · exact absurd c7 (m7_nI (by omega))
      · exact Or.inr ⟨rfl, q⟩
  · have h3 : hp what 3 = true := hpS (L := 2) (by decide) c2 c3
    obtain ⟨p', hp', rfl⟩ := hp_ok (by omega) c
    refine ⟨p', rfl, hn, c4, hp', _, se_4 c h3 c4 ?_, rfl⟩
    rw [if_pos (show what = nI 0 from c5), tN_nI (by omega)]
  · rw [Int32.le_iff_toInt_le, nI_toInt (by decide)] at q c3
    omega
