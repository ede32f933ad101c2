/-! ===== by hand: one round more brings nothing new; the reference's isReady ===== -/
def sub_b (a b : Nat) : Prop := ∀ q, a.testBit q = true → b.testBit q = true
theorem sub_rst (t : Nat → Nat) (r i : Nat) : sub_b r (rst t r i) := by
  intro q h
  unfold rst
  split
  · rw [Nat.testBit_or, h]
    rfl
  · exact h
theorem sub_rro (t : Nat → Nat) (r : Nat) : ∀ k, sub_b r (rro t r k)
  | 0 => fun _ h => h
  | k + 1 => fun q h => sub_rst t _ k q (sub_rro t r k q h)
theorem cnt_mono {f g : Nat → Bool} (h : ∀ q, f q = true → g q = true) : ∀ N, cnt f N ≤ cnt g N
  | 0 => Nat.le_refl _
  | N + 1 => by
    have ih := cnt_mono h N
    unfold cnt
    by_cases c : f N = true
    · rw [if_pos c, if_pos (h N c)]; omega
    · rw [if_neg c]; omega
theorem cnt_same {f g : Nat → Bool} (h : ∀ q, f q = true → g q = true) : ∀ N, cnt g N ≤ cnt f N → ∀ q, q < N → g q = true → f q = true
  | 0, _, q, hq, _ => absurd hq (by omega)
  | N + 1, hc, q, hq, hg => by
    have m := cnt_mono h N
    unfold cnt at hc
    by_cases c : f N = true
    · rw [if_pos c, if_pos (h N c)] at hc
      by_cases e : q = N
      · rw [e]; exact c
      · exact cnt_same h N (by omega) q (by omega) hg
    · rw [if_neg c] at hc
      by_cases d : g N = true
      · rw [if_pos d] at hc; omega
      · rw [if_neg d] at hc
        have ne : q ≠ N := fun z => d (by rw [← z]; exact hg)
        exact cnt_same h N (by omega) q (by omega) hg
theorem cnt_all {f : Nat → Bool} : ∀ N, N ≤ cnt f N → ∀ q, q < N → f q = true
  | 0, _, q, hq => absurd hq (by omega)
  | N + 1, hc, q, hq => by
    have l := cnt_le f N
    unfold cnt at hc
    by_cases c : f N = true
    · rw [if_pos c] at hc
      by_cases e : q = N
      · rw [e]; exact c
      · exact cnt_all N (by omega) q (by omega)
    · rw [if_neg c] at hc; omega
theorem eq_b {n a b : Nat} (ha : a < 2 ^ n) (hb : b < 2 ^ n) (h : ∀ q, q < n → a.testBit q = b.testBit q) : a = b := by
  apply Nat.eq_of_testBit_eq
  intro q
  by_cases c : q < n
  · exact h q c
  · have hm : 2 ^ n ≤ 2 ^ q := Nat.pow_le_pow_right (by decide) (by omega)
    rw [Nat.testBit_lt_two_pow (by omega), Nat.testBit_lt_two_pow (by omega)]
theorem rch_step {n : Nat} {t : Nat → Nat} (hn : nOK n t) : ∀ k, k + 1 ≤ cnt (fun q => (rch t k).testBit q) n ∨ rch t (k + 1) = rch t k
  | 0 => by
    left
    have h1 := hn.1
    have := cnt_mono (f := fun q => decide (q = 0)) (g := fun q => (rch t 0).testBit q) (fun q hq => by
      have : q = 0 := of_decide_eq_true hq
      rw [this]
      show (1 : Nat).testBit 0 = true
      rw [Nat.testBit_one_eq_true_iff_self_eq_zero]) n
    have c1 : ∀ m, 1 ≤ m → 1 ≤ cnt (fun q => decide (q = 0)) m := by
      intro m
      induction m with
      | zero => intro h; omega
      | succ m ih =>
        intro _
        unfold cnt
        by_cases e : m = 0
        · rw [e]; exact Nat.le_refl _
        · have := ih (by omega)
          omega
    have := c1 n h1
    omega
  | k + 1 => by
    rcases rch_step hn k with h | h
    · by_cases c : rch t (k + 1) = rch t k
      · right
        show rro t (rch t (k + 1)) 32 = rch t (k + 1)
        rw [c]
        exact c
      · left
        have m := cnt_mono (f := fun q => (rch t k).testBit q) (g := fun q => (rch t (k + 1)).testBit q) (fun q hq => sub_rro t (rch t k) 32 q hq) n
        have : ¬ cnt (fun q => (rch t (k + 1)).testBit q) n ≤ cnt (fun q => (rch t k).testBit q) n := by
          intro l
          apply c
          apply eq_b (rch_lt2 hn (k + 1)) (rch_lt2 hn k)
          intro q hq
          have s1 : (rch t k).testBit q = true → (rch t (k + 1)).testBit q = true := sub_rro t (rch t k) 32 q
          have s2 := cnt_same (f := fun q => (rch t k).testBit q) (g := fun q => (rch t (k + 1)).testBit q) (fun q hq => sub_rro t (rch t k) 32 q hq) n l q hq
          exact Bool.eq_iff_iff.mpr ⟨s2, s1⟩
        omega
    · right
      show rro t (rch t (k + 1)) 32 = rch t (k + 1)
      rw [h]
      exact h
theorem rch_fix {n : Nat} {t : Nat → Nat} (hn : nOK n t) : rch t n = rch t (n - 1) := by
  have h1 := hn.1
  have e : n - 1 + 1 = n := by omega
  rcases rch_step hn (n - 1) with h | h
  · rw [e] at h
    have all := cnt_all (f := fun q => (rch t (n - 1)).testBit q) n h
    apply eq_b (rch_lt2 hn n) (rch_lt2 hn (n - 1))
    intro q hq
    rw [all q hq]
    have := sub_rro t (rch t (n - 1)) 32 q (all q hq)
    rw [← e]
    exact this
  · rw [e] at h
    exact h
theorem rro_4n {n : Nat} {t : Nat → Nat} (hn : nOK n t) (r : Nat) : ∀ z, rro t r (4 * n + z) = rro t r (4 * n)
  | 0 => rfl
  | z + 1 => by
    show rst t (rro t r (4 * n + z)) (4 * n + z) = _
    rw [rro_4n hn r z]
    unfold rst
    rw [if_neg]
    intro q
    have := (hn.2.2 _ q.2).1
    omega
theorem rro_32 {n : Nat} {t : Nat → Nat} (hn : nOK n t) (r : Nat) : rro t r (4 * n) = rro t r 32 := by
  have h8 := hn.2.1
  have := rro_4n hn r (32 - 4 * n)
  rw [show 4 * n + (32 - 4 * n) = 32 by omega] at this
  exact this.symm
/-- a post without doors is come to by nobody -/
theorem bit_off {n : Nat} {t : Nat → Nat} (hn : nOK n t) {p : Nat} (hp : dg t p = 0) (h0 : ¬ p = 0) : ∀ k, (rch t k).testBit p = false := by
  have off : ∀ i, t i < 32 → ¬ t i / 4 = p := by
    intro i hi e
    have h8 := hn.2.1
    obtain ⟨a, b, c⟩ := hn.2.2 i hi
    have := dg_pos (t := t) (i := t i) (by omega)
    rw [e] at this
    omega
  have one : ∀ r i, r.testBit p = false → (rst t r i).testBit p = false := by
    intro r i h
    unfold rst
    split
    · rename_i c
      rw [Nat.testBit_or, h, Nat.testBit_shiftLeft]
      have ne := off i c.2
      by_cases d : t i / 4 ≤ p
      · have : (1 : Nat).testBit (p - t i / 4) = false := by
          have e : ¬ (1 : Nat).testBit (p - t i / 4) = true := by
            rw [Nat.testBit_one_eq_true_iff_self_eq_zero]
            omega
          revert e
          cases (1 : Nat).testBit (p - t i / 4) <;> simp
        rw [this, Bool.and_false]
        rfl
      · rw [decide_eq_false (by omega)]
        rfl
    · exact h
  have rnd : ∀ r k, r.testBit p = false → (rro t r k).testBit p = false := by
    intro r k h
    induction k with
    | zero => exact h
    | succ k ih => exact one _ _ ih
  intro k
  induction k with
  | zero =>
    show (1 : Nat).testBit p = false
    have e : ¬ (1 : Nat).testBit p = true := by
      rw [Nat.testBit_one_eq_true_iff_self_eq_zero]
      exact h0
    revert e
    cases (1 : Nat).testBit p <;> simp
  | succ k ih => exact rnd _ _ ih
theorem one_off {t : Nat → Nat} (h0 : dg t 0 = 0) : ∀ k, rch t k = 1 := by
  have one : ∀ i, rst t 1 i = 1 := by
    intro i
    unfold rst
    split
    · rename_i c
      exfalso
      have h := dg_pos c.2
      by_cases e : i / 4 = 0
      · rw [e] at h; omega
      · have h1 := c.1
        rw [show (1 >>> (i / 4)) = 0 by rw [Nat.shiftRight_eq_div_pow]; exact Nat.div_eq_of_lt (Nat.one_lt_two_pow e)] at h1
        exact absurd h1 (by decide)
    · rfl
  have rnd : ∀ k, rro t 1 k = 1 := by
    intro k
    induction k with
    | zero => rfl
    | succ k ih =>
      show rst t (rro t 1 k) k = 1
      rw [ih]
      exact one k
  intro k
  induction k with
  | zero => rfl
  | succ k ih =>
    show rro t (rch t k) 32 = 1
    rw [ih]
    exact rnd 32
theorem dg_all {n : Nat} {t : Nat → Nat} (hn : nOK n t) {k : Nat} (h : rch t k = 2 ^ n - 1) {p : Nat} (hp : p < n) : 0 < dg t p ∨ n = 1 := by
  by_cases e : 0 < dg t p
  · exact Or.inl e
  · right
    by_cases c : p = 0
    · subst c
      have := one_off (t := t) (by omega) k
      rw [h] at this
      have h1 := hn.1
      by_cases d : n = 1
      · exact d
      · have : 2 ^ 2 ≤ 2 ^ n := Nat.pow_le_pow_right (by decide) (by omega)
        omega
    · have := bit_off hn (by omega) c k
      rw [h, Nat.testBit_two_pow_sub_one, decide_eq_true hp] at this
      cases this
theorem v_X6_isReady : V_X6_isReady := by
  intro n t w r L r2 L2 a0 y0 lo dp cl sh fd hn X4 X14 X89 X130 h4 h14 h89 h130
  have h8 := hn.2.1
  have h1 := hn.1
  have h28 := p28 h8
  have rdyI : rdy n t = true ↔ (∀ p, p < n → okd t p = true) ∧ rch t n = 2 ^ n - 1 := by
    unfold rdy
    rw [decide_eq_true_iff, rch_fix hn]
  -- the doors of a post
  have l130 : ∀ (z d : Nat) (v : Bool) (p : Nat), p < n → d + z = dg t p → (∀ b : Bool, (b = true ↔ v = true ∧ ∀ e, d ≤ e → e < dg t p → t (4 * p + e) < 32) → X89 b (p + 1)) → X130 v p (dg t p) d := by
    intro z
    induction z with
    | zero =>
      intro d v p hp hd hX
      have := dg_le t p
      exact h130 _ _ _ _ ⟨by omega, by omega, fun _ => hX v ⟨fun q => ⟨q, fun e e1 e2 => absurd e1 (by omega)⟩, fun q => q.1⟩, fun q => absurd q (by omega)⟩
    | succ z ih =>
      intro d v p hp hd hX
      have := dg_le t p
      refine h130 _ _ _ _ ⟨by omega, by omega, fun q => absurd q (by omega), fun q => ⟨fun c => ?_, fun c => ⟨by omega, fun c2 => ?_, fun c2 => ?_⟩⟩⟩
      · refine ih (d + 1) false p hp (by omega) (fun b hb => hX b ?_)
        rw [hb, c]
        exact ⟨fun q => absurd q.1 (by decide), fun q => absurd q.1 (by decide)⟩
      · refine ih (d + 1) false p hp (by omega) (fun b hb => hX b ?_)
        rw [hb]
        exact ⟨fun q => absurd q.1 (by decide), fun q => absurd (q.2 d (by omega) (by omega)) (aT_neg.mp c2)⟩
      · have tt : t (4 * p + d) < 32 := Classical.byContradiction (fun z => c2 (aT_neg.mpr z))
        refine ih (d + 1) true p hp (by omega) (fun b hb => hX b ?_)
        rw [hb, c]
        refine ⟨fun q => ⟨rfl, fun e e1 e2 => ?_⟩, fun q => ⟨rfl, fun e e1 e2 => q.2 e (by omega) e2⟩⟩
        by_cases ee : e = d
        · rw [ee]; exact tt
        · exact q.2 e (by omega) e2
  have l89 : ∀ (z p : Nat) (v : Bool), p + z = n → (v = true ↔ (∀ q, q < p → okd t q = true) ∧ rch t n = 2 ^ n - 1) → X89 v p := by
    intro z
    induction z with
    | zero =>
      intro p v hp hv
      obtain rfl : p = n := by omega
      refine h89 _ _ ⟨by omega, by omega, fun _ => ?_, fun q => absurd q (by omega)⟩
      exact Bool.eq_iff_iff.mpr (hv.trans rdyI.symm)
    | succ z ih =>
      intro p v hp hv
      have dl := dg_le t p
      have fin : ∀ b0 : Bool, (b0 = true ↔ v = true) → ∀ b : Bool, (b = true ↔ b0 = true ∧ ∀ e, 0 ≤ e → e < dg t p → t (4 * p + e) < 32) → X89 b (p + 1) := by
        intro b0 h0 b hb
        refine ih (p + 1) b (by omega) ?_
        rw [hb, h0, hv]
        refine ⟨fun q => ⟨fun a ha => ?_, q.1.2⟩, fun q => ⟨⟨fun a ha => q.1 a (by omega), q.2⟩, fun e _ e2 => ?_⟩⟩
        · by_cases e : a = p
          · rw [e]; exact decide_eq_true (fun d hd => q.2 d (by omega) hd)
          · exact q.1.1 a (by omega)
        · exact of_decide_eq_true (q.1 p (by omega)) e e2
      refine h89 _ _ ⟨by omega, by omega, fun q => absurd q (by omega), fun q => ⟨by omega, ?_⟩⟩
      rintro g rfl
      refine ⟨fun c => ?_, fun c => ⟨by omega, fun c2 => ?_, fun c2 => ⟨by omega, fun c3 => ?_, fun c3 => ?_⟩⟩⟩
      · exact l130 _ 0 false p (by omega) (Nat.zero_add _) (fin false (by rw [c]))
      · exact l130 _ 0 true p (by omega) (Nat.zero_add _) (fin true (by rw [c]))
      · exfalso
        have := dg_all hn (hv.mp c).2 (show p < n by omega)
        omega
      · exact l130 _ 0 true p (by omega) (Nat.zero_add _) (fin true (by rw [c]))
  have l4 : ∀ (z v : Nat), v + z = n → X4 (rch t v) v := by
    intro z
    induction z with
    | zero =>
      intro v hv
      obtain rfl : v = n := by omega
      have hb := rch_lt hn v
      refine h4 _ _ ⟨by omega, by omega, fun _ => ⟨h8, by omega, by omega, fun c => ?_, fun c => ?_⟩, fun q => absurd q (by omega)⟩
      · exact l89 v 0 false (by omega) ⟨fun q => (by cases q), fun q => absurd q.2 c⟩
      · exact l89 v 0 true (by omega) ⟨fun q => ⟨fun a ha => absurd ha (by omega), c⟩, fun _ => rfl⟩
    | succ z ih =>
      intro v hv
      have inner : ∀ (y u : Nat), u + y = 4 * n → X14 (rro t (rch t v) u) v u := by
        intro y
        induction y with
        | zero =>
          intro u hu
          refine h14 _ _ _ ⟨by omega, by omega, fun _ => ?_, fun q => absurd q (by omega)⟩
          have nx := ih (v + 1) (by omega)
          have e : rro t (rch t v) u = rch t (v + 1) := by
            show _ = rro t (rch t v) 32
            rw [← rro_32 hn, ← hu]
            rfl
          rw [e]
          exact nx
        | succ y ihy =>
          intro u hu
          have hb := rro_lt3 hn (rch_lt2 hn v) u
          have ha := and1 (rro t (rch t v) u >>> (u / 4))
          have nx := ihy (u + 1) (by omega)
          have step : rro t (rch t v) (u + 1) = rst t (rro t (rch t v) u) u := rfl
          rw [step] at nx
          unfold rst at nx
          refine h14 _ _ _ ⟨by omega, by omega, fun q => absurd q (by omega), fun q => ⟨by omega, by omega, by omega, by omega, fun c => ?_, fun c => ⟨by omega, fun c2 => ?_, fun c2 => ⟨by omega, ?_⟩⟩⟩⟩
          · rw [if_neg (fun z => c z.1)] at nx
            rintro x rfl
            rw [Nat.or_zero]
            exact nx
          · rw [if_neg (fun z => aT_neg.mp c2 z.2)] at nx
            rintro x rfl
            rw [Nat.or_zero]
            exact nx
          · have h3 : t u < 32 := Classical.byContradiction (fun q => c2 (aT_neg.mpr q))
            rw [if_pos ⟨c, h3⟩] at nx
            refine ⟨t u, aT_in h3, by omega, by omega, ?_⟩
            rintro x rfl
            exact nx
      exact h4 _ _ ⟨by omega, by omega, fun q => absurd q (by omega), fun _ => inner (4 * n) 0 (by omega)⟩
  exact l4 n 0 (by omega)
