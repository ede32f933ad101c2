/-! ===== by hand: numbers alone. The net ===== -/
theorem hp_lt0 {x : Int32} {n : Nat} (h : x < 0) : hp x n = false := by
  unfold hp
  rw [decide_eq_false_iff_not]
  rintro ⟨a, b⟩
  rw [Int32.le_iff_toInt_le] at a
  rw [Int32.lt_iff_toInt_lt] at h
  omega
theorem hp_ge {x : Int32} {n : Nat} (h : nI n ≤ x) : hp x n = false := by
  unfold hp
  rw [decide_eq_false_iff_not]
  rintro ⟨a, b⟩
  rw [Int32.lt_iff_toInt_lt] at b
  rw [Int32.le_iff_toInt_le] at h
  omega
theorem hp_in {x : Int32} {n : Nat} (h1 : ¬ x < 0) (h2 : ¬ nI n ≤ x) : hp x n = true := by
  unfold hp
  rw [decide_eq_true_iff]
  rw [Int32.lt_iff_toInt_lt] at h1
  rw [Int32.le_iff_toInt_le] at h2
  rw [Int32.le_iff_toInt_le, Int32.lt_iff_toInt_lt]
  omega
theorem tN_nI {k : Nat} (h : k < 2147483648) : tN (nI k) = k := nI_clamp h
theorem v_X5_placeOf : V_X5_placeOf := by
  intro a d
  unfold B_X5_placeOf_in
  omega
theorem v_X5_postOf : V_X5_postOf := by
  intro a h
  exact ⟨h, rfl⟩
theorem v_X5_doorOf : V_X5_doorOf := by
  intro a h
  exact ⟨h, rfl⟩
theorem v_X5_asTold : V_X5_asTold := by
  intro a h
  exact ⟨h, h, rfl⟩
theorem v_X5_isWhich : V_X5_isWhich := by
  intro x
  unfold B_X5_isWhich_in isW
  refine ⟨fun h => ?_, fun h => ⟨fun h2 => ?_, fun h2 => ?_⟩⟩
  · exact (decide_eq_true (Or.inl h)).symm
  · exact (decide_eq_false (fun q => q.elim h h2)).symm
  · exact (decide_eq_true (Or.inr h2)).symm
theorem v_X5_isHow : V_X5_isHow := by
  intro x
  unfold B_X5_isHow_in isW
  refine ⟨fun h => ?_, fun h => ⟨fun h2 => ?_, fun h2 => ?_⟩⟩
  · exact (decide_eq_true (Or.inl h)).symm
  · exact (decide_eq_false (fun q => q.elim h h2)).symm
  · exact (decide_eq_true (Or.inr h2)).symm
theorem n20 (x : Int32) : (nI 20 < x) ↔ nI 21 ≤ x := by
  rw [Int32.lt_iff_toInt_lt, Int32.le_iff_toInt_le, nI_toInt (by decide), nI_toInt (by decide)]
  omega
theorem v_X5_isDepth : V_X5_isDepth := by
  intro x
  unfold B_X5_isDepth_in
  refine ⟨fun h => (hp_lt0 h).symm, fun h => ⟨fun h2 => (hp_ge ((n20 x).mp h2)).symm, fun h2 => (hp_in h (fun q => h2 ((n20 x).mpr q))).symm⟩⟩
theorem v_X5_rowOf_t : V_X5_rowOf_t := by
  intro r L r2 L2 o h
  exact ⟨fun q => (by rw [h] at q; cases q), fun _ => trivial⟩
theorem v_X5_rowOf_f : V_X5_rowOf_f := by
  intro r L r2 L2 o h
  exact ⟨fun _ => trivial, fun q => by rw [h] at q; cases q⟩
theorem v_X4_isFull : V_X4_isFull := by
  intro r L h
  refine ⟨by omega, fun q => (decide_eq_false (by omega)).symm, fun q => (decide_eq_true (by omega)).symm⟩
theorem v_X4_append : V_X4_append := by
  intro r L x h
  refine ⟨by omega, fun q => absurd (of_decide_eq_true q) (by omega), fun q => ⟨h, trivial⟩⟩
theorem v_X4_empty : V_X4_empty := by
  intro r L
  exact rfl
theorem v_X4_has : V_X4_has := by
  intro r L k
  exact ⟨fun h => (hp_lt0 h).symm, fun h => ⟨fun h2 => (hp_ge h2).symm, fun h2 => (hp_in h h2).symm⟩⟩
theorem v_X4_numberAt : V_X4_numberAt := by
  intro r L k h hL
  obtain ⟨j, hj, rfl⟩ := hp_ok (by omega) h
  refine ⟨fun q => (by rw [h] at q; cases q), fun _ => ⟨fun q => ?_, fun _ => ⟨j, rfl, by omega, by rw [tN_nI (by omega)]⟩⟩⟩
  exact absurd ((nI_leI (by decide) (by omega)).mp q) (by omega)
theorem v_X2_hasPost : V_X2_hasPost := by
  intro n t w p
  exact ⟨fun h => (hp_lt0 h).symm, fun h => ⟨fun h2 => (hp_ge h2).symm, fun h2 => (hp_in h h2).symm⟩⟩
theorem v_X2_hasPlace : V_X2_hasPlace := by
  intro n t w p d
  unfold B_X2_hasPlace_in hpl
  refine ⟨fun h => by rw [h]; rfl, fun h => ⟨fun h2 => by rw [h, hp_lt0 h2]; rfl, fun h2 => ⟨fun h3 => by rw [h, hp_ge h3]; rfl, fun h3 => by rw [h, hp_in h2 h3]; rfl⟩⟩⟩
theorem p28 {n : Nat} (h : n ≤ 8) : 2 ^ n ≤ 256 := Nat.le_trans (Nat.pow_le_pow_right (by decide) h) (by decide)
theorem v_X2_allPosts : V_X2_allPosts := by
  intro n t w h
  have := Nat.two_pow_pos n
  refine ⟨by omega, by rw [Nat.shiftLeft_eq]; omega, by rw [Nat.shiftLeft_eq, Nat.one_mul]⟩
theorem jd_le (t : Nat → Nat) (i : Nat) : jd t i ≤ 1 := by unfold jd; split <;> omega
theorem dg_le (t : Nat → Nat) (p : Nat) : dg t p ≤ 4 := by
  have h1 := jd_le t (4 * p)
  have h2 := jd_le t (4 * p + 1)
  have h3 := jd_le t (4 * p + 2)
  have h4 := jd_le t (4 * p + 3)
  unfold dg
  omega
theorem v_X2_degreeOf : V_X2_degreeOf := by
  intro n t w p h
  exact ⟨by omega, by omega, fun q => absurd q (by omega), fun _ => ⟨h, rfl⟩⟩
theorem v_X2_endOf : V_X2_endOf := by
  intro n t w i h
  exact ⟨by omega, by omega, fun q => absurd q (by omega), fun _ => ⟨h, rfl⟩⟩
theorem v_X2_isBad : V_X2_isBad := by
  intro n t w i h
  exact ⟨by omega, by omega, fun q => absurd q (by omega), fun _ => ⟨h, fun q => q.symm, fun q => q.symm⟩⟩
theorem v_X2_setBad : V_X2_setBad := by
  intro e0 w0 d0 z0 p0 i x h
  exact ⟨by omega, by omega, fun q => absurd q (by omega), fun _ => ⟨h, trivial⟩⟩
theorem v_X2_setEnd : V_X2_setEnd := by
  intro e0 w0 d0 z0 p0 i v y h
  refine ⟨by omega, ?_⟩
  rintro x rfl
  exact ⟨by omega, by omega, fun q => absurd q (by omega), fun _ => ⟨by omega, fun q => absurd q (by omega), fun _ => ⟨h, by omega, by omega, fun _ _ => rfl⟩⟩⟩
theorem v_X2_begin : V_X2_begin := by
  intro e0 w0 d0 z0 p0 m X12 X42 h12 h42
  have l42 : ∀ (k v : Nat) (e : Nat → Int32) (b : Nat → Bool) (d : Nat → Int32), v + k = 8 → (∀ i, i < 32 → e i = (-1)) → (∀ i, i < 32 → b i = false) → (∀ i, i < v → d i = 0) → X42 v e b d m 0 := by
    intro k
    induction k with
    | zero =>
      intro v e b d hv he hb hd
      refine h42 _ _ _ _ _ _ ⟨by omega, fun _ => ⟨fun i hi => he i hi, fun i hi => hb i hi, fun i hi => ?_, rfl, ?_⟩, fun q => absurd hv (by omega)⟩
      · rw [hd i (by omega)]
        rfl
      · decide +kernel
    | succ k ih =>
      intro v e b d hv he hb hd
      refine h42 _ _ _ _ _ _ ⟨by omega, fun q => absurd q (by omega), fun q => ⟨by omega, ?_⟩⟩
      refine ih (v + 1) e b _ (by omega) he hb (fun i hi => ?_)
      unfold upd
      split
      · rfl
      · exact hd i (by omega)
  have l12 : ∀ (k v : Nat) (e : Nat → Int32) (b : Nat → Bool), v + k = 32 → (∀ i, i < v → e i = (-1)) → (∀ i, i < v → b i = false) → X12 v e b d0 m 0 := by
    intro k
    induction k with
    | zero =>
      intro v e b hv he hb
      refine h12 _ _ _ _ _ _ ⟨by omega, fun _ => ?_, fun q => absurd hv (by omega)⟩
      exact l42 8 0 e b d0 (by omega) (fun i hi => he i (by omega)) (fun i hi => hb i (by omega)) (fun i hi => absurd hi (by omega))
    | succ k ih =>
      intro v e b hv he hb
      refine h12 _ _ _ _ _ _ ⟨by omega, fun q => absurd q (by omega), fun q => ⟨by omega, by omega, ?_⟩⟩
      refine ih (v + 1) _ _ (by omega) (fun i hi => ?_) (fun i hi => ?_)
      · unfold upd
        split
        · rfl
        · exact he i (by omega)
      · unfold upB
        split
        · rfl
        · exact hb i (by omega)
  exact l12 32 0 e0 w0 (by omega) (fun i hi => absurd hi (by omega)) (fun i hi => absurd hi (by omega))
theorem cnt_le (f : Nat → Bool) : ∀ k, cnt f k ≤ k
  | 0 => Nat.le_refl _
  | k + 1 => by
    have := cnt_le f k
    unfold cnt
    split <;> omega
theorem v_X2_badDoors : V_X2_badDoors := by
  intro n t w X4 h4
  have l4 : ∀ (k v : Nat), v + k = 32 → X4 (cnt w v) v := by
    intro k
    induction k with
    | zero =>
      intro v hv
      obtain rfl : v = 32 := by omega
      exact h4 _ _ ⟨by omega, fun _ => rfl, fun q => absurd q (by omega)⟩
    | succ k ih =>
      intro v hv
      refine h4 _ _ ⟨by omega, fun q => absurd q (by omega), fun q => ⟨by omega, fun c => ?_, fun c => ?_⟩⟩
      · rintro x rfl
        have := ih (v + 1) (by omega)
        rw [show cnt w (v + 1) = cnt w v + 0 from by show cnt w v + (if w v = true then 1 else 0) = _; rw [c]; rfl] at this
        exact this
      · rintro x rfl
        have := ih (v + 1) (by omega)
        rw [show cnt w (v + 1) = cnt w v + 1 from by show cnt w v + (if w v = true then 1 else 0) = _; rw [c]; rfl] at this
        exact this
  exact l4 32 0 (by omega)
theorem aE_m1 {t : Nat → Nat} {i : Nat} : aE t i = (-1) ↔ ¬ t i < 32 := by
  unfold aE
  by_cases h : t i < 32
  · rw [if_pos h]
    refine ⟨fun q => ?_, fun q => absurd h q⟩
    have := congrArg Int32.toInt q
    rw [nI_toInt (by omega)] at this
    have e : (-1 : Int32).toInt = -1 := by decide
    omega
  · rw [if_neg h]
    exact ⟨fun _ => h, fun _ => rfl⟩
theorem aE_in {t : Nat → Nat} {i : Nat} (h : t i < 32) : aE t i = nI (t i) := by
  unfold aE
  rw [if_pos h]
theorem aT_in {t : Nat → Nat} {i : Nat} (h : t i < 32) : aT t i = nI (t i) := by
  unfold aT
  rw [if_pos h]
theorem aT_neg {t : Nat → Nat} {i : Nat} : aT t i < 0 ↔ ¬ t i < 32 := by
  unfold aT
  by_cases h : t i < 32
  · rw [if_pos h]
    exact ⟨fun q => absurd q (nI_pos (by omega)), fun q => absurd h q⟩
  · rw [if_neg h]
    exact ⟨fun _ => h, fun _ => by decide⟩
theorem v_X2_through : V_X2_through := by
  intro n t w i h
  refine ⟨h, ?_⟩
  rintro x rfl
  refine ⟨fun c => ?_, fun c => ⟨h, fun c2 => ?_, fun c2 => ?_⟩⟩
  · unfold thr
    rw [if_pos (Or.inr (aE_m1.mp c))]
  · have h2 : t i < 32 := Classical.byContradiction (fun q => c (aE_m1.mpr q))
    unfold thr
    rw [if_neg (by rw [c2]; rintro (q | q); cases q; exact q h2)]
    exact aE_in h2
  · unfold thr
    rw [if_pos (Or.inl c2)]
theorem v_X2_hasFirstDoors : V_X2_hasFirstDoors := by
  intro n t w p hp8 X2 h2
  have hd := dg_le t p
  have l2 : ∀ (k v : Nat), v + k = dg t p → (∀ d, d < v → t (4 * p + d) < 32) → X2 v := by
    intro k
    induction k with
    | zero =>
      intro v hv hall
      refine h2 _ ⟨hp8, by omega, by omega, fun _ => (decide_eq_true (fun d hd => hall d (by omega))).symm, fun q => absurd hv (by omega)⟩
    | succ k ih =>
      intro v hv hall
      refine h2 _ ⟨hp8, by omega, by omega, fun q => absurd q (by omega), fun q => ⟨by omega, fun c => ?_, fun c => ?_⟩⟩
      · have h : t (4 * p + v) < 32 := Classical.byContradiction (fun q => c (aE_m1.mpr q))
        refine ih (v + 1) (by omega) (fun d hd => ?_)
        by_cases e : d = v
        · rw [e]; exact h
        · exact hall d (by omega)
      · exact (decide_eq_false (fun q => aE_m1.mp c (q v (by omega)))).symm
  exact l2 (dg t p) 0 (by omega) (fun d hd => absurd hd (by omega))
theorem bit_lt {r q n : Nat} (hr : r < 2 ^ n) (hq : q < n) : r ||| (1 <<< q) < 2 ^ n := by
  refine Nat.or_lt_two_pow hr ?_
  rw [Nat.shiftLeft_eq, Nat.one_mul]
  exact Nat.pow_lt_pow_right (by decide) hq
theorem nOK.to {n : Nat} {t : Nat → Nat} (h : nOK n t) {i : Nat} (hi : t i < 32) : t i < 4 * n := by
  obtain ⟨a, b, c⟩ := h.2.2 i hi
  have h2 : t (t i) < 32 := by rw [b]; have := h.2.1; omega
  exact (h.2.2 (t i) h2).1
theorem rst_lt {n : Nat} {t : Nat → Nat} (h : nOK n t) {r : Nat} (hr : r < 2 ^ n) (i : Nat) : rst t r i < 2 ^ n := by
  unfold rst
  split
  · rename_i c
    have := h.to c.2
    exact bit_lt hr (by omega)
  · exact hr
theorem rro_lt {n : Nat} {t : Nat → Nat} (h : nOK n t) {r : Nat} (hr : r < 2 ^ n) : ∀ k, rro t r k < 2 ^ n
  | 0 => hr
  | k + 1 => rst_lt h (rro_lt h hr k) k
theorem rch_lt2 {n : Nat} {t : Nat → Nat} (h : nOK n t) : ∀ k, rch t k < 2 ^ n
  | 0 => by
    have := Nat.pow_le_pow_right (show 0 < 2 by decide) h.1
    show 1 < 2 ^ n
    omega
  | k + 1 => rro_lt h (rch_lt2 h k) 32
theorem rch_lt {n : Nat} {t : Nat → Nat} (h : nOK n t) (k : Nat) : rch t k < 256 := by
  have h1 := rch_lt2 h k
  have h2 := p28 h.2.1
  omega
theorem v_X2_isReady : V_X2_isReady := by
  intro n t w hn X2 h2
  have hn8 := hn.2.1
  have h28 := p28 hn8
  have hb : rch t (n - 1) < 2147483648 := by have := rch_lt hn (n - 1); omega
  have l2 : ∀ (k v : Nat), v + k = n → (∀ p, p < v → okd t p = true) → X2 v := by
    intro k
    induction k with
    | zero =>
      intro v hv hall
      refine h2 _ ⟨by omega, by omega, fun _ => ⟨hn, hn8, hb, by omega, fun c => ?_, fun c => ?_⟩, fun q => absurd hv (by omega)⟩
      · exact (decide_eq_false (fun q => c q.2)).symm
      · exact (decide_eq_true ⟨fun p hp => hall p (by omega), c⟩).symm
    | succ k ih =>
      intro v hv hall
      refine h2 _ ⟨by omega, by omega, fun q => absurd q (by omega), fun q => ⟨by omega, fun c => ?_, fun c => ?_⟩⟩
      · refine ih (v + 1) (by omega) (fun p hp => ?_)
        by_cases e : p = v
        · rw [e]; exact c
        · exact hall p (by omega)
      · exact (decide_eq_false (fun z => by have := z.1 v (by omega); rw [c] at this; cases this)).symm
  exact l2 n 0 (by omega) (fun p hp => absurd hp (by omega))
theorem wk_how {t : Nat → Nat} {w : Nat → Bool} {how i x : Nat} (h : ¬ how = 0) : wk t w how i x = if dg t (i / 4) = 0 then i else thr t w (4 * (i / 4) + (0 + x) % dg t (i / 4)) := by
  unfold wk
  rw [if_neg h]
theorem v_X2_walkOn : V_X2_walkOn := by
  intro n t w i x how hi hx hh
  refine ⟨by omega, ?_⟩
  rintro p rfl
  refine ⟨by omega, ?_⟩
  rintro g rfl
  have hd := dg_le t (i / 4)
  refine ⟨by omega, fun c => ⟨by omega, fun c2 => ⟨by omega, c, by omega, ?_, ?_⟩, fun c2 => ⟨by omega, ?_⟩⟩, fun c => ?_⟩
  · have := Nat.mod_lt (0 + x) c
    omega
  · unfold wk
    rw [if_neg c2, if_neg (by omega)]
  · rintro y rfl
    refine ⟨by omega, c, by omega, ?_, ?_⟩
    · have := Nat.mod_lt (i % 4 + x) c
      omega
    · unfold wk
      rw [if_pos c2, if_neg (by omega)]
  · unfold wk
    rw [if_pos (by omega)]
theorem rro_lt3 {n : Nat} {t : Nat → Nat} (h : nOK n t) {r : Nat} (hr : r < 2 ^ n) (k : Nat) : rro t r k < 256 := by
  have h1 := rro_lt h hr k
  have h2 := p28 h.2.1
  omega
theorem and1 (a : Nat) : a &&& 1 < 2 := by
  rw [Nat.and_one_is_mod]
  omega
theorem v_X2_reachedFromFirst : V_X2_reachedFromFirst := by
  intro n t w hn X4 X14 h4 h14
  have hn8 := hn.2.1
  have hn1 := hn.1
  have key : ∀ (k v : Nat), 1 ≤ v → v + k = n → X4 (rch t (v - 1)) v := by
    intro k
    induction k with
    | zero =>
      intro v h1 hv
      refine h4 _ _ ⟨by omega, by omega, fun _ => ?_, fun q => absurd hv (by omega)⟩
      obtain rfl : v = n := by omega
      rfl
    | succ k ih =>
      intro v h1 hv
      refine h4 _ _ ⟨by omega, by omega, fun q => absurd q (by omega), fun q => ?_⟩
      have inner : ∀ (z u : Nat), u + z = 32 → X14 (rro t (rch t (v - 1)) u) v u := by
        intro z
        induction z with
        | zero =>
          intro u hu
          obtain rfl : u = 32 := by omega
          refine h14 _ _ _ ⟨by omega, fun _ => ?_, fun q => absurd q (by omega)⟩
          have := ih (v + 1) (by omega) (by omega)
          rw [show v + 1 - 1 = (v - 1) + 1 by omega] at this
          exact this
        | succ z ihz =>
          intro u hu
          have hb := rro_lt3 hn (rch_lt2 hn (v - 1)) u
          have ha := and1 (rro t (rch t (v - 1)) u >>> (u / 4))
          have nx := ihz (u + 1) (by omega)
          have step : rro t (rch t (v - 1)) (u + 1) = rst t (rro t (rch t (v - 1)) u) u := rfl
          rw [step] at nx
          unfold rst at nx
          refine h14 _ _ _ ⟨by omega, fun q => absurd q (by omega), fun q => ⟨by omega, by omega, by omega, by omega, fun c => ?_, fun c => ⟨by omega, fun c2 => ?_, fun c2 => ?_⟩⟩⟩
          · rw [if_neg (fun z => c z.1)] at nx
            exact nx
          · rw [if_neg (fun z => aE_m1.mp c2 z.2)] at nx
            exact nx
          · have h3 : t u < 32 := Classical.byContradiction (fun q => c2 (aE_m1.mpr q))
            rw [if_pos ⟨c, h3⟩] at nx
            refine ⟨by omega, t u, aE_in h3, by omega, by omega, ?_⟩
            rintro x rfl
            exact nx
      exact inner 32 0 (by omega)
  exact key (n - 1) 1 (by omega) (by omega)
/-! joining and parting: one door at a time -/
theorem dg_set (t : Nat → Nat) (i v p : Nat) : dg (upN t i v) p + (if i / 4 = p then jd t i else 0) = dg t p + (if i / 4 = p then (if v < 32 then 1 else 0) else 0) := by
  have ne : ∀ k, k ≠ i → jd (upN t i v) k = jd t k := fun k hk => by unfold jd upN; rw [if_neg hk]
  have eq : jd (upN t i v) i = if v < 32 then 1 else 0 := by unfold jd upN; rw [if_pos rfl]
  unfold dg
  by_cases h : i / 4 = p
  · rw [if_pos h, if_pos h]
    have hr : i = 4 * p ∨ i = 4 * p + 1 ∨ i = 4 * p + 2 ∨ i = 4 * p + 3 := by omega
    rcases hr with e | e | e | e
    · rw [← e, eq, ne (i + 1) (by omega), ne (i + 2) (by omega), ne (i + 3) (by omega)]
      omega
    · rw [← e, eq, ne (4 * p) (by omega), ne (4 * p + 2) (by omega), ne (4 * p + 3) (by omega)]
      omega
    · rw [← e, eq, ne (4 * p) (by omega), ne (4 * p + 1) (by omega), ne (4 * p + 3) (by omega)]
      omega
    · rw [← e, eq, ne (4 * p) (by omega), ne (4 * p + 1) (by omega), ne (4 * p + 2) (by omega)]
      omega
  · rw [if_neg h, if_neg h, ne (4 * p) (by omega), ne (4 * p + 1) (by omega), ne (4 * p + 2) (by omega), ne (4 * p + 3) (by omega)]
theorem cnt_set (f g : Nat → Bool) (a : Nat) (h : ∀ k, k ≠ a → g k = f k) : ∀ N, cnt g N + (if a < N then (if f a = true then 1 else 0) else 0) = cnt f N + (if a < N then (if g a = true then 1 else 0) else 0)
  | 0 => by simp [cnt]
  | N + 1 => by
    have ih := cnt_set f g a h N
    unfold cnt
    by_cases e : N = a
    · subst e
      rw [if_neg (Nat.lt_irrefl _), if_neg (Nat.lt_irrefl _)] at ih
      rw [if_pos (Nat.lt_succ_self _), if_pos (Nat.lt_succ_self _)]
      omega
    · rw [h N e]
      by_cases l : a < N
      · rw [if_pos l, if_pos l] at ih
        rw [if_pos (show a < N + 1 by omega), if_pos (show a < N + 1 by omega)]
        omega
      · rw [if_neg l, if_neg l] at ih
        rw [if_neg (show ¬ a < N + 1 by omega), if_neg (show ¬ a < N + 1 by omega)]
        omega
theorem prs_set (t : Nat → Nat) (i v : Nat) (hi : i < 32) : prs (upN t i v) + (if t i < 32 ∧ i < t i then 1 else 0) = prs t + (if v < 32 ∧ i < v then 1 else 0) := by
  have h := cnt_set (fun k => decide (t k < 32 ∧ k < t k)) (fun k => decide (upN t i v k < 32 ∧ k < upN t i v k)) i (fun k hk => by unfold upN; rw [if_neg hk]) 32
  rw [if_pos hi, if_pos hi] at h
  simp only [decide_eq_true_eq] at h
  have e : upN t i v i = v := by unfold upN; rw [if_pos rfl]
  rw [e] at h
  exact h
theorem upN_ne (f : Nat → Nat) {i v k : Nat} (h : ¬ k = i) : upN f i v k = f k := by unfold upN; rw [if_neg h]
theorem upN_eq (f : Nat → Nat) (i v : Nat) : upN f i v i = v := by unfold upN; rw [if_pos rfl]
theorem tie_up (t : Nat → Nat) {i j : Nat} (h : ¬ i = j) : tie t i j = upN (upN t i j) j i := by
  funext k
  unfold tie upN
  by_cases a : k = i
  · rw [if_pos a, if_neg (by omega), if_pos a]
  · rw [if_neg a]
    by_cases b : k = j
    · rw [if_pos b, if_pos b]
    · rw [if_neg b, if_neg b, if_neg a]
theorem unt_up (t : Nat → Nat) (i j : Nat) : unt t i j = upN (upN t i 32) j 32 := by
  funext k
  unfold unt upN
  by_cases a : k = i
  · rw [if_pos a]
    by_cases b : k = j
    · rw [if_pos b]
    · rw [if_neg b, if_pos a]
  · rw [if_neg a]
    by_cases b : k = j
    · rw [if_pos b, if_pos b]
    · rw [if_neg b, if_neg b, if_neg a]
theorem aE_up {t : Nat → Nat} {i v : Nat} (hv : v < 32) : upd (aE t) i (nI v) = aE (upN t i v) := by
  funext k
  unfold upd aE upN
  by_cases a : k = i
  · rw [if_pos a, if_pos a, if_pos hv]
  · rw [if_neg a, if_neg a]
theorem aE_un {t : Nat → Nat} {i : Nat} : upd (aE t) i (-1) = aE (upN t i 32) := by
  funext k
  unfold upd aE upN
  by_cases a : k = i
  · rw [if_pos a, if_pos a, if_neg (by decide)]
  · rw [if_neg a, if_neg a]
theorem aT_up {t : Nat → Nat} {i v : Nat} (hv : v < 32) : upd (aT t) i (nI v) = aT (upN t i v) := by
  funext k
  unfold upd aT upN
  by_cases a : k = i
  · rw [if_pos a, if_pos a, if_pos hv]
  · rw [if_neg a, if_neg a]
theorem aT_un {t : Nat → Nat} {i : Nat} : upd (aT t) i (-6) = aT (upN t i 32) := by
  funext k
  unfold upd aT upN
  by_cases a : k = i
  · rw [if_pos a, if_pos a, if_neg (by decide)]
  · rw [if_neg a, if_neg a]
theorem aN_inc (f : Nat → Nat) (k : Nat) : upd (aN f) k (aN f k + nI 1) = aN (upN f k (f k + 1)) := by
  rw [show aN f k + nI 1 = nI (f k + 1) from nI_add _ _]
  exact aN_up _ _ _
theorem aN_dec (f : Nat → Nat) (k : Nat) (h : 1 ≤ f k) : upd (aN f) k (aN f k + (-1)) = aN (upN f k (f k - 1)) := by
  rw [show aN f k + (-1) = nI (f k - 1) from by
    obtain ⟨a, e⟩ : ∃ a, f k = a + 1 := ⟨f k - 1, by omega⟩
    show nI (f k) + (-1) = _
    rw [e]
    exact pk_m1 a]
  exact aN_up _ _ _
theorem dg_tie {t : Nat → Nat} {i j : Nat} (h : ¬ i = j) (hi : ¬ t i < 32) (hj : ¬ t j < 32) (i32 : i < 32) (j32 : j < 32) (p : Nat) : dg (tie t i j) p = dg t p + (if i / 4 = p then 1 else 0) + (if j / 4 = p then 1 else 0) := by
  rw [tie_up t h]
  have h1 := dg_set t i j p
  have h2 := dg_set (upN t i j) j i p
  have e1 : jd t i = 0 := by unfold jd; rw [if_neg hi]
  have e2 : jd (upN t i j) j = 0 := by unfold jd; rw [upN_ne t (fun q => h q.symm), if_neg hj]
  rw [e1, if_pos j32] at h1
  rw [e2, if_pos i32] at h2
  simp only [ite_self] at h1 h2
  omega
theorem prs_tie {t : Nat → Nat} {i j : Nat} (h : ¬ i = j) (hi : ¬ t i < 32) (hj : ¬ t j < 32) (i32 : i < 32) (j32 : j < 32) : prs (tie t i j) = prs t + 1 := by
  rw [tie_up t h]
  have h1 := prs_set t i j i32
  have h2 := prs_set (upN t i j) j i j32
  have e2 : upN t i j j = t j := upN_ne t (fun q => h q.symm)
  rw [e2, if_neg (fun q => hj q.1)] at h2
  rw [if_neg (fun q => hi q.1)] at h1
  by_cases l : i < j
  · rw [if_pos ⟨j32, l⟩] at h1
    rw [if_neg (by omega)] at h2
    omega
  · rw [if_neg (fun q => l q.2)] at h1
    rw [if_pos (by omega)] at h2
    omega
theorem v_X2_tie : V_X2_tie := by
  intro n t w i j hn hi hj h ti tj
  have hn8 := hn.2.1
  refine ⟨by omega, by omega, fun k hk => ?_, fun k hk => ?_, (prs_tie h ti tj (by omega) (by omega)).symm⟩
  · rw [aE_up (by omega), aE_up (by omega), tie_up t h]
  · rw [aN_inc, aN_inc]
    show nI _ = nI _
    rw [dg_tie h ti tj (by omega) (by omega)]
    congr 1
    unfold upN
    by_cases a : k = j / 4 <;> by_cases b : k = i / 4 <;> by_cases d : j / 4 = i / 4 <;> simp [a, b, d, eq_comm] <;> omega
theorem dg_pos {t : Nat → Nat} {i : Nat} (h : t i < 32) : 1 ≤ dg t (i / 4) := by
  have e : jd t i = 1 := by unfold jd; rw [if_pos h]
  unfold dg
  have hr : i = 4 * (i / 4) ∨ i = 4 * (i / 4) + 1 ∨ i = 4 * (i / 4) + 2 ∨ i = 4 * (i / 4) + 3 := by omega
  rcases hr with q | q | q | q <;> rw [← q, e] <;> omega
theorem dg_unt {t : Nat → Nat} {i j : Nat} (h : ¬ i = j) (hi : t i < 32) (hj : t j < 32) (p : Nat) : dg (unt t i j) p + (if i / 4 = p then 1 else 0) + (if j / 4 = p then 1 else 0) = dg t p := by
  rw [unt_up]
  have h1 := dg_set t i 32 p
  have h2 := dg_set (upN t i 32) j 32 p
  have e1 : jd t i = 1 := by unfold jd; rw [if_pos hi]
  have e2 : jd (upN t i 32) j = 1 := by unfold jd; rw [upN_ne t (fun q => h q.symm), if_pos hj]
  rw [e1] at h1
  rw [e2] at h2
  simp only [Nat.lt_irrefl, if_false, ite_self] at h1 h2
  omega
theorem prs_unt {t : Nat → Nat} {i j : Nat} (h : ¬ i = j) (hi : t i = j) (hj : t j = i) (i32 : i < 32) (j32 : j < 32) : prs (unt t i j) + 1 = prs t := by
  rw [unt_up]
  have h1 := prs_set t i 32 i32
  have h2 := prs_set (upN t i 32) j 32 j32
  have e2 : upN t i 32 j = t j := upN_ne t (fun q => h q.symm)
  rw [e2, hj] at h2
  rw [hi] at h1
  simp only [Nat.lt_irrefl, false_and, if_false] at h1 h2
  by_cases l : i < j
  · rw [if_pos (by omega)] at h1
    rw [if_neg (by omega)] at h2
    omega
  · rw [if_neg (by omega)] at h1
    rw [if_pos (by omega)] at h2
    omega
theorem v_X2_untie : V_X2_untie := by
  intro n t w i j hn hi ti hj
  have hn8 := hn.2.1
  obtain ⟨h0, h1, h2⟩ := hn.2.2 i ti
  have hj2 := hn.to ti
  have h : ¬ i = j := by omega
  have tj : t j = i := by rw [hj]; exact h1
  have hp := prs_unt h hj.symm tj (by omega) (by omega)
  refine ⟨by omega, by omega, by omega, fun k hk => ?_, fun k hk => ?_, by omega⟩
  · rw [aE_un, aE_un, unt_up]
  · have d1 := dg_pos ti
    have d2 := dg_pos (show t j < 32 by omega)
    have e := dg_unt h ti (show t j < 32 by omega) k
    have e2 := dg_unt h ti (show t j < 32 by omega) (i / 4)
    rw [aN_dec _ _ d1]
    rw [aN_dec _ _ (by
      unfold upN
      by_cases d : j / 4 = i / 4
      · rw [if_pos d]
        rw [if_pos rfl, if_pos d] at e2
        omega
      · rw [if_neg d]
        exact d2)]
    show nI _ = nI _
    congr 1
    unfold upN
    clear e2
    by_cases a : k = j / 4
    · subst a
      rw [if_pos rfl]
      by_cases d : j / 4 = i / 4
      · rw [if_pos d, ← d]
        rw [if_pos d.symm, if_pos rfl] at e
        omega
      · rw [if_neg d]
        rw [if_neg (fun q => d q.symm), if_pos rfl] at e
        omega
    · rw [if_neg a]
      by_cases b : k = i / 4
      · subst b
        rw [if_pos rfl]
        rw [if_pos rfl, if_neg (fun q => a q.symm)] at e
        omega
      · rw [if_neg b]
        rw [if_neg (fun q => b q.symm), if_neg (fun q => a q.symm)] at e
        omega
