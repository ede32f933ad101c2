/-! ===== by hand: the calls that change the net and the rows ===== -/
theorem hpl_ok {n : Nat} {p d : Int32} (hn : n ≤ 8) (h : hpl n p d = true) : ∃ a b, a < n ∧ b < 4 ∧ p = nI a ∧ d = nI b ∧ plc p d = 4 * a + b := by
  unfold hpl at h
  rw [Bool.and_eq_true] at h
  obtain ⟨a, ha, rfl⟩ := hp_ok (by omega) h.1
  obtain ⟨b, hb, rfl⟩ := hp_ok (by omega) h.2
  refine ⟨a, b, ha, hb, rfl, rfl, ?_⟩
  unfold plc
  rw [tN_nI (by omega), tN_nI (by omega)]
theorem n4 (a b : Nat) : (nI 4 * nI a) + nI b = nI (4 * a + b) := by rw [pk_mul, nI_add]
theorem in_hp {p : Int32} {n : Nat} (h1 : 1 ≤ n) (h2 : n < 2147483648) : decide (nI 0 ≤ p ∧ p ≤ nI (n - 1)) = hp p n := by
  unfold hp
  apply decide_eq_decide.mpr
  rw [Int32.le_iff_toInt_le, Int32.le_iff_toInt_le, Int32.le_iff_toInt_le, Int32.lt_iff_toInt_lt, nI_toInt (by omega), nI_toInt (by omega), nI_toInt h2]
  have e : (0 : Int32).toInt = 0 := by decide
  omega
theorem lt_not {x y : Int32} : x < y ↔ ¬ y ≤ x := by
  rw [Int32.lt_iff_toInt_lt, Int32.le_iff_toInt_le]
  omega
theorem v_X6_in : V_X6_in := by
  intro v lo hi
  unfold B_X6_in_in
  refine ⟨fun h => (decide_eq_false (fun q => lt_not.mp h q.1)).symm, fun h => ⟨fun h2 => (decide_eq_false (fun q => lt_not.mp h2 q.2)).symm, fun h2 => (decide_eq_true ⟨?_, ?_⟩).symm⟩⟩
  · exact Classical.byContradiction (fun q => h (lt_not.mpr q))
  · exact Classical.byContradiction (fun q => h2 (lt_not.mpr q))
theorem v_X6_begin : V_X6_begin := by
  intro n t w r L r2 L2 a0 y0 lo dp cl sh fd X2 h2
  have l : ∀ (k v : Nat) (e : Nat → Int32) (b : Nat → Bool), v + k = 32 → (∀ i, i < v → e i = (-6)) → (∀ i, i < v → b i = false) → X2 v e b := by
    intro k
    induction k with
    | zero =>
      intro v e b hv he hb
      exact h2 _ _ _ ⟨by omega, fun _ => ⟨fun i hi => he i (by omega), fun i hi => hb i (by omega)⟩, fun q => absurd hv (by omega)⟩
    | succ k ih =>
      intro v e b hv he hb
      refine h2 _ _ _ ⟨by omega, fun q => absurd q (by omega), fun q => ⟨by omega, by omega, ?_⟩⟩
      refine ih (v + 1) _ _ (by omega) (fun i hi => ?_) (fun i hi => ?_)
      · unfold upd
        split
        · rfl
        · exact he i (by omega)
      · unfold upB
        split
        · rfl
        · exact hb i (by omega)
  exact l 32 0 t w (by omega) (fun i hi => absurd hi (by omega)) (fun i hi => absurd hi (by omega))
theorem v_X6_isPost : V_X6_isPost := by
  intro n t w r L r2 L2 a0 y0 lo dp cl sh fd p h1 h8
  exact ⟨h1, in_hp h1 (by omega)⟩
theorem v_X6_isDoor : V_X6_isDoor := by
  intro n t w r L r2 L2 a0 y0 lo dp cl sh fd p d h1 h8
  have e : decide (nI 0 ≤ d ∧ d ≤ nI 3) = hp d 4 := in_hp (n := 4) (by decide) (by decide)
  unfold B_X6_isDoor_in hpl
  rw [e]
  refine ⟨h1, h8, fun h => by rw [h]; rfl, fun h => ⟨fun h2 => by rw [h, h2]; rfl, fun h2 => by rw [h, h2]; rfl⟩⟩
theorem isM_nI {m : Int32} (h : isM m = true) : ∃ k, 1 ≤ k ∧ k ≤ 8 ∧ m = nI k := by
  have h := of_decide_eq_true h
  have h1 := h.1
  have h2 := h.2
  rw [Int32.le_iff_toInt_le, nI_toInt (by decide)] at h1 h2
  obtain ⟨k, hk, e⟩ := nI_of (x := m) (by rw [Int32.lt_iff_toInt_lt]; have e : (0 : Int32).toInt = 0 := (by decide); omega)
  rw [e, nI_toInt hk] at h1 h2
  exact ⟨k, by omega, by omega, e⟩
theorem po_no {n : Nat} {t : Nat → Nat} {w : Nat → Bool} {m : Int32} (h : isM m = false) : poA n m = (-2) ∧ poN n m = n ∧ poT t m = t ∧ poW w m = w := by
  unfold poA poN poT poW
  rw [h]
  exact ⟨rfl, rfl, rfl, rfl⟩
theorem po_yes {n : Nat} {t : Nat → Nat} {w : Nat → Bool} {m : Int32} (h : isM m = true) : poA n m = nI n ∧ poN n m = tN m ∧ poT t m = tF ∧ poW w m = wF := by
  unfold poA poN poT poW
  rw [h]
  exact ⟨rfl, rfl, rfl, rfl⟩
theorem v_X6_posts : V_X6_posts := by
  intro n t w r L r2 L2 a0 y0 lo dp cl sh fd m hn
  refine ⟨fun c => ?_, fun c => ?_⟩
  · obtain ⟨k, k1, k8, e⟩ := isM_nI (m := m) c
    obtain ⟨a1, a2, a3, a4⟩ := po_yes (n := n) (t := t) (w := w) (m := m) c
    refine ⟨k, e, a1.symm, fun _ _ => by rw [a3], fun _ _ => by rw [a4], ?_⟩
    rw [a2, e, tN_nI (by omega)]
  · obtain ⟨a1, a2, a3, a4⟩ := po_no (n := n) (t := t) (w := w) (m := m) c
    exact ⟨a1.symm, fun _ _ => by rw [a3], fun _ _ => by rw [a4], a2.symm⟩
theorem v_X5_posts : V_X5_posts := by
  intro n t w m hn
  refine ⟨fun c => ?_, fun c => ⟨fun c2 => ?_, fun c2 => ?_⟩⟩
  · obtain ⟨a1, a2, a3, a4⟩ := po_no (n := n) (t := t) (w := w) (m := m) (decide_eq_false (fun q => lt_not.mp c q.1))
    exact ⟨a1.symm, fun _ _ => by rw [a3], fun _ _ => by rw [a4], fun _ _ => by rw [a3], a2.symm, by rw [a3]⟩
  · have hM : isM m = true := decide_eq_true ⟨Classical.byContradiction (fun q => c (lt_not.mpr q)), c2⟩
    obtain ⟨k, k1, k8, e⟩ := isM_nI hM
    obtain ⟨a1, a2, a3, a4⟩ := po_yes (n := n) (t := t) (w := w) hM
    refine ⟨k, e, a1.symm, fun _ _ => by rw [a3], fun _ _ => by rw [a4], fun _ _ => by rw [a3], ?_, by rw [a3]⟩
    rw [a2, e, tN_nI (by omega)]
  · obtain ⟨a1, a2, a3, a4⟩ := po_no (n := n) (t := t) (w := w) (m := m) (decide_eq_false (fun q => c2 q.2))
    exact ⟨a1.symm, fun _ _ => by rw [a3], fun _ _ => by rw [a4], fun _ _ => by rw [a3], a2.symm, by rw [a3]⟩
theorem aT_le {t : Nat → Nat} {i : Nat} (hi : i < 32) : aT t i ≤ nI i ↔ ¬ (t i < 32 ∧ i < t i) := by
  unfold aT
  by_cases h : t i < 32
  · rw [if_pos h, nI_leI (by omega) (by omega)]
    omega
  · rw [if_neg h]
    refine ⟨fun _ q => h q.1, fun _ => ?_⟩
    rw [Int32.le_iff_toInt_le, nI_toInt (by omega)]
    have e : (-6 : Int32).toInt = -6 := by decide
    omega
theorem v_X6_pairs : V_X6_pairs := by
  intro n t w r L r2 L2 a0 y0 lo dp cl sh fd hn X4 h4
  have l4 : ∀ (k v : Nat), v + k = 32 → X4 (cnt (fun i => decide (t i < 32 ∧ i < t i)) v) v := by
    intro k
    induction k with
    | zero =>
      intro v hv
      obtain rfl : v = 32 := by omega
      exact h4 _ _ ⟨by omega, fun _ => rfl, fun q => absurd q (by omega)⟩
    | succ k ih =>
      intro v hv
      have nx := ih (v + 1) (by omega)
      unfold cnt at nx
      refine h4 _ _ ⟨by omega, fun q => absurd q (by omega), fun q => ⟨by omega, fun c => ?_, fun c => ?_⟩⟩
      · rintro x rfl
        rw [if_neg (by simpa using (aT_le (by omega)).mp c)] at nx
        exact nx
      · rintro x rfl
        rw [if_pos (decide_eq_true (Classical.byContradiction (fun q => c ((aT_le (by omega)).mpr q))))] at nx
        exact nx
  exact l4 32 0 (by omega)
theorem jo_b {n : Nat} {t : Nat → Nat} {a da b db : Int32} (h : joO n t a da b db = false) : joT n t a da b db = t := by
  unfold joT
  rw [h]
  rfl
theorem jo_n1 {n : Nat} {t : Nat → Nat} {a da b db : Int32} (h : (hpl n a da && hpl n b db) = false) : joA n t a da b db = (-1) ∧ joT n t a da b db = t := by
  have e : joO n t a da b db = false := by unfold joO; rw [h]; rfl
  refine ⟨?_, jo_b e⟩
  unfold joA
  rw [h]
  rfl
theorem jo_n5 {n : Nat} {t : Nat → Nat} {a da b db : Int32} (h1 : hpl n a da = true) (h2 : hpl n b db = true) (h : plc a da = plc b db ∨ t (plc a da) < 32 ∨ t (plc b db) < 32) : joA n t a da b db = (-5) ∧ joT n t a da b db = t := by
  have e : joO n t a da b db = false := by
    unfold joO
    rw [h1, h2]
    rw [show decide (¬ plc a da = plc b db ∧ ¬ t (plc a da) < 32 ∧ ¬ t (plc b db) < 32) = false from decide_eq_false (by omega)]
    rfl
  refine ⟨?_, jo_b e⟩
  unfold joA
  rw [h1, h2, e]
  rfl
theorem jo_y {n : Nat} {t : Nat → Nat} {a da b db : Int32} (h1 : hpl n a da = true) (h2 : hpl n b db = true) (h3 : ¬ plc a da = plc b db) (h4 : ¬ t (plc a da) < 32) (h5 : ¬ t (plc b db) < 32) : joA n t a da b db = nI (prs (joT n t a da b db)) ∧ joT n t a da b db = tie t (plc a da) (plc b db) := by
  have e : joO n t a da b db = true := by
    unfold joO
    rw [h1, h2, decide_eq_true ⟨h3, h4, h5⟩]
    rfl
  refine ⟨?_, ?_⟩
  · unfold joA
    rw [h1, h2, e]
    rfl
  · unfold joT
    rw [e]
    rfl
theorem nOK_tie {n : Nat} {t : Nat → Nat} {i j : Nat} (hn : nOK n t) (hi : i < 4 * n) (hj : j < 4 * n) (h : ¬ i = j) (ti : ¬ t i < 32) (tj : ¬ t j < 32) : nOK n (tie t i j) := by
  have h8 := hn.2.1
  refine ⟨hn.1, hn.2.1, fun k hk => ?_⟩
  have ej : tie t i j j = i := by unfold tie; rw [if_neg (fun q => h q.symm), if_pos rfl]
  have ei : tie t i j i = j := by unfold tie; rw [if_pos rfl]
  by_cases a : k = i
  · rw [a, ei, ej]
    exact ⟨hi, rfl, fun q => h q.symm⟩
  · by_cases b : k = j
    · rw [b, ej, ei]
      exact ⟨hj, rfl, h⟩
    · have e : tie t i j k = t k := by unfold tie; rw [if_neg a, if_neg b]
      rw [e] at hk ⊢
      obtain ⟨c1, c2, c3⟩ := hn.2.2 k hk
      have n1 : ¬ t k = i := fun q => by rw [q] at c2; exact ti (by omega)
      have n2 : ¬ t k = j := fun q => by rw [q] at c2; exact tj (by omega)
      refine ⟨c1, ?_, c3⟩
      unfold tie
      rw [if_neg n1, if_neg n2]
      exact c2
theorem nOK_unt {n : Nat} {t : Nat → Nat} {i : Nat} (hn : nOK n t) (ti : t i < 32) : nOK n (unt t i (t i)) := by
  have h8 := hn.2.1
  refine ⟨hn.1, hn.2.1, fun k hk => ?_⟩
  have a : ¬ k = i := fun q => by unfold unt at hk; rw [if_pos q] at hk; omega
  have b : ¬ k = t i := fun q => by unfold unt at hk; rw [if_neg a, if_pos q] at hk; omega
  have e : unt t i (t i) k = t k := by unfold unt; rw [if_neg a, if_neg b]
  rw [e] at hk ⊢
  obtain ⟨c1, c2, c3⟩ := hn.2.2 k hk
  obtain ⟨d1, d2, d3⟩ := hn.2.2 i ti
  have n1 : ¬ t k = i := fun q => by rw [q] at c2; exact b c2.symm
  have n2 : ¬ t k = t i := fun q => by rw [q, d2] at c2; exact a c2.symm
  refine ⟨c1, ?_, c3⟩
  unfold unt
  rw [if_neg n1, if_neg n2]
  exact c2
theorem aT_ge {t : Nat → Nat} {i : Nat} : 0 ≤ aT t i ↔ t i < 32 := by
  have h := aT_neg (t := t) (i := i)
  rw [lt_not] at h
  by_cases c : t i < 32
  · exact ⟨fun _ => c, fun _ => Classical.byContradiction (fun q => (h.mp q) c)⟩
  · exact ⟨fun q => absurd q (h.mpr c), fun q => absurd q c⟩
theorem v_X6_join : V_X6_join := by
  intro n t w r L r2 L2 a0 y0 lo dp cl sh fd a da b db hn
  have h8 := hn.2.1
  refine ⟨hn.1, h8, fun c => ?_, fun c => ⟨hn.1, h8, fun c2 => ?_, fun c2 => ?_⟩⟩
  · obtain ⟨e1, e2⟩ := jo_n1 (t := t) (show (hpl n a da && hpl n b db) = false by rw [c]; rfl)
    exact ⟨e1.symm, fun _ _ => by rw [e2]⟩
  · obtain ⟨a1, a2, h1, h2, e1, e2, pa⟩ := hpl_ok h8 c
    obtain ⟨b1, b2, h3, h4, e3, e4, pb⟩ := hpl_ok h8 c2
    have ea : (nI 4 * a) + da = nI (4 * a1 + a2) := by rw [e1, e2, n4]
    have eb : (nI 4 * b) + db = nI (4 * b1 + b2) := by rw [e3, e4, n4]
    rintro x7 rfl x8 rfl
    refine ⟨fun q => ?_, fun q => ⟨_, ea, by omega, fun q2 => ?_, fun q2 => ⟨_, eb, by omega, fun q3 => ?_, fun q3 => ?_⟩⟩⟩
    · rw [ea, eb, nI_eq (by omega) (by omega)] at q
      obtain ⟨z1, z2⟩ := jo_n5 (t := t) c c2 (Or.inl (by rw [pa, pb, q]))
      exact ⟨z1.symm, fun _ _ => by rw [z2]⟩
    · obtain ⟨z1, z2⟩ := jo_n5 (t := t) c c2 (Or.inr (Or.inl (by rw [pa]; exact aT_ge.mp q2)))
      exact ⟨z1.symm, fun _ _ => by rw [z2]⟩
    · have t1 : ¬ t (4 * a1 + a2) < 32 := fun z => q2 (aT_ge.mpr z)
      have t2 : ¬ t (4 * b1 + b2) < 32 := aT_neg.mp q3
      have ne : ¬ 4 * a1 + a2 = 4 * b1 + b2 := fun z => q (by rw [ea, eb, z])
      obtain ⟨z1, z2⟩ := jo_y (t := t) c c2 (by rw [pa, pb]; exact ne) (by rw [pa]; exact t1) (by rw [pb]; exact t2)
      rw [pa, pb] at z2
      refine ⟨_, ea, by omega, _, eb, by omega, tie t (4 * a1 + a2) (4 * b1 + b2), fun k hk => ?_, nOK_tie hn (by omega) (by omega) ne t1 t2, ?_, fun _ _ => by rw [z2]⟩
      · rw [ea, eb, aT_up (by omega), aT_up (by omega), tie_up t ne]
      · rw [z1, z2]
    · obtain ⟨z1, z2⟩ := jo_n5 (t := t) c c2 (Or.inr (Or.inr (by rw [pb]; exact Classical.byContradiction (fun z => q3 (aT_neg.mpr z)))))
      exact ⟨z1.symm, fun _ _ => by rw [z2]⟩
  · obtain ⟨e1, e2⟩ := jo_n1 (t := t) (show (hpl n a da && hpl n b db) = false by rw [c2, Bool.and_false])
    exact ⟨e1.symm, fun _ _ => by rw [e2]⟩
theorem v_X5_join : V_X5_join := by
  intro n t w a da b db hn
  have h8 := hn.2.1
  refine ⟨fun c => ?_, fun c => ⟨fun c2 => ?_, fun c2 => ?_⟩⟩
  · obtain ⟨e1, e2⟩ := jo_n1 (t := t) (show (hpl n a da && hpl n b db) = false by rw [c]; rfl)
    exact ⟨e1.symm, fun _ _ => by rw [e2], fun _ _ => by rw [e2], by rw [e2]⟩
  · obtain ⟨a1, a2, h1, h2, e1, e2, pa⟩ := hpl_ok h8 c
    obtain ⟨b1, b2, h3, h4, e3, e4, pb⟩ := hpl_ok h8 c2
    refine ⟨a1, e1, a2, e2, ?_⟩
    rintro x rfl
    refine ⟨b1, e3, b2, e4, ?_⟩
    rintro y rfl
    refine ⟨by omega, by omega, fun q => ?_, fun q => ⟨by omega, fun q2 => ?_, fun q2 => ⟨by omega, fun q3 => ?_, fun q3 => ?_⟩⟩⟩
    · obtain ⟨z1, z2⟩ := jo_n5 (t := t) c c2 (Or.inl (by rw [pa, pb, q]))
      exact ⟨z1.symm, fun _ _ => by rw [z2], fun _ _ => by rw [z2], by rw [z2]⟩
    · obtain ⟨z1, z2⟩ := jo_n5 (t := t) c c2 (Or.inr (Or.inl (by rw [pa]; exact Classical.byContradiction (fun z => q2 (aE_m1.mpr z)))))
      exact ⟨z1.symm, fun _ _ => by rw [z2], fun _ _ => by rw [z2], by rw [z2]⟩
    · have t1 := aE_m1.mp q2
      have t2 := aE_m1.mp q3
      obtain ⟨z1, z2⟩ := jo_y (t := t) c c2 (by rw [pa, pb]; exact q) (by rw [pa]; exact t1) (by rw [pb]; exact t2)
      rw [pa, pb] at z2
      refine ⟨hn, by omega, by omega, q, t1, t2, ?_, fun _ _ => by rw [z2], fun _ _ => by rw [z2], by rw [z2]⟩
      rw [z1, z2]
    · obtain ⟨z1, z2⟩ := jo_n5 (t := t) c c2 (Or.inr (Or.inr (by rw [pb]; exact Classical.byContradiction (fun z => q3 (aE_m1.mpr z)))))
      exact ⟨z1.symm, fun _ _ => by rw [z2], fun _ _ => by rw [z2], by rw [z2]⟩
  · obtain ⟨e1, e2⟩ := jo_n1 (t := t) (show (hpl n a da && hpl n b db) = false by rw [c2, Bool.and_false])
    exact ⟨e1.symm, fun _ _ => by rw [e2], fun _ _ => by rw [e2], by rw [e2]⟩
theorem v_X6_named : V_X6_named := by
  intro a h
  exact ⟨h, h, rfl⟩
theorem pa_b {n : Nat} {t : Nat → Nat} {p d : Int32} (h : paO n t p d = false) : paT n t p d = t := by
  unfold paT
  rw [h]
  rfl
theorem pa_n1 {n : Nat} {t : Nat → Nat} {p d : Int32} (h : hpl n p d = false) : paA n t p d = (-1) ∧ paT n t p d = t := by
  refine ⟨?_, pa_b ?_⟩
  · unfold paA; rw [h]; rfl
  · unfold paO; rw [h]; rfl
theorem pa_n6 {n : Nat} {t : Nat → Nat} {p d : Int32} (h : hpl n p d = true) (h2 : ¬ t (plc p d) < 32) : paA n t p d = (-6) ∧ paT n t p d = t := by
  refine ⟨?_, pa_b ?_⟩
  · unfold paA; rw [h, if_neg h2]; rfl
  · unfold paO; rw [h, decide_eq_false h2]; rfl
theorem pa_y {n : Nat} {t : Nat → Nat} {p d : Int32} (h : hpl n p d = true) (h2 : t (plc p d) < 32) : paA n t p d = nI (10 * (t (plc p d) / 4) + t (plc p d) % 4) ∧ paT n t p d = unt t (plc p d) (t (plc p d)) := by
  refine ⟨?_, ?_⟩
  · unfold paA; rw [h, if_pos h2]; rfl
  · unfold paT paO; rw [h, decide_eq_true h2]; rfl
theorem v_X6_part : V_X6_part := by
  intro n t w r L r2 L2 a0 y0 lo dp cl sh fd p d hn
  have h8 := hn.2.1
  refine ⟨hn.1, h8, fun c => ?_, fun c => ?_⟩
  · obtain ⟨a1, a2, h1, h2, e1, e2, pa⟩ := hpl_ok h8 c
    have ea : (nI 4 * p) + d = nI (4 * a1 + a2) := by rw [e1, e2, n4]
    refine ⟨_, ea, by omega, ?_⟩
    rintro x rfl
    refine ⟨fun q => ?_, fun q => ?_⟩
    · have tt := aT_ge.mp q
      obtain ⟨z1, z2⟩ := pa_y (t := t) c (by rw [pa]; exact tt)
      rw [pa] at z1 z2
      refine ⟨_, ea, by omega, _, aT_in tt, by omega, _, aT_in tt, by omega, z1.symm, fun k hk => ?_⟩
      rw [aT_un, aT_un, z2, unt_up]
    · have tt : ¬ t (4 * a1 + a2) < 32 := fun z => q (aT_ge.mpr z)
      obtain ⟨z1, z2⟩ := pa_n6 (t := t) c (by rw [pa]; exact tt)
      exact ⟨z1.symm, fun _ _ => by rw [z2]⟩
  · obtain ⟨z1, z2⟩ := pa_n1 (t := t) c
    exact ⟨z1.symm, fun _ _ => by rw [z2]⟩
theorem v_X5_part : V_X5_part := by
  intro n t w p d hn
  have h8 := hn.2.1
  refine ⟨fun c => ?_, fun c => ?_⟩
  · obtain ⟨a1, a2, h1, h2, e1, e2, pa⟩ := hpl_ok h8 c
    refine ⟨a1, e1, a2, e2, ?_⟩
    rintro x rfl
    refine ⟨by omega, ?_⟩
    rintro y rfl
    refine ⟨fun q => ?_, fun q => ?_⟩
    · have tt : t (4 * a1 + a2) < 32 := Classical.byContradiction (fun z => q (aE_m1.mpr z))
      obtain ⟨z1, z2⟩ := pa_y (t := t) c (by rw [pa]; exact tt)
      rw [pa] at z1 z2
      exact ⟨_, aE_in tt, hn, by omega, tt, rfl, _, aE_in tt, by omega, z1.symm, fun _ _ => by rw [z2], fun _ _ => by rw [z2], by rw [z2]⟩
    · have tt := aE_m1.mp q
      obtain ⟨z1, z2⟩ := pa_n6 (t := t) c (by rw [pa]; exact tt)
      exact ⟨z1.symm, fun _ _ => by rw [z2], fun _ _ => by rw [z2], by rw [z2]⟩
  · obtain ⟨z1, z2⟩ := pa_n1 (t := t) c
    exact ⟨z1.symm, fun _ _ => by rw [z2], fun _ _ => by rw [z2], by rw [z2]⟩
theorem ba_n {n : Nat} {w : Nat → Bool} {p d : Int32} {x : Bool} (h : hpl n p d = false) : baA n w p d = (-1) ∧ baW n w p d x = w := by
  unfold baA baW
  rw [h]
  exact ⟨rfl, rfl⟩
theorem ba_y {n : Nat} {w : Nat → Bool} {p d : Int32} {x : Bool} (h : hpl n p d = true) : baA n w p d = bI (w (plc p d)) ∧ baW n w p d x = upB w (plc p d) x := by
  unfold baA baW
  rw [h]
  exact ⟨rfl, rfl⟩
theorem v_X6_bad : V_X6_bad := by
  intro n t w r L r2 L2 a0 y0 lo dp cl sh fd p d x hn
  have h8 := hn.2.1
  refine ⟨hn.1, h8, fun c => ?_, fun c => ?_⟩
  · obtain ⟨a1, a2, h1, h2, e1, e2, pa⟩ := hpl_ok h8 c
    have ea : (nI 4 * p) + d = nI (4 * a1 + a2) := by rw [e1, e2, n4]
    obtain ⟨z1, z2⟩ := ba_y (w := w) (x := x) c
    rw [pa] at z1 z2
    refine ⟨_, ea, by omega, fun q => ⟨_, ea, by omega, ?_, fun _ _ => by rw [z2]⟩, fun q => ⟨_, ea, by omega, ?_, fun _ _ => by rw [z2]⟩⟩
    · rw [z1, q]; rfl
    · rw [z1, q]; rfl
  · obtain ⟨z1, z2⟩ := ba_n (w := w) (x := x) c
    exact ⟨z1.symm, fun _ _ => by rw [z2]⟩
theorem v_X5_bad : V_X5_bad := by
  intro n t w p d x hn
  have h8 := hn.2.1
  refine ⟨fun c => ?_, fun c => ?_⟩
  · obtain ⟨a1, a2, h1, h2, e1, e2, pa⟩ := hpl_ok h8 c
    obtain ⟨z1, z2⟩ := ba_y (w := w) (x := x) c
    rw [pa] at z1 z2
    refine ⟨a1, e1, a2, e2, ?_⟩
    rintro y rfl
    refine ⟨by omega, ?_⟩
    rintro b hb
    refine ⟨by omega, fun q => ⟨?_, fun _ _ => by rw [z2]⟩, fun q => ⟨?_, fun _ _ => by rw [z2]⟩⟩
    · rw [z1, ← hb, q]; rfl
    · rw [z1, ← hb, q]; rfl
  · obtain ⟨z1, z2⟩ := ba_n (w := w) (x := x) c
    exact ⟨z1.symm, fun _ _ => by rw [z2]⟩
theorem le_n {n : Nat} {t : Nat → Nat} {w : Nat → Bool} {p d : Int32} (h : hpl n p d = false) : leA n t w p d = (-1) := by
  unfold leA
  rw [h]
  rfl
theorem le_6 {n : Nat} {t : Nat → Nat} {w : Nat → Bool} {p d : Int32} (h : hpl n p d = true) (h2 : ¬ t (plc p d) < 32) : leA n t w p d = (-6) := by
  unfold leA
  rw [h, if_neg h2]
  rfl
theorem le_y {n : Nat} {t : Nat → Nat} {w : Nat → Bool} {p d : Int32} (h : hpl n p d = true) (h2 : t (plc p d) < 32) : leA n t w p d = nI (10 * (thr t w (plc p d) / 4) + thr t w (plc p d) % 4) := by
  unfold leA
  rw [h, if_pos h2]
  rfl
theorem thr_no {t : Nat → Nat} {w : Nat → Bool} {i : Nat} (h : w i = false) (h2 : t i < 32) : thr t w i = t i := by
  unfold thr
  rw [if_neg (by rw [h]; rintro (q | q); cases q; exact q h2)]
theorem thr_bad {t : Nat → Nat} {w : Nat → Bool} {i : Nat} (h : w i = true) : thr t w i = i := by
  unfold thr
  rw [if_pos (Or.inl h)]
theorem v_X6_leads : V_X6_leads := by
  intro n t w r L r2 L2 a0 y0 lo dp cl sh fd p d hn
  have h8 := hn.2.1
  refine ⟨hn.1, h8, fun c => ?_, fun c => (le_n c).symm⟩
  obtain ⟨a1, a2, h1, h2, e1, e2, pa⟩ := hpl_ok h8 c
  have ea : (nI 4 * p) + d = nI (4 * a1 + a2) := by rw [e1, e2, n4]
  rintro x rfl
  refine ⟨_, ea, by omega, fun q => ⟨_, ea, by omega, fun q2 => ⟨_, ea, by omega, _, aT_in (aT_ge.mp q), ?_, ?_⟩, fun q2 => ⟨_, ea, by omega, ?_⟩⟩, fun q => ?_⟩
  · have := aT_ge.mp q
    omega
  · have tt := aT_ge.mp q
    have z := le_y (w := w) c (by rw [pa]; exact tt)
    rw [pa, thr_no q2 tt] at z
    exact z.symm
  · have tt := aT_ge.mp q
    have z := le_y (w := w) c (by rw [pa]; exact tt)
    rw [pa, thr_bad q2] at z
    exact z.symm
  · exact (le_6 c (by rw [pa]; exact fun z => q (aT_ge.mpr z))).symm
theorem thr_lt {t : Nat → Nat} {w : Nat → Bool} {i : Nat} (h : i < 32) : thr t w i < 32 := by
  unfold thr
  split
  · exact h
  · omega
theorem v_X5_leads : V_X5_leads := by
  intro n t w p d hn
  have h8 := hn.2.1
  refine ⟨fun c => ?_, fun c => (le_n c).symm⟩
  obtain ⟨a1, a2, h1, h2, e1, e2, pa⟩ := hpl_ok h8 c
  refine ⟨a1, e1, a2, e2, ?_⟩
  rintro x rfl
  refine ⟨by omega, fun q => ⟨by omega, ?_, ?_⟩, fun q => ?_⟩
  · have := thr_lt (t := t) (w := w) (show 4 * a1 + a2 < 32 by omega)
    omega
  · have z := le_y (w := w) c (by rw [pa]; exact Classical.byContradiction (fun z => q (aE_m1.mpr z)))
    rw [pa] at z
    exact z.symm
  · exact (le_6 c (by rw [pa]; exact aE_m1.mp q)).symm
theorem v_X6_ready : V_X6_ready := by
  intro n t w r L r2 L2 a0 y0 lo dp cl sh fd hn
  exact ⟨hn, fun c => by rw [c]; rfl, fun c => by rw [c]; rfl⟩
theorem v_X5_ready : V_X5_ready := by
  intro n t w hn
  exact ⟨hn, fun c => by rw [c]; rfl, fun c => by rw [c]; rfl⟩
theorem v_X5_degree : V_X5_degree := by
  intro n t w p hn
  have h8 := hn.2.1
  refine ⟨fun c => ?_, fun c => ?_⟩
  · unfold deA; rw [c]; rfl
  · obtain ⟨k, hk, rfl⟩ := hp_ok (by omega) c
    refine ⟨k, rfl, by omega, ?_⟩
    unfold deA
    rw [c, tN_nI (by omega)]
    rfl
theorem v_X6_degree : V_X6_degree := by
  intro n t w r L r2 L2 a0 y0 lo dp cl sh fd p hn
  have h8 := hn.2.1
  refine ⟨hn.1, h8, fun c => ?_, fun c => ?_⟩
  · unfold deA; rw [c]; rfl
  · obtain ⟨k, hk, rfl⟩ := hp_ok (by omega) c
    refine ⟨k, rfl, by omega, ?_⟩
    unfold deA
    rw [c, tN_nI (by omega)]
    rfl
theorem v_X6_all : V_X6_all := by
  intro n t w r L r2 L2 a0 y0 lo dp cl sh fd h
  have := Nat.two_pow_pos n
  refine ⟨by omega, by rw [Nat.shiftLeft_eq]; omega, by rw [Nat.shiftLeft_eq, Nat.one_mul]⟩
def pdg (t : Nat → Nat) (p : Nat) : Nat → Nat
  | 0 => 0
  | k + 1 => pdg t p k + jd t (4 * p + k)
theorem pdg_4 (t : Nat → Nat) (p : Nat) : pdg t p 4 = dg t p := by
  unfold dg
  show 0 + jd t (4 * p + 0) + jd t (4 * p + 1) + jd t (4 * p + 2) + jd t (4 * p + 3) = _
  rw [Nat.zero_add, Nat.add_zero]
theorem v_X6_degreeOf : V_X6_degreeOf := by
  intro n t w r L r2 L2 a0 y0 lo dp cl sh fd p hp8 X4 h4
  have l4 : ∀ (k v : Nat), v + k = 4 → X4 (pdg t p v) v := by
    intro k
    induction k with
    | zero =>
      intro v hv
      obtain rfl : v = 4 := by omega
      exact h4 _ _ ⟨by omega, fun _ => pdg_4 t p, fun q => absurd q (by omega)⟩
    | succ k ih =>
      intro v hv
      have nx := ih (v + 1) (by omega)
      unfold pdg jd at nx
      refine h4 _ _ ⟨by omega, fun q => absurd q (by omega), fun q => ⟨by omega, fun c => ?_, fun c => ?_⟩⟩
      · rintro x rfl
        rw [if_neg (aT_neg.mp c)] at nx
        exact nx
      · rintro x rfl
        rw [if_pos (Classical.byContradiction (fun q => c (aT_neg.mpr q)))] at nx
        exact nx
  exact l4 4 0 (by omega)
theorem v_X6_go : V_X6_go := by
  intro n t w r L r2 L2 a0 y0 lo dp cl sh fd d ha hd h
  rintro x rfl
  refine ⟨by omega, fun c => ⟨by omega, ?_⟩, fun c => ⟨by omega, by omega, ?_⟩⟩
  · have tt : t (4 * a0 + d) < 32 := h.elim (fun q => by rw [c] at q; cases q) id
    rintro y rfl
    refine ⟨_, aT_in tt, by omega, _, aT_in tt, by omega, ?_⟩
    rw [thr_no c tt]
    exact ⟨rfl, rfl⟩
  · rw [thr_bad c]
    exact ⟨rfl, rfl⟩
theorem v_X6_place : V_X6_place := by
  intro n t w r L r2 L2 a0 y0 lo dp cl sh fd p
  exact trivial
/-! rows -/
theorem isW_01 {x : Int32} (h : isW x = true) : x = nI 0 ∨ x = nI 1 := of_decide_eq_true h
theorem isW_in {x : Int32} : decide (nI 0 ≤ x ∧ x ≤ nI 1) = isW x := by
  have h := in_hp (p := x) (n := 2) (by decide) (by decide)
  have e : (2 - 1 : Nat) = 1 := rfl
  rw [e] at h
  rw [h]
  by_cases c : hp x 2 = true
  · obtain ⟨k, hk, rfl⟩ := hp_ok (by decide) c
    rw [c]
    have : k = 0 ∨ k = 1 := by omega
    rcases this with rfl | rfl <;> decide +kernel
  · have c2 : hp x 2 = false := by revert c; cases hp x 2 <;> simp
    rw [c2]
    refine (decide_eq_false ?_).symm
    rintro (rfl | rfl)
    · exact absurd c2 (by decide +kernel)
    · exact absurd c2 (by decide +kernel)
theorem n9 {x : Int32} : decide (nI 0 ≤ x ∧ x ≤ nI 9) = hp x 10 := in_hp (n := 10) (by decide) (by decide)
theorem n9b {x : Int32} (h : ¬ x ≤ nI 9) : nI 10 ≤ x := by
  rw [Int32.le_iff_toInt_le, nI_toInt (by decide)] at h ⊢
  omega
theorem ad_n {L L2 : Nat} {r r2 : Nat → Nat} {wh x : Int32} (h : adO wh x = false) : adA L L2 wh x = (-2) ∧ (∀ z, adL L wh x z = L) ∧ (∀ z, adR r L wh x z = r) ∧ (∀ z, adL L2 wh x z = L2) ∧ ∀ z, adR r2 L2 wh x z = r2 := by
  unfold adA adL adR
  rw [h]
  refine ⟨rfl, fun z => ?_, fun z => ?_, fun z => ?_, fun z => ?_⟩ <;> simp
theorem ad_0 {L L2 : Nat} {r r2 : Nat → Nat} {x : Int32} (h : adO (nI 0) x = true) : adA L L2 (nI 0) x = (if L < 40 then nI (L + 1) else (-4)) ∧ adL L (nI 0) x (nI 0) = (if L < 40 then L + 1 else L) ∧ adR r L (nI 0) x (nI 0) = (if L < 40 then upN r L (tN x) else r) ∧ adL L2 (nI 0) x (nI 1) = L2 ∧ adR r2 L2 (nI 0) x (nI 1) = r2 := by
  have e : decide (nI 0 = nI 1) = false := by decide +kernel
  unfold adA adL adR
  rw [h, e]
  refine ⟨?_, ?_, ?_, ?_, ?_⟩ <;> simp
theorem ad_1 {L L2 : Nat} {r r2 : Nat → Nat} {x : Int32} (h : adO (nI 1) x = true) : adA L L2 (nI 1) x = (if L2 < 40 then nI (L2 + 1) else (-4)) ∧ adL L2 (nI 1) x (nI 1) = (if L2 < 40 then L2 + 1 else L2) ∧ adR r2 L2 (nI 1) x (nI 1) = (if L2 < 40 then upN r2 L2 (tN x) else r2) ∧ adL L (nI 1) x (nI 0) = L ∧ adR r L (nI 1) x (nI 0) = r := by
  have e : decide (nI 1 = nI 0) = false := by decide +kernel
  have e2 : ¬ nI 1 = nI 0 := of_decide_eq_false e
  unfold adA adL adR
  rw [h, e]
  refine ⟨?_, ?_, ?_, ?_, ?_⟩ <;> simp [e2]
theorem v_X5_add : V_X5_add := by
  intro r L r2 L2 wh x hL hL2
  have no : adO wh x = false → (((-2) = adA L L2 wh x) ∧ (∀ zi, zi < 40 → r zi = (adR r L wh x (nI 0)) zi) ∧ (L = adL L wh x (nI 0)) ∧ (∀ zi, zi < 40 → r2 zi = (adR r2 L2 wh x (nI 1)) zi) ∧ (L2 = adL L2 wh x (nI 1))) := by
    intro h
    obtain ⟨z1, z2, z3, z4, z5⟩ := ad_n (L := L) (L2 := L2) (r := r) (r2 := r2) h
    exact ⟨z1.symm, fun _ _ => by rw [z3], (z2 _).symm, fun _ _ => by rw [z5], (z4 _).symm⟩
  refine ⟨fun c => no (by unfold adO; rw [c]; rfl), fun c => ⟨fun c2 => no (by unfold adO; rw [hp_lt0 c2, Bool.and_false]), fun c2 => ⟨fun c3 => ?_, fun c3 => no (by unfold adO; rw [hp_ge (n := 10) (n9b c3), Bool.and_false])⟩⟩⟩
  · have h10 : hp x 10 = true := by
      rw [← n9]
      refine decide_eq_true ⟨?_, c3⟩
      rw [nI_0]
      exact Classical.byContradiction (fun q => c2 (lt_not.mpr q))
    have ho : adO wh x = true := by unfold adO; rw [c, h10]; rfl
    obtain ⟨k, hk, rfl⟩ := hp_ok (by decide) h10
    refine ⟨fun c4 => ⟨rfl, hL, fun c5 => ?_, fun c5 => ?_⟩, fun c4 => ⟨rfl, hL2, fun c5 => ?_, fun c5 => ?_⟩⟩
    · obtain rfl : wh = nI 0 := (isW_01 c).resolve_right c4
      have l : L < 40 := by have := of_decide_eq_false c5; omega
      obtain ⟨z1, z2, z3, z4, z5⟩ := ad_0 (L := L) (L2 := L2) (r := r) (r2 := r2) ho
      rw [if_pos l, tN_nI (by omega)] at *
      exact ⟨k, rfl, l, z1.symm, fun _ _ => by rw [z3], z2.symm, fun _ _ => by rw [z5], z4.symm⟩
    · obtain rfl : wh = nI 0 := (isW_01 c).resolve_right c4
      have l : ¬ L < 40 := by have := of_decide_eq_true c5; omega
      obtain ⟨z1, z2, z3, z4, z5⟩ := ad_0 (L := L) (L2 := L2) (r := r) (r2 := r2) ho
      rw [if_neg l] at z1 z2 z3
      exact ⟨z1.symm, fun _ _ => by rw [z3], z2.symm, fun _ _ => by rw [z5], z4.symm⟩
    · subst c4
      have l : L2 < 40 := by have := of_decide_eq_false c5; omega
      obtain ⟨z1, z2, z3, z4, z5⟩ := ad_1 (L := L) (L2 := L2) (r := r) (r2 := r2) ho
      rw [if_pos l] at z1 z2 z3
      rw [tN_nI (by omega)] at z3
      exact ⟨k, rfl, l, z1.symm, fun _ _ => by rw [z5], z4.symm, fun _ _ => by rw [z3], z2.symm⟩
    · subst c4
      have l : ¬ L2 < 40 := by have := of_decide_eq_true c5; omega
      obtain ⟨z1, z2, z3, z4, z5⟩ := ad_1 (L := L) (L2 := L2) (r := r) (r2 := r2) ho
      rw [if_neg l] at z1 z2 z3
      exact ⟨z1.symm, fun _ _ => by rw [z5], z4.symm, fun _ _ => by rw [z3], z2.symm⟩
theorem cl_n {L L2 : Nat} {wh : Int32} (h : isW wh = false) : clA L L2 wh = (-2) ∧ clL L wh (nI 0) = L ∧ clL L2 wh (nI 1) = L2 := by
  have h2 := of_decide_eq_false h
  unfold clA clL
  have g0 : ¬ wh = nI 0 := fun q => h2 (Or.inl q)
  have g1 : ¬ wh = nI 1 := fun q => h2 (Or.inr q)
  simp [h, g0, g1]
theorem cl_0 (L L2 : Nat) : clA L L2 (nI 0) = nI L ∧ clL L (nI 0) (nI 0) = 0 ∧ clL L2 (nI 0) (nI 1) = L2 := by
  have e2 : ¬ nI 0 = nI 1 := by decide +kernel
  have e : isW (nI 0) = true := by decide +kernel
  unfold clA clL
  simp [e, e2]
theorem cl_1 (L L2 : Nat) : clA L L2 (nI 1) = nI L2 ∧ clL L (nI 1) (nI 0) = L ∧ clL L2 (nI 1) (nI 1) = 0 := by
  have e2 : ¬ nI 1 = nI 0 := by decide +kernel
  have e : isW (nI 1) = true := by decide +kernel
  unfold clA clL
  simp [e, e2]
theorem v_X5_clear : V_X5_clear := by
  intro r L r2 L2 wh
  refine ⟨fun c => ?_, fun c => ⟨fun c4 => ⟨rfl, ?_⟩, fun c4 => ⟨rfl, ?_⟩⟩⟩
  · obtain ⟨z1, z2, z3⟩ := cl_n (L := L) (L2 := L2) c
    exact ⟨z1.symm, z2.symm, z3.symm⟩
  · obtain rfl : wh = nI 0 := (isW_01 c).resolve_right c4
    obtain ⟨z1, z2, z3⟩ := cl_0 L L2
    exact ⟨z1.symm, z2.symm, z3.symm⟩
  · subst c4
    obtain ⟨z1, z2, z3⟩ := cl_1 L L2
    exact ⟨z1.symm, z2.symm, z3.symm⟩
theorem v_X6_clear : V_X6_clear := by
  intro n t w r L r2 L2 a0 y0 lo dp cl sh fd wh
  unfold B_X6_clear_in
  rw [isW_in]
  refine ⟨fun c => ?_, fun c => ?_⟩
  · rcases isW_01 c with rfl | rfl
    · obtain ⟨z1, z2, z3⟩ := cl_0 L L2
      refine ⟨0, rfl, by omega, ?_⟩
      rintro x rfl
      refine ⟨0, rfl, by omega, z1.symm, fun k hk => ?_⟩
      rw [z2, z3]
      have : k = 0 ∨ k = 1 := by omega
      rcases this with rfl | rfl <;> rfl
    · obtain ⟨z1, z2, z3⟩ := cl_1 L L2
      refine ⟨1, rfl, by omega, ?_⟩
      rintro x rfl
      refine ⟨1, rfl, by omega, z1.symm, fun k hk => ?_⟩
      rw [z2, z3]
      have : k = 0 ∨ k = 1 := by omega
      rcases this with rfl | rfl <;> rfl
  · obtain ⟨z1, z2, z3⟩ := cl_n (L := L) (L2 := L2) c
    exact ⟨z1.symm, fun k hk => by rw [z2, z3]⟩
theorem rw_0 (r r2 : Nat → Nat) {L : Nat} (h : L < 40) (v : Nat) : upN (rwF r r2) L v = rwF (upN r L v) r2 := by
  funext i
  unfold upN rwF
  dsimp only
  by_cases a : i = L
  · rw [if_pos a, if_pos (by omega), if_pos a]
  · rw [if_neg a]
    by_cases b : i < 40
    · rw [if_pos b, if_pos b, if_neg a]
    · rw [if_neg b, if_neg b]
theorem rw_1 (r r2 : Nat → Nat) (L v : Nat) : upN (rwF r r2) (40 + L) v = rwF r (upN r2 L v) := by
  funext i
  unfold upN rwF
  dsimp only
  by_cases a : i = 40 + L
  · rw [if_pos a, if_neg (by omega), if_pos (by omega)]
  · rw [if_neg a]
    by_cases b : i < 40
    · rw [if_pos b, if_pos b]
    · rw [if_neg b, if_neg b, if_neg (by omega)]
theorem v_X6_add : V_X6_add := by
  intro n t w r L r2 L2 a0 y0 lo dp cl sh fd wh x hL hL2
  unfold B_X6_add_in
  rw [isW_in, n9]
  have no : adO wh x = false → (((-2) = adA L L2 wh x) ∧ (∀ zi, zi < 2 → (lnF L L2) zi = (lnF (adL L wh x (nI 0)) (adL L2 wh x (nI 1))) zi) ∧ (∀ zi, zi < 80 → (rwF r r2) zi = (rwF (adR r L wh x (nI 0)) (adR r2 L2 wh x (nI 1))) zi)) := by
    intro h
    obtain ⟨z1, z2, z3, z4, z5⟩ := ad_n (L := L) (L2 := L2) (r := r) (r2 := r2) h
    exact ⟨z1.symm, fun _ _ => by rw [z2, z4], fun _ _ => by rw [z3, z5]⟩
  refine ⟨fun c => no (by unfold adO; rw [c]; rfl), fun c => ⟨fun h10 => ?_, fun c2 => no (by unfold adO; rw [c2, Bool.and_false])⟩⟩
  have ho : adO wh x = true := by unfold adO; rw [c, h10]; rfl
  obtain ⟨k, hk, rfl⟩ := hp_ok (by decide) h10
  rcases isW_01 c with rfl | rfl
  · obtain ⟨z1, z2, z3, z4, z5⟩ := ad_0 (L := L) (L2 := L2) (r := r) (r2 := r2) ho
    refine ⟨0, rfl, by omega, show L < _ by omega, fun q => ?_, fun q => ?_⟩
    · have l : L < 40 := by have : ¬ L = 40 := q; omega
      rw [if_pos l] at z1 z2 z3
      rw [tN_nI (by omega)] at z3
      refine ⟨0, rfl, by omega, L, ?_, by omega, 0, rfl, by omega, 0, rfl, by omega, 0, rfl, by omega, z1.symm, fun i hi => ?_, fun i hi => ?_⟩
      · show nI 40 * nI 0 + nI L = nI L
        rw [pk_mul, nI_add]
        congr 1
        omega
      · rw [z2, z4]
        have : i = 0 ∨ i = 1 := by omega
        rcases this with rfl | rfl <;> rfl
      · rw [aN_up, rw_0 r r2 l, z3, z5]
    · have l : ¬ L < 40 := by have : L = 40 := q; omega
      rw [if_neg l] at z1 z2 z3
      exact ⟨z1.symm, fun _ _ => by rw [z2, z4], fun _ _ => by rw [z3, z5]⟩
  · obtain ⟨z1, z2, z3, z4, z5⟩ := ad_1 (L := L) (L2 := L2) (r := r) (r2 := r2) ho
    refine ⟨1, rfl, by omega, show L2 < _ by omega, fun q => ?_, fun q => ?_⟩
    · have l : L2 < 40 := by have : ¬ L2 = 40 := q; omega
      rw [if_pos l] at z1 z2 z3
      rw [tN_nI (by omega)] at z3
      refine ⟨1, rfl, by omega, 40 + L2, ?_, by omega, 1, rfl, by omega, 1, rfl, by omega, 1, rfl, by omega, z1.symm, fun i hi => ?_, fun i hi => ?_⟩
      · show nI 40 * nI 1 + nI L2 = nI (40 + L2)
        rw [pk_mul, nI_add]
      · rw [z2, z4]
        have : i = 0 ∨ i = 1 := by omega
        rcases this with rfl | rfl <;> rfl
      · rw [aN_up, rw_1 r r2, z3, z5]
    · have l : ¬ L2 < 40 := by have : L2 = 40 := q; omega
      rw [if_neg l] at z1 z2 z3
      exact ⟨z1.symm, fun _ _ => by rw [z2, z4], fun _ _ => by rw [z3, z5]⟩
theorem to_0 {n : Nat} {t : Nat → Nat} {w : Nat → Bool} {L L2 : Nat} : toA n t w L L2 (nI 0) = nI n := rfl
theorem toA_eq {n : Nat} {t : Nat → Nat} {w : Nat → Bool} {L L2 : Nat} {x : Int32} : (x = nI 0 → toA n t w L L2 x = nI n) ∧ (x = nI 1 → toA n t w L L2 x = nI (prs t)) ∧ (x = nI 2 → toA n t w L L2 x = nI L) ∧ (x = nI 3 → toA n t w L L2 x = nI L2) ∧ (x = nI 4 → toA n t w L L2 x = nI (cnt w 32)) ∧ (¬ x = nI 0 → ¬ x = nI 1 → ¬ x = nI 2 → ¬ x = nI 3 → ¬ x = nI 4 → toA n t w L L2 x = (-2)) := by
  have d : ∀ a, a < 5 → ∀ b, b < 5 → ¬ a = b → ¬ nI a = nI b := by decide +kernel
  unfold toA
  refine ⟨fun h => ?_, fun h => ?_, fun h => ?_, fun h => ?_, fun h => ?_, fun h0 h1 h2 h3 h4 => ?_⟩
  · rw [if_pos h]
  · rw [h, if_neg (d 1 (by decide) 0 (by decide) (by decide)), if_pos rfl]
  · rw [h, if_neg (d 2 (by decide) 0 (by decide) (by decide)), if_neg (d 2 (by decide) 1 (by decide) (by decide)), if_pos rfl]
  · rw [h, if_neg (d 3 (by decide) 0 (by decide) (by decide)), if_neg (d 3 (by decide) 1 (by decide) (by decide)), if_neg (d 3 (by decide) 2 (by decide) (by decide)), if_pos rfl]
  · rw [h, if_neg (d 4 (by decide) 0 (by decide) (by decide)), if_neg (d 4 (by decide) 1 (by decide) (by decide)), if_neg (d 4 (by decide) 2 (by decide) (by decide)), if_neg (d 4 (by decide) 3 (by decide) (by decide)), if_pos rfl]
  · rw [if_neg h0, if_neg h1, if_neg h2, if_neg h3, if_neg h4]
theorem v_X5_told : V_X5_told := by
  intro n t w r L r2 L2 x
  obtain ⟨a0, a1, a2, a3, a4, a5⟩ := toA_eq (n := n) (t := t) (w := w) (L := L) (L2 := L2) (x := x)
  exact ⟨fun c => (a0 c).symm, fun c => (a1 c).symm, fun c => (a2 c).symm, fun c => (a3 c).symm, fun c => (a4 c).symm, fun c0 c1 c2 c3 c4 => (a5 c0 c1 c2 c3 c4).symm⟩
theorem v_X6_told : V_X6_told := by
  intro n t w r L r2 L2 a0 y0 lo dp cl sh fd x hn X59 h59
  obtain ⟨a0, a1, a2, a3, a4, a5⟩ := toA_eq (n := n) (t := t) (w := w) (L := L) (L2 := L2) (x := x)
  refine ⟨fun c => (a0 c).symm, fun c => ⟨hn, (a1 c).symm⟩, fun c => ⟨0, by rw [c]; rfl, by omega, (a2 c).symm⟩, fun c => ⟨1, by rw [c]; rfl, by omega, (a3 c).symm⟩, fun c => ?_, fun c0 c1 c2 c3 c4 => (a5 c0 c1 c2 c3 c4).symm⟩
  have l4 : ∀ (k v : Nat), v + k = 32 → X59 (cnt w v) v := by
    intro k
    induction k with
    | zero =>
      intro v hv
      obtain rfl : v = 32 := by omega
      exact h59 _ _ ⟨by omega, fun _ => (a4 c).symm, fun q => absurd q (by omega)⟩
    | succ k ih =>
      intro v hv
      have nx := ih (v + 1) (by omega)
      unfold cnt at nx
      refine h59 _ _ ⟨by omega, fun q => absurd q (by omega), fun q => ⟨by omega, fun c => ?_, fun c => ?_⟩⟩
      · rintro x rfl
        rw [c] at nx
        exact nx
      · rintro x rfl
        rw [c] at nx
        exact nx
  exact l4 32 0 (by omega)
