/-! ===== by hand: the rings of numbers that walk every ring of posts ===== -/
theorem p24 {n : Nat} (h : n ≤ 4) : 2 ^ n ≤ 16 := Nat.le_trans (Nat.pow_le_pow_right (by decide) h) (by decide)
theorem p212 {n : Nat} (h : n ≤ 12) : 2 ^ n ≤ 4096 := Nat.le_trans (Nat.pow_le_pow_right (by decide) h) (by decide)
theorem s1l (n : Nat) : 1 <<< n = 2 ^ n := by rw [Nat.shiftLeft_eq, Nat.one_mul]
theorem shr_le (a k : Nat) : a >>> k ≤ a := by rw [Nat.shiftRight_eq_div_pow]; exact Nat.div_le_self _ _
theorem rgo_lt {n ring bits len st : Nat} (h1 : 1 ≤ n) (hs : st < n) : ∀ i, rgo n ring bits len st i < n
  | 0 => hs
  | i + 1 => by
    show (if (bits >>> (len - 1 - i)) &&& 1 = (ring >>> rgo n ring bits len st i) &&& 1 then (rgo n ring bits len st i + 1) % n else (rgo n ring bits len st i + n - 1) % n) < n
    split <;> exact Nat.mod_lt _ h1
theorem rgo_t {n ring bits len st i : Nat} (h : (bits >>> (len - 1 - i)) &&& 1 = (ring >>> rgo n ring bits len st i) &&& 1) : rgo n ring bits len st (i + 1) = (rgo n ring bits len st i + 1) % n := by
  show (if (bits >>> (len - 1 - i)) &&& 1 = (ring >>> rgo n ring bits len st i) &&& 1 then (rgo n ring bits len st i + 1) % n else (rgo n ring bits len st i + n - 1) % n) = _
  rw [if_pos h]
theorem rgo_f {n ring bits len st i : Nat} (h : ¬ (bits >>> (len - 1 - i)) &&& 1 = (ring >>> rgo n ring bits len st i) &&& 1) : rgo n ring bits len st (i + 1) = (rgo n ring bits len st i + n - 1) % n := by
  show (if (bits >>> (len - 1 - i)) &&& 1 = (ring >>> rgo n ring bits len st i) &&& 1 then (rgo n ring bits len st i + 1) % n else (rgo n ring bits len st i + n - 1) % n) = _
  rw [if_neg h]
theorem v_X3_numberOf : V_X3_numberOf := by
  intro bits len i hi hl hb
  exact ⟨by omega, by omega, by omega, hb, rfl⟩
theorem v_X3_walksAll : V_X3_walksAll := by
  intro n ring st bits len h1 h4 hr hs hl hb X11 h11
  have hp := p24 h4
  have key : ∀ (z i : Nat), i + z = len → X11 (rgo n ring bits len st i) (sen (rgo n ring bits len st) i) i := by
    intro z
    induction z with
    | zero =>
      intro i hi
      obtain rfl : i = len := by omega
      have sl := sen_lt (rgo_lt (ring := ring) (bits := bits) (len := i) h1 hs) i
      refine h11 _ _ _ ⟨by omega, by omega, fun _ => ⟨by omega, ?_⟩, fun c => absurd c (by omega)⟩
      rw [s1l]
      have pp := Nat.two_pow_pos n
      exact ⟨by omega, by omega, by omega, fun c => (decide_eq_false c).symm, fun c => (decide_eq_true c).symm⟩
    | succ z ih =>
      intro i hi
      have nx := ih (i + 1) (by omega)
      have lt := rgo_lt (ring := ring) (bits := bits) (len := len) h1 hs i
      have a1 := and1 (bits >>> (len - 1 - i))
      have a2 := and1 (ring >>> rgo n ring bits len st i)
      have se : sen (rgo n ring bits len st) (i + 1) = sen (rgo n ring bits len st) i ||| (1 <<< rgo n ring bits len st (i + 1)) := rfl
      rw [se] at nx
      refine h11 _ _ _ ⟨by omega, by omega, fun c => absurd c (by omega), fun _ => ⟨by omega, hl, hb, by omega, by omega, by omega, by omega, fun c => ⟨fun _ => ?_, fun q => absurd rfl q⟩, fun c => ⟨fun q => absurd q (by decide), fun _ => ?_⟩⟩⟩
      · rw [rgo_f c] at nx
        generalize rgo n ring bits len st i = x at *
        rintro y rfl
        by_cases c0 : x = 0
        · rw [c0, Nat.zero_add, Nat.mod_eq_of_lt (show n - 1 < n by omega)] at nx
          rw [c0]
          refine ⟨fun _ => ⟨fun q => absurd q (by decide), fun _ => ⟨h1, ?_⟩⟩, fun q => ?_⟩
          · rintro u rfl
            refine ⟨by omega, ?_⟩
            rintro u2 rfl
            exact nx
          · exfalso
            have := nI_pos' (show n < 2147483648 by omega)
            rw [← q] at this
            exact absurd this (by decide)
        · obtain ⟨u, rfl⟩ : ∃ u, x = u + 1 := ⟨x - 1, by omega⟩
          rw [show (u + 1 + n - 1) = u + n by omega, Nat.add_mod_right, Nat.mod_eq_of_lt (show u < n by omega)] at nx
          rw [pk_m1]
          refine ⟨fun _ => ⟨fun _ => ⟨u, rfl, by omega, ?_⟩, fun q => absurd (nI_pos' (by omega)) q⟩, fun q => absurd ((nI_eq (by omega) (by omega)).mp q) (by omega)⟩
          rintro u2 rfl
          exact ⟨u, rfl, nx⟩
      · rw [rgo_t c] at nx
        generalize rgo n ring bits len st i = x at *
        rintro y rfl
        refine ⟨by omega, by omega, fun c2 => ⟨by omega, by omega, ?_⟩, fun c2 => ?_⟩
        · rw [Nat.mod_eq_of_lt (show x + 1 < n by omega)] at nx
          rintro u rfl
          exact nx
        · rw [c2, Nat.mod_self] at nx
          rintro u rfl
          exact nx
  refine ⟨by omega, ?_⟩
  rintro x rfl
  exact key len 0 (by omega)
theorem v_X3_walksAllRings : V_X3_walksAllRings := by
  intro n bits len h1 h4 hl hb X2 X12 h2 h12
  have hp := p24 h4
  have key : ∀ (z v : Nat), v + z = 2 ^ n → (∀ ring, ring < v → ∀ st, st < n → rwa n ring st bits len = true) → X2 v := by
    intro z
    induction z with
    | zero =>
      intro v hv hall
      refine h2 _ ⟨by omega, by omega, ?_⟩
      rw [s1l]
      exact ⟨by omega, fun _ => (decide_eq_true (fun ring hr => hall ring (by omega))).symm, fun c => absurd c (by omega)⟩
    | succ z ih =>
      intro v hv hall
      refine h2 _ ⟨by omega, by omega, ?_⟩
      rw [s1l]
      refine ⟨by omega, fun c => absurd c (by omega), fun _ => ?_⟩
      have inn : ∀ (z2 u : Nat), u + z2 = n → (∀ st, st < u → rwa n v st bits len = true) → X12 v u := by
        intro z2
        induction z2 with
        | zero =>
          intro u hu hal
          refine h12 _ _ ⟨by omega, by omega, fun _ => ih (v + 1) (by omega) (fun ring hr st hs => ?_), fun c => absurd c (by omega)⟩
          by_cases e : ring = v
          · rw [e]; exact hal st (by omega)
          · exact hall ring (by omega) st hs
        | succ z2 ih2 =>
          intro u hu hal
          refine h12 _ _ ⟨by omega, by omega, fun c => absurd c (by omega), fun _ => ⟨h1, h4, by omega, by omega, hl, hb, fun c => ih2 (u + 1) (by omega) (fun st hs => ?_), fun c => ?_⟩⟩
          · by_cases e : st = u
            · rw [e]; exact c
            · exact hal st (by omega)
          · refine (decide_eq_false (fun q => ?_)).symm
            have := q v (by omega) u (by omega)
            rw [c] at this
            cases this
      exact inn n 0 (by omega) (fun st hs => absurd hs (by omega))
  exact key _ 0 (Nat.zero_add _) (fun ring hr => absurd hr (by omega))
theorem v_X3_firstOfLength : V_X3_firstOfLength := by
  intro n len h1 h4 hl X2 h2
  have hp := p212 hl
  have key : ∀ (z v : Nat), v + z = 2 ^ len → srch (fun bits => rwr n bits len) z v = sb n len → X2 v := by
    intro z
    induction z with
    | zero =>
      intro v hv e
      refine h2 _ ⟨by omega, by omega, ?_⟩
      rw [s1l]
      exact ⟨by omega, fun _ => e, fun c => absurd c (by omega)⟩
    | succ z ih =>
      intro v hv e
      refine h2 _ ⟨by omega, by omega, ?_⟩
      rw [s1l]
      refine ⟨by omega, fun c => absurd c (by omega), fun _ => ⟨h1, h4, hl, by omega, fun c => ih (v + 1) (by omega) ?_, fun c => ?_⟩⟩
      · rw [← e]; exact (srch_f (P := fun bits => rwr n bits len) c).symm
      · rw [← e]; exact (srch_t (P := fun bits => rwr n bits len) c).symm
  exact key _ 0 (Nat.zero_add _) rfl
theorem sb_or (n : Nat) {len : Nat} (h : len ≤ 12) : sb n len = (-6) ∨ ∃ u, u < 4096 ∧ sb n len = nI u := by
  have hp := p212 h
  rcases srch_or (fun bits => rwr n bits len) (2 ^ len) 0 (by omega) with e | ⟨j, _, j2, e, _⟩
  · exact Or.inl e
  · exact Or.inr ⟨j, by omega, e⟩
theorem rl_or (n : Nat) : rl n = (-6) ∨ ∃ v u, 1 ≤ v ∧ v ≤ 12 ∧ rl n = nI v ∧ sb n v = nI u ∧ u < 4096 ∧ rb n = nI u := by
  rcases srch_or (fun m => decide (¬ sb n m = (-6))) 12 1 (by omega) with e | ⟨j, j1, j2, e, j4⟩
  · exact Or.inl e
  · have j5 := of_decide_eq_true j4
    rcases sb_or n (show j ≤ 12 by omega) with q | ⟨u, u1, u2⟩
    · exact absurd q j5
    · refine Or.inr ⟨j, u, j1, by omega, e, u2, u1, ?_⟩
      have e2 : rl n = nI j := e
      unfold rb
      rw [e2, nI_clamp (by omega)]
      exact u2
theorem rl_hit {n v : Nat} (h1 : 1 ≤ v) (h2 : v ≤ 12) (hno : ∀ m, 1 ≤ m → m < v → sb n m = (-6)) {u : Nat} (hu : u < 4096) (e : sb n v = nI u) : rl n = nI v ∧ rb n = nI u := by
  have e2 : rl n = nI v := srch_hit 12 1 v h1 (by omega) (fun j j1 j2 => decide_eq_false (fun q => q (hno j j1 j2))) (decide_eq_true (by rw [e]; exact nI_m6 (by omega)))
  refine ⟨e2, ?_⟩
  unfold rb
  rw [e2, nI_clamp (by omega)]
  exact e
theorem rl_none {n : Nat} (hno : ∀ m, 1 ≤ m → m ≤ 12 → sb n m = (-6)) : rl n = (-6) := srch_all 12 1 (fun j j1 j2 => decide_eq_false (fun q => q (hno j j1 (by omega))))
theorem rl_0 (n : Nat) : ¬ rl n = 0 := by
  rcases rl_or n with e | ⟨v, u, v1, v2, e, _⟩
  · rw [e]; decide
  · rw [e]; exact nI_ne0 v1 (by omega)
theorem v_X3_find : V_X3_find := by
  intro le fo s h2 h4 X34 h34
  have fin : ∀ (v x : Nat) (c_le c_fo : Nat → Int32), v ≤ 13 → (∀ i, ¬ i = s → c_le i = le i) → (∀ i, ¬ i = s → c_fo i = fo i) → c_le s = rl s → (¬ rl s = (-6) → c_fo s = rb s) → (∃ fo9 : Nat → Int32, (¬ rl s = (-6) → fo9 s = rb s) ∧ (∀ i, ¬ i = s → fo9 i = fo i) ∧ (∀ zi, zi < 5 → c_le zi = (upd le s (rl s)) zi) ∧ (∀ zi, zi < 5 → c_fo zi = fo9 zi)) := by
    intro v x c_le c_fo _ g1 g2 g3 g4
    refine ⟨c_fo, g4, g2, fun zi _ => ?_, fun _ _ => rfl⟩
    by_cases e : zi = s
    · rw [e, upd_eq]; exact g3
    · rw [upd_ne e]; exact g1 zi e
  have key : ∀ (z v : Nat) (c_le c_fo : Nat → Int32), v + z = 13 → 1 ≤ v → (∀ i, ¬ i = s → c_le i = le i) → (∀ i, ¬ i = s → c_fo i = fo i) → c_le s = (-6) → (∀ m, 1 ≤ m → m < v → sb s m = (-6)) → X34 v c_le c_fo := by
    intro z
    induction z with
    | zero =>
      intro v c_le c_fo hv h1 g1 g2 g3 hno
      have e : rl s = (-6) := rl_none (fun m m1 m2 => hno m m1 (by omega))
      exact h34 _ _ _ ⟨by omega, fun _ => fin v 0 c_le c_fo (by omega) g1 g2 (by rw [g3, e]) (fun q => absurd e q), fun c => absurd c (by omega)⟩
    | succ z ih =>
      intro v c_le c_fo hv h1 g1 g2 g3 hno
      refine h34 _ _ _ ⟨by omega, fun c => absurd c (by omega), fun _ => ⟨by omega, fun c => absurd g3 c, fun _ => ⟨by omega, h4, by omega, ?_⟩⟩⟩
      rintro x rfl
      refine ⟨fun c => ih (v + 1) c_le c_fo (by omega) (by omega) g1 g2 g3 (fun m m1 m2 => ?_), fun c => ⟨by omega, by omega, ?_⟩⟩
      · by_cases e : m = v
        · rw [e]; exact c
        · exact hno m m1 (by omega)
      · rcases sb_or s (show v ≤ 12 by omega) with q | ⟨u, u1, u2⟩
        · exact absurd q c
        · obtain ⟨e1, e2⟩ := rl_hit h1 (by omega) hno u1 u2
          have f1 : ∀ i, ¬ i = s → upd c_le s (nI v) i = le i := fun i hi => by rw [upd_ne hi]; exact g1 i hi
          have f2 : ∀ i, ¬ i = s → upd c_fo s (sb s v) i = fo i := fun i hi => by rw [upd_ne hi]; exact g2 i hi
          have f3 : upd c_le s (nI v) s = rl s := by rw [upd_eq, e1]
          have f4 : ¬ rl s = (-6) → upd c_fo s (sb s v) s = rb s := fun _ => by rw [upd_eq, e2, u2]
          refine h34 _ _ _ ⟨by omega, fun _ => fin v 0 _ _ (by omega) f1 f2 f3 f4, fun _ => ⟨by omega, fun _ => fin v 0 _ _ (by omega) f1 f2 f3 f4, fun q => ?_⟩⟩
          rw [upd_eq] at q
          exact absurd q (nI_m6 (by omega))
  refine ⟨by omega, fun c => absurd c (by omega), fun _ => ⟨by omega, fun c => absurd c (by omega), fun _ => ⟨by omega, fun _ => ⟨by omega, ?_⟩, fun c => absurd c (by omega)⟩⟩⟩
  exact key 12 1 _ fo (by omega) (by omega) (fun i hi => upd_ne hi) (fun i _ => rfl) upd_eq (fun m m1 m2 => absurd m1 (by omega))
theorem v_X3_lengthFor : V_X3_lengthFor := by
  intro le fo s h2 h4 hg
  refine ⟨by omega, fun c => absurd c (by omega), fun _ => ⟨by omega, fun _ => ⟨by omega, fun c => ⟨by omega, le, fo, hg, ?_, ?_, fun _ _ => rfl, fun _ _ => rfl⟩, fun c => ⟨h2, h4, fun f9 g1 g2 => ⟨by omega, upd le s (rl s), f9, fun s' q2 q4 => ?_, upd_eq, upd_eq, fun _ _ => rfl, fun _ _ => rfl⟩⟩⟩, fun c => absurd c (by omega)⟩⟩
  · rcases hg s h2 h4 with e | e
    · exact absurd e c
    · exact e.1
  · rcases hg s h2 h4 with e | e
    · exact absurd e c
    · exact e.1
  · by_cases e : s' = s
    · rw [e]
      exact Or.inr ⟨upd_eq, g1⟩
    · rw [upd_ne e, g2 s' e]
      exact hg s' q2 q4
theorem rn_no {s : Nat} {i : Int32} (h : hp i (rl s).toNatClampNeg = false) : rn s i = (-6) := by unfold rn; rw [h]; rfl
theorem rn_yes {s : Nat} {i : Int32} (h : hp i (rl s).toNatClampNeg = true) : rn s i = nI (((rb s).toNatClampNeg >>> ((rl s).toNatClampNeg - 1 - i.toNatClampNeg)) &&& 1) := by unfold rn; rw [h]; rfl
theorem hp_0 (i : Int32) : hp i 0 = false := by
  by_cases c : i < 0
  · exact hp_lt0 c
  · exact hp_ge (by rw [lt_not] at c; exact Classical.not_not.mp c)
theorem cl_m6 : (-6 : Int32).toNatClampNeg = 0 := by decide
theorem v_X3_numberFor : V_X3_numberFor := by
  intro le fo s i h2 h4 hg hl
  refine ⟨by omega, fun c => absurd c (by omega), fun _ => ⟨by omega, fun c => absurd c (by omega), fun _ => ⟨by omega, fun _ => ⟨by omega, ?_⟩, fun c => absurd c (by omega)⟩⟩⟩
  rintro x rfl
  rcases rl_or s with e | ⟨v, u, v1, v2, e, es, hu, eb⟩
  · refine ⟨fun c => (rn_no (hp_lt0 c)).symm, fun c => ⟨fun _ => (rn_no (by rw [e, cl_m6]; exact hp_0 i)).symm, fun c2 => ?_⟩⟩
    exfalso
    rw [hl, e] at c2
    rw [Int32.lt_iff_toInt_lt] at c
    rw [Int32.le_iff_toInt_le] at c2
    have z0 : (0 : Int32).toInt = 0 := by decide
    have z6 : (-6 : Int32).toInt = -6 := by decide
    omega
  · rw [hl, e]
    refine ⟨fun c => (rn_no (hp_lt0 c)).symm, fun c => ⟨fun c2 => (rn_no (by rw [e, nI_clamp (by omega)]; exact hp_ge c2)).symm, fun c2 => ?_⟩⟩
    have hh := hp_in c c2
    have ans := rn_yes (s := s) (i := i) (by rw [e, nI_clamp (by omega)]; exact hh)
    obtain ⟨i', hi', rfl⟩ := hp_ok (by omega) hh
    have ef : fo s = nI u := by
      rcases hg s h2 h4 with q | q
      · rw [hl] at q; exact absurd q (rl_0 s)
      · rw [q.2 (by rw [e]; exact nI_m6 (by omega)), eb]
    rw [e, eb, nI_clamp (by omega), nI_clamp (by omega), nI_clamp (by omega)] at ans
    exact ⟨by omega, u, ef, v, rfl, i', rfl, hi', v2, by omega, ans.symm⟩
theorem ri_no {m i : Int32} (h : decide (nI 2 ≤ m ∧ m ≤ nI 4) = false) : riA m i = (-2) := by unfold riA; rw [h]; rfl
theorem ri_yes {m i : Int32} (h : decide (nI 2 ≤ m ∧ m ≤ nI 4) = true) : riA m i = if i = (-1) then rl (tN m) else rn (tN m) i := by unfold riA; rw [h]; rfl
theorem ri_k {m : Int32} (h : decide (nI 2 ≤ m ∧ m ≤ nI 4) = true) : ∃ k, 2 ≤ k ∧ k ≤ 4 ∧ m = nI k := by
  have h := of_decide_eq_true h
  have h0 : ¬ m < 0 := by
    intro q
    have a := h.1
    rw [Int32.le_iff_toInt_le] at a
    rw [Int32.lt_iff_toInt_lt] at q
    have z0 : (0 : Int32).toInt = 0 := by decide
    have z2 : (nI 2).toInt = 2 := by decide
    omega
  obtain ⟨k, hk, rfl⟩ := hp_ok (by omega) (hpS (L := 4) (by omega) h0 h.2)
  exact ⟨k, (nI_leI (by omega) (by omega)).mp h.1, by omega, rfl⟩
theorem v_X5_ring : V_X5_ring := by
  intro le fo m i hg
  refine ⟨fun c => ⟨le, fo, hg, (ri_no (decide_eq_false (fun q => (lt_not.mp c) q.1))).symm, fun _ _ => rfl, fun _ _ => rfl⟩, fun c => ⟨fun c2 => ?_, fun c2 => ⟨le, fo, hg, (ri_no (decide_eq_false (fun q => c2 q.2))).symm, fun _ _ => rfl, fun _ _ => rfl⟩⟩⟩
  have hd : decide (nI 2 ≤ m ∧ m ≤ nI 4) = true := decide_eq_true ⟨Classical.byContradiction (fun q => c (lt_not.mpr q)), c2⟩
  have ans := ri_yes (i := i) hd
  obtain ⟨k, k2, k4, rfl⟩ := ri_k hd
  rw [tN_nI (by omega)] at ans
  refine ⟨k, rfl, k2, k4, hg, fun l9 f9 g9 e9 => ?_⟩
  rintro x rfl
  refine ⟨fun c3 => ⟨k, rfl, k2, k4, g9, e9, l9, f9, g9, ?_, fun _ _ => rfl, fun _ _ => rfl⟩, fun c3 => ⟨l9, f9, g9, ?_, fun _ _ => rfl, fun _ _ => rfl⟩⟩
  · rw [ans, if_neg c3]
  · rw [ans, if_pos c3]
/-! the reference -/
theorem v_X6_walksRing : V_X6_walksRing := by
  intro n ring st len bits h1 h4 hr hs hl1 hl hb X14 h14
  have hp := p24 h4
  have key : ∀ (z i : Nat), i + z = len → X14 (rgo n ring bits len st i) (sen (rgo n ring bits len st) i) (nI (len - i) + (-1)) := by
    intro z
    induction z with
    | zero =>
      intro i hi
      obtain rfl : i = len := by omega
      have sl := sen_lt (rgo_lt (ring := ring) (bits := bits) (len := i) h1 hs) i
      rw [Nat.sub_self]
      refine h14 _ _ _ ⟨fun _ => ⟨by omega, ?_⟩, fun c => absurd (by decide) c⟩
      rw [s1l]
      have pp := Nat.two_pow_pos n
      exact ⟨by omega, by omega, by omega, fun c => (decide_eq_false c).symm, fun c => (decide_eq_true c).symm⟩
    | succ z ih =>
      intro i hi
      have nx := ih (i + 1) (by omega)
      have lt := rgo_lt (ring := ring) (bits := bits) (len := len) h1 hs i
      have a1 := and1 (bits >>> (len - 1 - i))
      have a2 := and1 (ring >>> rgo n ring bits len st i)
      have se : sen (rgo n ring bits len st) (i + 1) = sen (rgo n ring bits len st) i ||| (1 <<< rgo n ring bits len st (i + 1)) := rfl
      rw [se] at nx
      have e0 : nI (len - i) + (-1) = nI (len - 1 - i) := by
        rw [show len - i = len - 1 - i + 1 by omega, pk_m1]
      have e1 : len - (i + 1) = len - 1 - i := by omega
      rw [e1] at nx
      rw [e0]
      refine h14 _ _ _ ⟨fun c => absurd c (nI_pos (by omega)), fun _ => ⟨len - 1 - i, rfl, by omega, hb, by omega, by omega, by omega, by omega, fun c => ⟨fun _ => ⟨by omega, by omega, h1, by omega, ?_⟩, fun q => absurd rfl q⟩, fun c => ⟨fun q => absurd q (by decide), fun _ => ⟨by omega, h1, by omega, ?_⟩⟩⟩⟩
      · rw [rgo_f c] at nx
        have ml := Nat.mod_lt (rgo n ring bits len st i + n - 1) h1
        rintro x rfl
        refine ⟨by omega, ?_⟩
        rintro y rfl
        exact nx
      · rw [rgo_t c] at nx
        have ml := Nat.mod_lt (rgo n ring bits len st i + 1) h1
        rintro x rfl
        refine ⟨by omega, ?_⟩
        rintro y rfl
        exact nx
  refine ⟨by omega, ?_⟩
  rintro x rfl
  refine ⟨hl1, ?_⟩
  rintro y rfl
  have k0 := key len 0 (by omega)
  rw [Nat.sub_zero, show nI len + (-1) = nI (len - 1) by rw [show nI len = nI (len - 1 + 1) by rw [show len - 1 + 1 = len by omega], pk_m1]] at k0
  exact k0
theorem v_X6_walksAllRings : V_X6_walksAllRings := by
  intro n len bits h1 h4 hl1 hl hb X5 X20 h5 h20
  have hp := p24 h4
  have keyF : rwr n bits len = false → ∀ v, v ≤ 20 → X5 false v := by
    intro hf v hv
    refine h5 _ _ ⟨by omega, by omega, ?_⟩
    rw [s1l]
    exact ⟨by omega, fun _ => hf.symm, fun _ => ⟨fun _ => hf.symm, fun q => absurd q (by decide)⟩⟩
  have key : ∀ (z v : Nat), v + z = 2 ^ n → (∀ ring, ring < v → ∀ st, st < n → rwa n ring st bits len = true) → X5 true v := by
    intro z
    induction z with
    | zero =>
      intro v hv hall
      refine h5 _ _ ⟨by omega, by omega, ?_⟩
      rw [s1l]
      exact ⟨by omega, fun _ => (decide_eq_true (fun ring hr => hall ring (by omega))).symm, fun c => absurd c (by omega)⟩
    | succ z ih =>
      intro v hv hall
      refine h5 _ _ ⟨by omega, by omega, ?_⟩
      rw [s1l]
      refine ⟨by omega, fun c => absurd c (by omega), fun _ => ⟨fun q => absurd q (by decide), fun _ => ?_⟩⟩
      have inn : ∀ (z2 u : Nat), u + z2 = n → (∀ st, st < u → rwa n v st bits len = true) → X20 true v u := by
        intro z2
        induction z2 with
        | zero =>
          intro u hu hal
          refine h20 _ _ _ ⟨by omega, by omega, fun _ => ih (v + 1) (by omega) (fun ring hr st hs => ?_), fun c => absurd c (by omega)⟩
          by_cases e : ring = v
          · rw [e]; exact hal st (by omega)
          · exact hall ring (by omega) st hs
        | succ z2 ih2 =>
          intro u hu hal
          refine h20 _ _ _ ⟨by omega, by omega, fun c => absurd c (by omega), fun _ => ⟨fun q => absurd q (by decide), fun _ => ⟨h1, h4, by omega, by omega, hl1, hl, hb, ?_⟩⟩⟩
          rintro x rfl
          cases c : rwa n v u bits len
          · have hf : rwr n bits len = false := decide_eq_false (fun q => by
              have := q v (by omega) u (by omega)
              rw [c] at this
              cases this)
            have nx := keyF hf (v + 1) (by omega)
            exact h20 _ _ _ ⟨by omega, by omega, fun _ => nx, fun _ => ⟨fun _ => nx, fun q => absurd q (by decide)⟩⟩
          · refine ih2 (u + 1) (by omega) (fun st hs => ?_)
            by_cases e : st = u
            · rw [e]; exact c
            · exact hal st (by omega)
      exact inn n 0 (by omega) (fun st hs => absurd hs (by omega))
  exact key _ 0 (Nat.zero_add _) (fun ring hr => absurd hr (by omega))
theorem mg_k {sh fd : Nat → Nat} (hg : mgOK sh fd) {s : Nat} (h2 : 2 ≤ s) (h4 : s ≤ 4) : sh s ≤ 12 := by
  rcases hg s h2 h4 with e | e
  · omega
  · exact e.2.1
theorem v_X6_findRing : V_X6_findRing := by
  intro n t w r L r2 L2 a0 y0 lo dp cl sh fd s h2 h4 hg X2 X19 hx2 hx19
  have fin : ∀ (v : Nat) (c_sh c_fd : Nat → Nat), v ≤ 100 → mgOK c_sh c_fd → ¬ c_sh s = 0 → X2 v c_sh c_fd := by
    intro v c_sh c_fd hv g hn0
    have := mg_k g h2 h4
    have out : (∃ sh9 : Nat → Nat, ∃ fd9 : Nat → Nat, (mgOK sh9 fd9) ∧ (sh9 s = 0 → rl s = (-6)) ∧ (∀ zi, zi < 5 → c_sh zi = sh9 zi) ∧ (∀ zi, zi < 5 → c_fd zi = fd9 zi)) := ⟨c_sh, c_fd, g, fun q => absurd q hn0, fun _ _ => rfl, fun _ _ => rfl⟩
    exact hx2 _ _ _ ⟨by omega, fun _ => out, fun _ => ⟨by omega, by omega, fun _ => out, fun q => absurd q hn0⟩⟩
  by_cases c0 : sh s = 0
  · have key : ∀ (z v : Nat), v + z = 13 → 1 ≤ v → (∀ m, 1 ≤ m → m < v → sb s m = (-6)) → X2 v sh fd := by
      intro z
      induction z with
      | zero =>
        intro v hv v1 hno
        exact hx2 _ _ _ ⟨by omega, fun _ => ⟨sh, fd, hg, fun _ => rl_none (fun m m1 m2 => hno m m1 (by omega)), fun _ _ => rfl, fun _ _ => rfl⟩, fun c => absurd c (by omega)⟩
      | succ z ih =>
        intro v hv v1 hno
        have pv := p212 (show v ≤ 12 by omega)
        refine hx2 _ _ _ ⟨by omega, fun c => absurd c (by omega), fun _ => ⟨by omega, by omega, fun c => absurd c0 c, fun _ => ?_⟩⟩
        have inn : ∀ (z2 u : Nat), u + z2 = 2 ^ v → srch (fun bits => rwr s bits v) z2 u = sb s v → X19 v u sh fd := by
          intro z2
          induction z2 with
          | zero =>
            intro u hu e
            refine hx19 _ _ _ _ ⟨by omega, by omega, ?_⟩
            rw [s1l]
            refine ⟨by omega, fun _ => ih (v + 1) (by omega) (by omega) (fun m m1 m2 => ?_), fun c => absurd c (by omega)⟩
            by_cases em : m = v
            · rw [em, ← e]; rfl
            · exact hno m m1 (by omega)
          | succ z2 ih2 =>
            intro u hu e
            refine hx19 _ _ _ _ ⟨by omega, by omega, ?_⟩
            rw [s1l]
            refine ⟨by omega, fun c => absurd c (by omega), fun _ => ⟨by omega, by omega, fun c => absurd c0 c, fun _ => ⟨by omega, h4, v1, by omega, by omega, fun c => ih2 (u + 1) (by omega) ?_, fun c => ⟨by omega, by omega, ?_⟩⟩⟩⟩
            · rw [← e]; exact (srch_f (P := fun bits => rwr s bits v) c).symm
            · have es : sb s v = nI u := by rw [← e]; exact srch_t (P := fun bits => rwr s bits v) c
              obtain ⟨e1, e2⟩ := rl_hit v1 (by omega) hno (show u < 4096 by omega) es
              have g2 : mgOK (upN sh s v) (upN fd s u) := by
                intro s' q2 q4
                by_cases ee : s' = s
                · rw [ee, upN_eq, upN_eq]
                  exact Or.inr ⟨v1, by omega, e1.symm, e2.symm, by omega⟩
                · rw [upN_ne _ ee, upN_ne _ ee]
                  exact hg s' q2 q4
              have n0 : ¬ upN sh s v s = 0 := by rw [upN_eq]; omega
              have nx := fin (v + 1) _ _ (by omega) g2 n0
              have k12 := mg_k g2 h2 h4
              refine hx19 _ _ _ _ ⟨by omega, by omega, ?_⟩
              rw [s1l]
              exact ⟨by omega, fun _ => nx, fun _ => ⟨by omega, by omega, fun _ => nx, fun q => absurd q n0⟩⟩
        exact inn _ 0 (Nat.zero_add _) rfl
    exact key 12 1 (by omega) (by omega) (fun m m1 m2 => absurd m1 (by omega))
  · exact fin 1 sh fd (by omega) hg c0
theorem v_X6_ring : V_X6_ring := by
  intro n t w r L r2 L2 a0 y0 lo dp cl sh fd m i hg
  refine ⟨fun hd => ?_, fun hd => ⟨sh, fd, hg, (ri_no hd).symm, fun _ _ => rfl, fun _ _ => rfl⟩⟩
  have ans := ri_yes (i := i) hd
  obtain ⟨k, k2, k4, rfl⟩ := ri_k hd
  rw [tN_nI (by omega)] at ans
  refine ⟨k, rfl, k2, k4, hg, fun s9 f9 g9 z9 => ?_⟩
  have k12 := mg_k g9 k2 k4
  refine ⟨k, rfl, by omega, by omega, fun c => ?_, fun c => ⟨s9, f9, g9, ?_, fun _ _ => rfl, fun _ _ => rfl⟩⟩
  · obtain ⟨g1, g2, g3, g4, g5⟩ : 1 ≤ s9 k ∧ s9 k ≤ 12 ∧ nI (s9 k) = rl k ∧ nI (f9 k) = rb k ∧ f9 k < 4096 := by
      rcases g9 k k2 k4 with q | q
      · exact absurd q c
      · exact q
    refine ⟨fun c2 => ⟨k, rfl, by omega, g1, ?_⟩, fun c2 => ⟨k, rfl, by omega, s9, f9, g9, ?_, fun _ _ => rfl, fun _ _ => rfl⟩⟩
    · rw [in_hp g1 (by omega)]
      rw [if_neg c2] at ans
      refine ⟨fun c3 => ⟨s9, f9, g9, ?_, fun _ _ => rfl, fun _ _ => rfl⟩, fun c3 => ?_⟩
      · rw [ans]
        refine (rn_no ?_).symm
        rw [← g3, nI_clamp (by omega)]
        exact c3
      · have a2 := rn_yes (s := k) (i := i) (by rw [← g3, nI_clamp (by omega)]; exact c3)
        obtain ⟨i', hi', rfl⟩ := hp_ok (by omega) c3
        rw [← g3, ← g4, nI_clamp (by omega), nI_clamp (by omega), nI_clamp (by omega)] at a2
        refine ⟨k, rfl, by omega, k, rfl, by omega, g1, s9 k - 1 - i', pk_sub (by omega), by omega, by omega, s9, f9, g9, ?_, fun _ _ => rfl, fun _ _ => rfl⟩
        rw [ans, a2]
    · rw [ans, if_pos c2, g3]
  · have e := z9 c
    rw [ans]
    by_cases c2 : i = (-1)
    · rw [if_pos c2, e]
    · rw [if_neg c2, rn_no (by rw [e, cl_m6]; exact hp_0 i)]
