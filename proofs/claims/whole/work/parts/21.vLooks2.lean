/-! ===== by hand: looks, the calls on both sides and the reference's side ===== -/
theorem lo_1 {n : Nat} {t : Nat → Nat} {p d : Int32} (h : hp p n = false) : loA n t p d = (-1) := by unfold loA; rw [h]; rfl
theorem lo_2 {n : Nat} {t : Nat → Nat} {p d : Int32} (h : hp p n = true) (h2 : hp d 21 = false) : loA n t p d = (-2) := by unfold loA; rw [h, h2]; rfl
theorem lo_3 {n : Nat} {t : Nat → Nat} {p d : Int32} (h : hp p n = true) (h2 : hp d 21 = true) (h3 : rdy n t = false) : loA n t p d = (-3) := by unfold loA; rw [h, h2, h3]; rfl
theorem lo_4 {n : Nat} {t : Nat → Nat} {p d : Int32} (h : hp p n = true) (h2 : hp d 21 = true) (h3 : rdy n t = true) : loA n t p d = nI (kK n t (tN d) (tN p)) := by unfold loA; rw [h, h2, h3]; rfl
theorem cs_2 {n : Nat} {t : Nat → Nat} {d : Int32} (h2 : hp d 21 = false) : csA n t d = (-2) := by unfold csA; rw [h2]; rfl
theorem cs_3 {n : Nat} {t : Nat → Nat} {d : Int32} (h2 : hp d 21 = true) (h3 : rdy n t = false) : csA n t d = (-3) := by unfold csA; rw [h2, h3]; rfl
theorem cs_4 {n : Nat} {t : Nat → Nat} {d : Int32} (h2 : hp d 21 = true) (h3 : rdy n t = true) : csA n t d = nI (cK n t (tN d)) := by unfold csA; rw [h2, h3]; rfl
theorem dp_3 {n : Nat} {t : Nat → Nat} (h3 : rdy n t = false) : dpA n t = (-3) := by unfold dpA; rw [h3]; rfl
theorem dp_4 {n : Nat} {t : Nat → Nat} (h3 : rdy n t = true) : dpA n t = nI (dpF n t 20 0) := by unfold dpA; rw [h3]; rfl
theorem ap_1 {n : Nat} {t : Nat → Nat} {a b : Int32} (h : (hp a n && hp b n) = false) : apA n t a b = (-1) := by unfold apA; rw [h]; rfl
theorem ap_3 {n : Nat} {t : Nat → Nat} {a b : Int32} (h : (hp a n && hp b n) = true) (h3 : rdy n t = false) : apA n t a b = (-3) := by unfold apA; rw [h, h3]; rfl
theorem ap_4 {n : Nat} {t : Nat → Nat} {a b : Int32} (h : (hp a n && hp b n) = true) (h3 : rdy n t = true) : apA n t a b = apV n t (tN a) (tN b) := by unfold apA; rw [h, h3]; rfl
theorem v_X5_look : V_X5_look := by
  intro n t w kd fi ct p d hn
  have h8 := hn.2.1
  refine ⟨fun c => ⟨fun c2 => ⟨hn, fun c3 => ?_, fun c3 => ⟨_, _, _, (lo_3 c c2 c3).symm, fun _ _ => rfl, fun _ _ => rfl, rfl⟩⟩, fun c2 => ⟨_, _, _, (lo_2 c c2).symm, fun _ _ => rfl, fun _ _ => rfl, rfl⟩⟩, fun c => ⟨_, _, _, (lo_1 c).symm, fun _ _ => rfl, fun _ _ => rfl, rfl⟩⟩
  have ans := lo_4 c c2 c3
  obtain ⟨p', hp', rfl⟩ := hp_ok (by omega) c
  obtain ⟨d', hd', rfl⟩ := hp_ok (by omega) c2
  rw [tN_nI (by omega), tN_nI (by omega)] at ans
  refine ⟨d', rfl, hn, c3, by omega, fun k9 f9 h9 => ⟨p', rfl, by omega, _, _, _, ?_, fun _ _ => rfl, fun _ _ => rfl, rfl⟩⟩
  rw [ans, h9 p' hp']
theorem v_X5_classes : V_X5_classes := by
  intro n t w kd fi ct d hn
  have h8 := hn.2.1
  refine ⟨fun c2 => ⟨hn, fun c3 => ?_, fun c3 => ⟨_, _, _, (cs_3 c2 c3).symm, fun _ _ => rfl, fun _ _ => rfl, rfl⟩⟩, fun c2 => ⟨_, _, _, (cs_2 c2).symm, fun _ _ => rfl, fun _ _ => rfl, rfl⟩⟩
  have ans := cs_4 c2 c3
  obtain ⟨d', hd', rfl⟩ := hp_ok (by omega) c2
  rw [tN_nI (by omega)] at ans
  exact ⟨d', rfl, hn, c3, by omega, fun k9 f9 h9 => ⟨_, _, _, ans.symm, fun _ _ => rfl, fun _ _ => rfl, rfl⟩⟩
theorem v_X5_deep : V_X5_deep := by
  intro n t w kd fi ct hn
  exact ⟨hn, fun c3 => ⟨_, _, _, (dp_3 c3).symm, fun _ _ => rfl, fun _ _ => rfl, rfl⟩, fun c3 => ⟨hn, c3, Nat.le_refl _, fun k9 f9 h9 => ⟨_, _, _, (dp_4 c3).symm, fun _ _ => rfl, fun _ _ => rfl, rfl⟩⟩⟩
theorem v_X5_apart : V_X5_apart := by
  intro n t w kd fi ct a b hn
  have h8 := hn.2.1
  refine ⟨fun c => ⟨_, _, _, (ap_1 (by rw [c]; rfl)).symm, fun _ _ => rfl, fun _ _ => rfl, rfl⟩, fun c => ⟨fun c2 => ⟨hn, fun c3 => ⟨_, _, _, (ap_3 (by rw [c, c2]; rfl) c3).symm, fun _ _ => rfl, fun _ _ => rfl, rfl⟩, fun c3 => ?_⟩, fun c2 => ⟨_, _, _, (ap_1 (by rw [c, c2]; rfl)).symm, fun _ _ => rfl, fun _ _ => rfl, rfl⟩⟩⟩
  have ans := ap_4 (a := a) (b := b) (by rw [c, c2]; rfl) c3
  obtain ⟨p', hp', rfl⟩ := hp_ok (by omega) c
  obtain ⟨d', hd', rfl⟩ := hp_ok (by omega) c2
  rw [tN_nI (by omega), tN_nI (by omega)] at ans
  exact ⟨p', rfl, d', rfl, hn, c3, hp', hd', fun k9 f9 ct9 => ⟨_, _, _, ans.symm, fun _ _ => rfl, fun _ _ => rfl, rfl⟩⟩
/-! the reference -/
theorem v_X6_areAlike : V_X6_areAlike := by
  intro n t w r L r2 L2 a0 y0 lo dp cl sh fd kd a b hn hr ha hb hk hd X24 h24
  have h8 := hn.2.1
  have da := dg_le t a
  have eqN : ∀ x y, x < n → y < n → (lo x = lo y ↔ kd x = kd y) := by
    intro x y hx hy
    have kx := hk x hx
    have ky := hk y hy
    rw [kx.1, ky.1, nI_eq (by omega) (by omega)]
  have da4 : dg t a ≤ 4 := da
  have keyF : alk t kd a b = false → ∀ v, v ≤ 9 → X24 false v := fun hf v hv => h24 _ _ ⟨by omega, by omega, by omega, fun _ => hf.symm, fun _ => ⟨fun _ => hf.symm, fun q => by cases q⟩⟩
  have key : kd a = kd b → ∀ (z v : Nat), v + z = dg t a → (∀ d, d < v → t (4 * a + d) % 4 = t (4 * b + d) % 4 ∧ kd (t (4 * a + d) / 4) = kd (t (4 * b + d) / 4)) → X24 true v := by
    intro c z
    have e := hd c
    induction z with
    | zero =>
      intro v hv hall
      exact h24 _ _ ⟨by omega, by omega, by omega, fun _ => (decide_eq_true ⟨c, fun d hd => hall d (by omega)⟩).symm, fun q => absurd hv (by omega)⟩
    | succ z ih =>
      intro v hv hall
      have t1 := ok_in hr ha (show v < dg t a by omega)
      have t2 := ok_in hr hb (show v < dg t b by omega)
      have p1 := end_n hn hr ha (show v < dg t a by omega)
      have p2 := end_n hn hr hb (show v < dg t b by omega)
      have nf : ¬ (t (4 * a + v) % 4 = t (4 * b + v) % 4 ∧ kd (t (4 * a + v) / 4) = kd (t (4 * b + v) / 4)) → alk t kd a b = false := fun q => decide_eq_false (fun q2 => q (q2.2 v (by omega)))
      refine h24 _ _ ⟨by omega, by omega, by omega, fun q => absurd q (by omega), fun _ => ⟨(fun q => by cases q), fun _ => ⟨by omega, ?_⟩⟩⟩
      rintro x rfl
      refine ⟨by omega, ?_⟩
      rintro y rfl
      refine ⟨_, aT_in t1, by omega, _, aT_in t2, by omega, by omega, by omega, fun c1 => keyF (nf (fun q => c1 q.1)) _ (by omega), fun c1 => ⟨_, aT_in t1, by omega, by omega, _, aT_in t2, by omega, by omega, fun c2 => keyF (nf (fun q => c2 ((eqN _ _ p1 p2).mpr q.2))) _ (by omega), fun c2 => ?_⟩⟩
      refine ih (v + 1) (by omega) (fun d hd => ?_)
      by_cases ee : d = v
      · rw [ee]; exact ⟨c1, (eqN _ _ p1 p2).mp c2⟩
      · exact hall d (by omega)
  refine ⟨by omega, by omega, fun c => keyF (decide_eq_false (fun q => c ((eqN a b ha hb).mpr q.1))) 0 (by omega), fun c => key ((eqN a b ha hb).mp c) _ 0 (Nat.zero_add _) (fun d hd => absurd hd (by omega))⟩
theorem m1_lt : ¬ (0 : Int32) ≤ (-1) := by decide
theorem upd_eq {f : Nat → Int32} {k : Nat} {x : Int32} : upd f k x k = x := by unfold upd; rw [if_pos rfl]
theorem upd_ne {f : Nat → Int32} {k i : Nat} {x : Int32} (h : ¬ i = k) : upd f k x i = f i := by unfold upd; rw [if_neg h]
theorem lab_loop {n : Nat} {R : Nat → Nat → Bool} (h8 : n ≤ 8) (Y7 : Nat → (Nat → Int32) → Nat → Prop) (Y24 : Nat → Nat → (Nat → Int32) → Nat → Prop)
    (h7 : ∀ v f c, v ≤ n → c ≤ n → (v = n → (∀ i, i < n → f i = nI (lbT R n i)) → c = cnn R n → Y7 v f c) ∧ (v < n → Y24 v 0 (upd f v (-1)) c → Y7 v f c))
    (h24 : ∀ v q f c, v < n → q ≤ v → c ≤ n → (0 ≤ f v → Y7 (v + 1) f c) → (¬ 0 ≤ f v → q = v → Y7 (v + 1) (upd f v (nI c)) (c + 1)) → (¬ 0 ≤ f v → q < v → R q v = false → Y24 v (q + 1) (upd f v (-1)) c) → (¬ 0 ≤ f v → q < v → R q v = true → Y24 v (q + 1) (upd f v (f q)) c) → Y24 v q f c)
    (f : Nat → Int32) : Y7 0 f 0 := by
  have l7 : ∀ (z v : Nat) (f : Nat → Int32), v + z = n → (∀ i, i < v → f i = nI (lbT R v i)) → Y7 v f (cnn R v) := by
    intro z
    induction z with
    | zero =>
      intro v f hv hf
      obtain rfl : v = n := by omega
      exact (h7 v f _ (Nat.le_refl _) (cnn_le R v)).1 rfl hf rfl
    | succ z ih =>
      intro v f hv hf
      have cl := cnn_le R v
      have ll := lea_le R v
      have cc : cnn R (v + 1) = cnn R v + (if lea R v = v then 1 else 0) := rfl
      refine (h7 v f _ (by omega) (by omega)).2 (by omega) ?_
      have done : ∀ (q : Nat) (g : Nat → Int32), q ≤ v → (∀ i, i < v → g i = nI (lbT R v i)) → lea R v < v → g v = nI (lbT R v (lea R v)) → Y24 v q g (cnn R v) := by
        intro q g hq hg hl hv2
        have lb := lbT_le R v (lea R v)
        have pos : 0 ≤ g v := by rw [hv2]; exact nI_pos' (by omega)
        refine h24 _ _ _ _ (by omega) hq (by omega) (fun _ => ?_) (fun c => absurd pos c) (fun c => absurd pos c) (fun c => absurd pos c)
        have cc2 : cnn R (v + 1) = cnn R v := by rw [cc, if_neg (by omega)]; rfl
        rw [← cc2]
        refine ih (v + 1) g (by omega) (fun i hi => ?_)
        by_cases e : i = v
        · rw [e, lbT_at, if_pos hl]
          exact hv2
        · rw [lbT_lt (by omega)]
          exact hg i (by omega)
      have find : ∀ (z2 q : Nat) (g : Nat → Int32), q + z2 = v → (∀ i, i < v → g i = nI (lbT R v i)) → g v = (-1) → (∀ i, i < q → R i v = false) → Y24 v q g (cnn R v) := by
        intro z2
        induction z2 with
        | zero =>
          intro q g hq hg hv2 hno
          have neg : ¬ 0 ≤ g v := by rw [hv2]; exact m1_lt
          have le : lea R v = v := lea_none (fun i hi => hno i (by omega))
          refine h24 _ _ _ _ (by omega) (by omega) (by omega) (fun c => absurd c neg) (fun _ _ => ?_) (fun _ c => absurd c (by omega)) (fun _ c => absurd c (by omega))
          rw [if_pos le] at cc
          rw [← cc]
          refine ih (v + 1) _ (by omega) (fun i hi => ?_)
          by_cases e : i = v
          · rw [e, upd_eq, lbT_at, if_neg (by omega)]
          · rw [upd_ne e, lbT_lt (by omega)]
            exact hg i (by omega)
        | succ z2 ih2 =>
          intro q g hq hg hv2 hno
          have neg : ¬ 0 ≤ g v := by rw [hv2]; exact m1_lt
          refine h24 _ _ _ _ (by omega) (by omega) (by omega) (fun c => absurd c neg) (fun _ c => absurd c (by omega)) (fun _ _ c => ?_) (fun _ _ c => ?_)
          · refine ih2 (q + 1) _ (by omega) (fun i hi => ?_) upd_eq (fun i hi => ?_)
            · rw [upd_ne (by omega)]; exact hg i hi
            · by_cases e : i = q
              · rw [e]; exact c
              · exact hno i (by omega)
          · have le : lea R v = q := lea_hit (by omega) c hno
            refine done (q + 1) _ (by omega) (fun i hi => ?_) (by omega) ?_
            · rw [upd_ne (by omega)]; exact hg i hi
            · rw [upd_eq, le]; exact hg q (by omega)
      refine find v 0 _ (by omega) (fun i hi => ?_) upd_eq (fun i hi => absurd hi (by omega))
      rw [upd_ne (by omega)]
      exact hf i hi
  exact l7 n 0 f (by omega) (fun i hi => absurd hi (by omega))
theorem v_X6_layLooks : V_X6_layLooks := by
  intro n t w r L r2 L2 a0 y0 lo dp cl sh fd d hn hr hd X7 X24 X110 X122 X140 X225 h7 h24 h110 h122 h140 h225
  have h8 := hn.2.1
  have l110 : ∀ (z k : Nat) (f g : Nat → Int32), k + z = d → (∀ i, i < n → f i = nI (kK n t k i)) → X110 k f g (cK n t k) := by
    intro z
    induction z with
    | zero =>
      intro k f g hk hf
      obtain rfl : k = d := by omega
      exact h110 _ _ _ _ ⟨by omega, by omega, fun _ => ⟨f, g, hf, fun _ _ => rfl, fun _ _ => rfl, rfl⟩, fun q => absurd q (by omega)⟩
    | succ z ih =>
      intro k f g hk hf
      refine h110 _ _ _ _ ⟨by omega, by omega, fun q => absurd q (by omega), fun _ => ?_⟩
      have cp : ∀ (z2 i : Nat) (f2 g2 : Nat → Int32), i + z2 = n → (∀ j, j < n → g2 j = nI (kK n t (k + 1) j)) → (∀ j, j < i → f2 j = g2 j) → X225 k i f2 g2 (cK n t (k + 1)) := by
        intro z2
        induction z2 with
        | zero =>
          intro i f2 g2 hi hg hfg
          refine h225 _ _ _ _ _ ⟨by omega, by omega, fun _ => ih (k + 1) _ _ (by omega) (fun j hj => ?_), fun q => absurd q (by omega)⟩
          rw [hfg j (by omega)]
          exact hg j hj
        | succ z2 ih2 =>
          intro i f2 g2 hi hg hfg
          refine h225 _ _ _ _ _ ⟨by omega, by omega, fun q => absurd q (by omega), fun _ => ⟨by omega, by omega, ih2 (i + 1) _ _ (by omega) hg (fun j hj => ?_)⟩⟩
          by_cases e : j = i
          · rw [e, upd_eq]
          · rw [upd_ne e]; exact hfg j (by omega)
      have hdg := (rR_ok n t k).2
      refine lab_loop (n := n) (R := alk t (kK n t k)) h8 (fun v g2 c => X122 k v f g2 c) (fun v q g2 c => X140 k v q f g2 c) ?_ ?_ g
      · intro v g2 c hv hc
        refine ⟨fun e hg ec => h122 _ _ _ _ _ ⟨by omega, by omega, fun _ => ?_, fun q => absurd q (by omega)⟩, fun e hx => h122 _ _ _ _ _ ⟨by omega, by omega, fun q => absurd q (by omega), fun _ => ⟨by omega, hx⟩⟩⟩
        rw [ec]
        exact cp n 0 f g2 (by omega) hg (fun j hj => absurd hj (by omega))
      · intro v q g2 c hv hq hc a1 a2 a3 a4
        refine h140 _ _ _ _ _ _ ⟨by omega, by omega, fun c1 => ⟨by omega, a1, fun c2 => ⟨by omega, a2 c2 (by omega)⟩⟩, fun c1 => ⟨by omega, fun c2 => ⟨by omega, fun _ => a1 c2, fun c3 => absurd c2 c3⟩, fun c2 => ⟨kK n t k, hn, hr, hv, by omega, fun i hi => ⟨hf i hi, kK_lt h8 t k i⟩, hdg v q hv (by omega), fun c3 => ⟨by omega, a3 c2 (by omega) ?_⟩, fun c3 => ⟨by omega, by omega, a4 c2 (by omega) ?_⟩⟩⟩⟩
        · rw [alk_sym hdg (by omega) hv]; exact c3
        · rw [alk_sym hdg (by omega) hv]; exact c3
  refine lab_loop (n := n) (R := dgR t) h8 (fun v f c => X7 v f dp c) (fun v q f c => X24 v q f dp c) ?_ ?_ lo
  · intro v f c hv hc
    refine ⟨fun e hg ec => h7 _ _ _ _ ⟨by omega, by omega, fun _ => ?_, fun q => absurd q (by omega)⟩, fun e hx => h7 _ _ _ _ ⟨by omega, by omega, fun q => absurd q (by omega), fun _ => ⟨by omega, hx⟩⟩⟩
    rw [ec]
    exact l110 d 0 f dp (by omega) hg
  · intro v q f c hv hq hc a1 a2 a3 a4
    have d1 := dg_le t v
    have d2 := dg_le t q
    exact h24 _ _ _ _ _ ⟨by omega, by omega, fun c1 => ⟨by omega, a1, fun c2 => ⟨by omega, a2 c2 (by omega)⟩⟩, fun c1 => ⟨by omega, fun c2 => ⟨by omega, fun _ => a1 c2, fun c3 => absurd c2 c3⟩, fun c2 => ⟨by omega, by omega, by omega, by omega, fun c3 => ⟨by omega, a3 c2 (by omega) (decide_eq_false c3)⟩, fun c3 => ⟨by omega, by omega, a4 c2 (by omega) (decide_eq_true c3)⟩⟩⟩⟩
theorem n20d {d : Int32} : decide (nI 0 ≤ d ∧ d ≤ nI 20) = hp d 21 := in_hp (n := 21) (by decide) (by decide)
theorem v_X6_look : V_X6_look := by
  intro n t w r L r2 L2 a0 y0 lo dp cl sh fd p d hn
  have h8 := hn.2.1
  unfold B_X6_look_in
  rw [n20d]
  refine ⟨hn.1, h8, fun c => ⟨fun c2 => ⟨hn, fun c3 => ?_, fun c3 => ⟨_, _, _, (lo_3 c c2 c3).symm, fun _ _ => rfl, fun _ _ => rfl, rfl⟩⟩, fun c2 => ⟨_, _, _, (lo_2 c c2).symm, fun _ _ => rfl, fun _ _ => rfl, rfl⟩⟩, fun c => ⟨_, _, _, (lo_1 c).symm, fun _ _ => rfl, fun _ _ => rfl, rfl⟩⟩
  have ans := lo_4 c c2 c3
  obtain ⟨p', hp', rfl⟩ := hp_ok (by omega) c
  obtain ⟨d', hd', rfl⟩ := hp_ok (by omega) c2
  rw [tN_nI (by omega), tN_nI (by omega)] at ans
  refine ⟨d', rfl, hn, c3, by omega, fun k9 f9 h9 => ⟨p', rfl, by omega, _, _, _, ?_, fun _ _ => rfl, fun _ _ => rfl, rfl⟩⟩
  rw [ans, h9 p' hp']
theorem v_X6_classes : V_X6_classes := by
  intro n t w r L r2 L2 a0 y0 lo dp cl sh fd d hn
  have h8 := hn.2.1
  unfold B_X6_classes_in
  rw [n20d]
  refine ⟨fun c2 => ⟨hn, fun c3 => ?_, fun c3 => ⟨_, _, _, (cs_3 c2 c3).symm, fun _ _ => rfl, fun _ _ => rfl, rfl⟩⟩, fun c2 => ⟨_, _, _, (cs_2 c2).symm, fun _ _ => rfl, fun _ _ => rfl, rfl⟩⟩
  have ans := cs_4 c2 c3
  obtain ⟨d', hd', rfl⟩ := hp_ok (by omega) c2
  rw [tN_nI (by omega)] at ans
  exact ⟨d', rfl, hn, c3, by omega, fun k9 f9 h9 => ⟨_, _, _, ans.symm, fun _ _ => rfl, fun _ _ => rfl, rfl⟩⟩
theorem v_X6_classesAt : V_X6_classesAt := by
  intro n t w r L r2 L2 a0 y0 lo dp cl sh fd d hn hr hd
  exact ⟨hn, hr, hd, fun k9 f9 h9 => ⟨_, _, _, rfl, fun _ _ => rfl, fun _ _ => rfl, rfl⟩⟩
theorem v_X6_deep : V_X6_deep := by
  intro n t w r L r2 L2 a0 y0 lo dp cl sh fd hn X12 h12
  have h8 := hn.2.1
  refine ⟨hn, fun c3 => ?_, fun c3 => ⟨_, _, _, (dp_3 c3).symm, fun _ _ => rfl, fun _ _ => rfl, rfl⟩⟩
  have key : ∀ (z v : Nat) (f g : Nat → Int32) (c : Nat), v + z = 8 → (∀ j, j < v → ¬ cK n t (j + 1) = cK n t j) → X12 v f g c := by
    intro z
    induction z with
    | zero =>
      intro v f g c hv hno
      obtain ⟨k, k7, ek⟩ := cK_stop (n := n) (t := t) hn.1 h8
      exact absurd ek (hno k (by omega))
    | succ z ih =>
      intro v f g c hv hno
      have c1 := cK_le n t v
      have c2 := cK_le n t (v + 1)
      refine h12 _ _ _ _ ⟨hn, c3, by omega, fun f1 g1 ct1 => ⟨hn, c3, by omega, fun f2 g2 ct2 => ⟨by omega, by omega, fun e => ⟨_, _, _, ?_, fun _ _ => rfl, fun _ _ => rfl, rfl⟩, fun e => ?_⟩⟩⟩
      · rw [dp_4 c3, dpF_at 20 0 v (by omega) (by omega) (fun j _ j2 => hno j j2) e.symm]
      · refine ih (v + 1) f2 g2 ct2 (by omega) (fun j hj => ?_)
        by_cases ee : j = v
        · rw [ee]; exact fun q => e q.symm
        · exact hno j (by omega)
  exact key 8 0 lo dp cl (by omega) (fun j hj => absurd hj (by omega))
/-- what is alike through depth 7 is alike at every depth -/
theorem alike_on {n : Nat} {t : Nat → Nat} (h1 : 1 ≤ n) (h8 : n ≤ 8) {a b : Nat} (h : ∀ k, k < 8 → kK n t k a = kK n t k b) (k : Nat) : kK n t k a = kK n t k b := by
  obtain ⟨s, s7, es⟩ := cK_stop (n := n) (t := t) h1 h8
  by_cases c : k < 8
  · exact h k c
  · have e := (stays es (k - s)).1
    rw [show s + (k - s) = k by omega] at e
    rw [e]
    exact h s (by omega)
theorem srch_all {P : Nat → Bool} : ∀ m k, (∀ j, k ≤ j → j < k + m → P j = false) → srch P m k = (-6)
  | 0, k, _ => rfl
  | m + 1, k, h => by
    rw [srch_f (h k (by omega) (by omega))]
    exact srch_all m (k + 1) (fun j j1 j2 => h j (by omega) (by omega))
theorem srch_hit {P : Nat → Bool} : ∀ m k v, k ≤ v → v < k + m → (∀ j, k ≤ j → j < v → P j = false) → P v = true → srch P m k = nI v
  | 0, k, v, h1, h2, _, _ => absurd h1 (by omega)
  | m + 1, k, v, h1, h2, h3, h4 => by
    by_cases e : k = v
    · subst e; exact srch_t h4
    · rw [srch_f (h3 k (by omega) (by omega))]
      exact srch_hit m (k + 1) v (by omega) (by omega) (fun j j1 j2 => h3 j (by omega) j2) h4
theorem v_X6_apart : V_X6_apart := by
  intro n t w r L r2 L2 a0 y0 lo dp cl sh fd a b hn X30 h30
  have h8 := hn.2.1
  refine ⟨hn.1, h8, fun c => ⟨_, _, _, (ap_1 (by rw [c]; rfl)).symm, fun _ _ => rfl, fun _ _ => rfl, rfl⟩, fun c => ⟨hn.1, h8, fun c2 => ⟨hn, fun c3 => ?_, fun c3 => ⟨_, _, _, (ap_3 (by rw [c, c2]; rfl) c3).symm, fun _ _ => rfl, fun _ _ => rfl, rfl⟩⟩, fun c2 => ⟨_, _, _, (ap_1 (by rw [c, c2]; rfl)).symm, fun _ _ => rfl, fun _ _ => rfl, rfl⟩⟩⟩
  have ans := ap_4 (a := a) (b := b) (by rw [c, c2]; rfl) c3
  obtain ⟨p', hp', rfl⟩ := hp_ok (by omega) c
  obtain ⟨d', hd', rfl⟩ := hp_ok (by omega) c2
  rw [tN_nI (by omega), tN_nI (by omega)] at ans
  have key : ∀ (z v : Nat) (f g : Nat → Int32) (c : Nat), v + z = 10 → (∀ j, j < v → kK n t j p' = kK n t j d') → X30 v f g c := by
    intro z
    induction z with
    | zero =>
      intro v f g c hv hno
      refine h30 _ _ _ _ ⟨by omega, fun _ => ⟨_, _, _, ?_, fun _ _ => rfl, fun _ _ => rfl, rfl⟩, fun q => absurd q (by omega)⟩
      rw [ans]
      exact (srch_all 8 0 (fun j _ j2 => decide_eq_false (fun q => q (hno j (by omega))))).symm
    | succ z ih =>
      intro v f g c hv hno
      have ka := kK_lt h8 t v p'
      have kb := kK_lt h8 t v d'
      refine h30 _ _ _ _ ⟨by omega, fun q => absurd q (by omega), fun _ => ⟨hn, c3, by omega, fun f1 g1 e1 => ⟨p', rfl, by omega, d', rfl, by omega, fun e => ih (v + 1) _ _ _ (by omega) (fun j hj => ?_), fun e => ⟨_, _, _, ?_, fun _ _ => rfl, fun _ _ => rfl, rfl⟩⟩⟩⟩
      · by_cases ee : j = v
        · rw [ee]
          rw [e1 p' hp', e1 d' hd'] at e
          exact (nI_eq (by omega) (by omega)).mp e
        · exact hno j (by omega)
      · rw [e1 p' hp', e1 d' hd'] at e
        have ne : ¬ kK n t v p' = kK n t v d' := fun q => e (by rw [q])
        have v8 : v < 8 := by
          apply Nat.lt_of_not_le
          intro q
          exact ne (alike_on hn.1 h8 (fun k hk => hno k (by omega)) v)
        rw [ans]
        exact (srch_hit 8 0 v (by omega) (by omega) (fun j _ j2 => decide_eq_false (p := ¬ kK n t j p' = kK n t j d') (fun q => q (hno j j2))) (decide_eq_true ne)).symm
  exact key 10 0 lo dp cl (by omega) (fun j hj => absurd hj (by omega))
