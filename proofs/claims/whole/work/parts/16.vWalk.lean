/-! ===== by hand: walks, and which nets are ready ===== -/
theorem srch_t {P : Nat → Bool} {m k : Nat} (h : P k = true) : srch P (m + 1) k = nI k := by
  unfold srch
  rw [if_pos h]
theorem srch_f {P : Nat → Bool} {m k : Nat} (h : P k = false) : srch P (m + 1) k = srch P m (k + 1) := by
  show (if P k = true then nI k else srch P m (k + 1)) = _
  rw [h]
  rfl
theorem jd_one {t : Nat → Nat} {i : Nat} (h : t i < 32) : jd t i = 1 := by unfold jd; rw [if_pos h]
theorem ok_in {n : Nat} {t : Nat → Nat} (h : rdy n t = true) {p d : Nat} (hp : p < n) (hd : d < dg t p) : t (4 * p + d) < 32 := by
  have h1 := (of_decide_eq_true h).1 p hp
  exact of_decide_eq_true h1 d hd
theorem wk_lt {t : Nat → Nat} {w : Nat → Bool} {how i x : Nat} (h : i < 32) : wk t w how i x < 32 := by
  unfold wk
  split
  · exact h
  · rename_i c
    have := dg_le t (i / 4)
    have := Nat.mod_lt ((if how = 0 then i % 4 else 0) + x) (Nat.pos_of_ne_zero c)
    exact thr_lt (by omega)
theorem thr_n {n : Nat} {t : Nat → Nat} {w : Nat → Bool} {k : Nat} (hn : nOK n t) (h : k < 4 * n) : thr t w k < 4 * n := by
  unfold thr
  split
  · exact h
  · rename_i c
    exact hn.to (Classical.byContradiction (fun q => c (Or.inr q)))
theorem wk_n {n : Nat} {t : Nat → Nat} {w : Nat → Bool} {how i x : Nat} (hn : nOK n t) (h : i < 4 * n) : wk t w how i x < 4 * n := by
  unfold wk
  split
  · exact h
  · rename_i c
    have := dg_le t (i / 4)
    have h2 := Nat.mod_lt ((if how = 0 then i % 4 else 0) + x) (Nat.pos_of_ne_zero c)
    exact thr_n hn (by omega)
theorem v_X6_step : V_X6_step := by
  intro n t w r L r2 L2 a0 y0 lo dp cl sh fd how x hn hr ha hy hh hx
  have h8 := hn.2.1
  have e4 : (4 * a0 + y0) / 4 = a0 := by omega
  have e5 : (4 * a0 + y0) % 4 = y0 := by omega
  have hd := dg_le t a0
  refine ⟨by omega, ?_⟩
  rintro g rfl
  refine ⟨by omega, fun c => ?_, fun c => ⟨by omega, fun c2 => ?_, fun c2 => ?_⟩⟩
  · have e : wk t w how (4 * a0 + y0) x = 4 * a0 + y0 := by unfold wk; rw [e4, if_pos (by omega)]
    rw [e, e4, e5]
    exact ⟨rfl, rfl⟩
  · have e : wk t w how (4 * a0 + y0) x = thr t w (4 * a0 + x % dg t a0) := by unfold wk; rw [e4, if_neg (by omega), if_neg c2, Nat.zero_add]
    have hm := Nat.mod_lt x (show 0 < dg t a0 by omega)
    refine ⟨by omega, by omega, by omega, by omega, by omega, Or.inr (ok_in hr ha hm), ?_⟩
    rw [e]
    exact ⟨rfl, rfl⟩
  · have e : wk t w how (4 * a0 + y0) x = thr t w (4 * a0 + (y0 + x) % dg t a0) := by unfold wk; rw [e4, if_neg (by omega), if_pos c2, e5]
    have hm := Nat.mod_lt (y0 + x) (show 0 < dg t a0 by omega)
    refine ⟨by omega, by omega, by omega, by omega, by omega, Or.inr (ok_in hr ha hm), ?_⟩
    rw [e]
    exact ⟨rfl, rfl⟩
theorem v_X5_follow : V_X5_follow := by
  intro n t w r3 L3 i k how hi hr hh
  refine ⟨fun c => ?_, fun c => ⟨c, hr.1, hi, ?_, hh, ?_⟩⟩
  · unfold folI; rw [c]; rfl
  · obtain ⟨j, hj, rfl⟩ := hp_ok (by have := hr.1; omega) c
    have := hr.1
    rw [tN_nI (by omega)]
    exact hr.2 j (by omega)
  · unfold folI; rw [c]; rfl
theorem fol_lt {t : Nat → Nat} {w : Nat → Bool} {L : Nat} {r : Nat → Nat} {how i k : Nat} (h : i < 32) : fol t w L r how i k < 32 := by
  unfold fol
  split
  · exact wk_lt h
  · exact h
theorem fol_n {n : Nat} {t : Nat → Nat} {w : Nat → Bool} {L : Nat} {r : Nat → Nat} {how i k : Nat} (hn : nOK n t) (h : i < 4 * n) : fol t w L r how i k < 4 * n := by
  unfold fol
  split
  · exact wk_n hn h
  · exact h
theorem aft_n {n : Nat} {t : Nat → Nat} {w : Nat → Bool} {L : Nat} {r : Nat → Nat} {how i : Nat} (hn : nOK n t) (h : i < 4 * n) : ∀ k, aft t w L r how i k < 4 * n
  | 0 => h
  | k + 1 => fol_n hn (aft_n hn h k)
theorem folI_n {t : Nat → Nat} {w : Nat → Bool} {L : Nat} {r : Nat → Nat} {how i k : Nat} (hk : k < 2147483648) (hL : L < 2147483648) : folI t w L r how i (nI k) = fol t w L r how i k := by
  unfold folI fol
  rw [hp_nI hk hL]
  by_cases c : k < L
  · rw [decide_eq_true c, if_pos c, if_pos rfl, show (nI k).toNatClampNeg = k from nI_clamp hk]
  · rw [decide_eq_false c, if_neg c]
    rfl
theorem sen_lt {n : Nat} {f : Nat → Nat} (h : ∀ k, f k < n) : ∀ k, sen f k < 2 ^ n
  | 0 => by
    show 1 <<< f 0 < 2 ^ n
    rw [Nat.shiftLeft_eq, Nat.one_mul]
    exact Nat.pow_lt_pow_right (by decide) (h 0)
  | k + 1 => bit_lt (sen_lt h k) (h (k + 1))
theorem v_X5_stepsToAll : V_X5_stepsToAll := by
  intro n t w r L p how hn hr hp hh X14 h14
  have h8 := hn.2.1
  have h28 := p28 h8
  have hL := hr.1
  have key : ∀ (z v : Nat), v + z = L + 1 → srch (fun k => decide (sen (fun j => aft t w L r how (4 * p) j / 4) k = 2 ^ n - 1)) z v = wlV n t w r L p how → X14 (aft t w L r how (4 * p) v) (sen (fun j => aft t w L r how (4 * p) j / 4) v) v := by
    intro z
    induction z with
    | zero =>
      intro v hv e
      exact h14 _ _ _ ⟨by omega, by omega, fun _ => e, fun q => absurd q (by omega)⟩
    | succ z ih =>
      intro v hv e
      have ha := aft_n (w := w) (L := L) (r := r) (how := how) hn (show 4 * p < 4 * n by omega) v
      have ha2 := aft_n (w := w) (L := L) (r := r) (how := how) hn (show 4 * p < 4 * n by omega) (v + 1)
      have hs := sen_lt (f := fun j => aft t w L r how (4 * p) j / 4) (n := n) (fun k => by have := aft_n (w := w) (L := L) (r := r) (how := how) hn (show 4 * p < 4 * n by omega) k; omega) v
      refine h14 _ _ _ ⟨by omega, by omega, fun q => absurd q (by omega), fun q => ⟨h8, by omega, by omega, fun c => ⟨by omega, hr, hh, ?_⟩, fun c => ?_⟩⟩
      · rw [folI_n (by omega) (by omega)]
        rintro x rfl
        refine ⟨?_, ?_, ?_⟩
        · have : fol t w L r how (aft t w L r how (4 * p) v) v < 4 * n := ha2
          omega
        · have : fol t w L r how (aft t w L r how (4 * p) v) v < 4 * n := ha2
          omega
        · rintro y rfl
          refine ih (v + 1) (by omega) ?_
          rw [← e]
          exact (srch_f (decide_eq_false c)).symm
      · rw [← e]
        exact (srch_t (decide_eq_true c)).symm
  rintro x rfl
  refine ⟨by omega, ?_⟩
  rintro y rfl
  have k0 := key (L + 1) 0 (by omega) rfl
  have e1 : sen (fun j => aft t w L r how (4 * p) j / 4) 0 = 1 <<< p := by
    show 1 <<< (4 * p / 4) = _
    rw [show 4 * p / 4 = p by omega]
  rw [e1] at k0
  exact k0
theorem hpS {k : Int32} {L : Nat} (hL : L < 1000000) (h1 : ¬ k < 0) (h2 : k ≤ nI L) : hp k (L + 1) = true := by
  refine hp_in h1 ?_
  rw [Int32.le_iff_toInt_le, nI_toInt (by omega)] at h2 ⊢
  omega
theorem hpN {k : Int32} {L : Nat} (hL : L < 1000000) (h2 : ¬ k ≤ nI L) : hp k (L + 1) = false := by
  refine hp_ge ?_
  rw [Int32.le_iff_toInt_le, nI_toInt (by omega)] at h2 ⊢
  omega
theorem af_1 {n : Nat} {t : Nat → Nat} {w : Nat → Bool} {r : Nat → Nat} {L : Nat} {p how k : Int32} (h : hp p n = false) : afA n t w r L p how k = (-1) := by unfold afA; rw [h]; rfl
theorem af_2 {n : Nat} {t : Nat → Nat} {w : Nat → Bool} {r : Nat → Nat} {L : Nat} {p how k : Int32} (h : hp p n = true) (h2 : (isW how && hp k (L + 1)) = false) : afA n t w r L p how k = (-2) := by unfold afA; rw [h, h2]; rfl
theorem af_3 {n : Nat} {t : Nat → Nat} {w : Nat → Bool} {r : Nat → Nat} {L : Nat} {p how k : Int32} (h : hp p n = true) (h2 : (isW how && hp k (L + 1)) = true) (h3 : rdy n t = false) : afA n t w r L p how k = (-3) := by unfold afA; rw [h, h2, h3]; rfl
theorem af_4 {n : Nat} {t : Nat → Nat} {w : Nat → Bool} {r : Nat → Nat} {L : Nat} {p how k : Int32} (h : hp p n = true) (h2 : (isW how && hp k (L + 1)) = true) (h3 : rdy n t = true) : afA n t w r L p how k = nI (aft t w L r (tN how) (4 * tN p) (tN k) / 4) := by unfold afA; rw [h, h2, h3]; rfl
theorem isW_n {x : Int32} (h : isW x = true) : ∃ k, k ≤ 1 ∧ x = nI k := by
  rcases isW_01 h with rfl | rfl
  · exact ⟨0, by omega, rfl⟩
  · exact ⟨1, by omega, rfl⟩
theorem v_X5_after : V_X5_after := by
  intro n t w r L p how k hn hr X61 h61
  have h8 := hn.2.1
  have hL := hr.1
  refine ⟨fun c => ⟨fun c2 => (af_2 c (by rw [c2]; rfl)).symm, fun c2 => ⟨fun c3 => (af_2 c (by rw [hp_lt0 c3, Bool.and_false])).symm, fun c3 => ⟨fun c4 => ⟨hn, fun c5 => ?_, fun c5 => (af_3 c (by rw [c2, hpS (by omega) c3 c4]; rfl) c5).symm⟩, fun c4 => (af_2 c (by rw [hpN (by omega) c4, Bool.and_false])).symm⟩⟩⟩, fun c => (af_1 c).symm⟩
  have hk := hpS (by omega) c3 c4
  have ans := af_4 (w := w) (r := r) c (show (isW how && hp k (L + 1)) = true by rw [c2, hk]; rfl) c5
  obtain ⟨p', hp', rfl⟩ := hp_ok (by omega) c
  obtain ⟨k', hk', rfl⟩ := hp_ok (by omega) hk
  obtain ⟨w', hw', rfl⟩ := isW_n c2
  rw [tN_nI (by omega), tN_nI (by omega), tN_nI (by omega)] at ans
  have key : ∀ (z v : Nat), v + z = k' → X61 (aft t w L r w' (4 * p') v) v := by
    intro z
    induction z with
    | zero =>
      intro v hv
      have ha := aft_n (w := w) (L := L) (r := r) (how := w') hn (show 4 * p' < 4 * n by omega) v
      refine h61 _ _ ⟨fun _ => ⟨by omega, ?_⟩, fun q => absurd ((nI_leI (by omega) (by omega)).mpr (show k' ≤ v by omega)) q⟩
      rw [ans, ← hv]
      rfl
    | succ z ih =>
      intro v hv
      have ha := aft_n (w := w) (L := L) (r := r) (how := w') hn (show 4 * p' < 4 * n by omega) v
      refine h61 _ _ ⟨fun q => absurd ((nI_leI (by omega) (by omega)).mp q) (by omega), fun q => ⟨w', rfl, by omega, hr, hw', ?_⟩⟩
      rw [folI_n (by omega) (by omega)]
      rintro x rfl
      exact ih (v + 1) (by omega)
  refine ⟨p', rfl, ?_⟩
  rintro x rfl
  exact key k' 0 (by omega)
theorem wa_1 {n : Nat} {t : Nat → Nat} {w : Nat → Bool} {r : Nat → Nat} {L : Nat} {p how : Int32} (h : hp p n = false) : waA n t w r L p how = (-1) := by unfold waA; rw [h]; rfl
theorem wa_2 {n : Nat} {t : Nat → Nat} {w : Nat → Bool} {r : Nat → Nat} {L : Nat} {p how : Int32} (h : hp p n = true) (h2 : isW how = false) : waA n t w r L p how = (-2) := by unfold waA; rw [h, h2]; rfl
theorem wa_3 {n : Nat} {t : Nat → Nat} {w : Nat → Bool} {r : Nat → Nat} {L : Nat} {p how : Int32} (h : hp p n = true) (h2 : isW how = true) (h3 : rdy n t = false) : waA n t w r L p how = (-3) := by unfold waA; rw [h, h2, h3]; rfl
theorem wa_4 {n : Nat} {t : Nat → Nat} {w : Nat → Bool} {r : Nat → Nat} {L : Nat} {p how : Int32} (h : hp p n = true) (h2 : isW how = true) (h3 : rdy n t = true) : waA n t w r L p how = wlV n t w r L (tN p) (tN how) := by unfold waA; rw [h, h2, h3]; rfl
theorem v_X5_walks : V_X5_walks := by
  intro n t w r L p how hn hr
  have h8 := hn.2.1
  refine ⟨fun c => ⟨fun c2 => ⟨hn, fun c3 => (wa_3 c c2 c3).symm, fun c3 => ?_⟩, fun c2 => (wa_2 c c2).symm⟩, fun c => (wa_1 c).symm⟩
  have ans := wa_4 (w := w) (r := r) (L := L) c c2 c3
  obtain ⟨p', hp', rfl⟩ := hp_ok (by omega) c
  obtain ⟨w', hw', rfl⟩ := isW_n c2
  rw [tN_nI (by omega), tN_nI (by omega)] at ans
  exact ⟨p', rfl, w', rfl, hn, hr, hp', hw', ans.symm⟩
theorem fa_2 {n : Nat} {t : Nat → Nat} {w : Nat → Bool} {r : Nat → Nat} {L : Nat} {how : Int32} (h2 : isW how = false) : faA n t w r L how = (-2) := by unfold faA; rw [h2]; rfl
theorem fa_3 {n : Nat} {t : Nat → Nat} {w : Nat → Bool} {r : Nat → Nat} {L : Nat} {how : Int32} (h2 : isW how = true) (h3 : rdy n t = false) : faA n t w r L how = (-3) := by unfold faA; rw [h2, h3]; rfl
theorem fa_4 {n : Nat} {t : Nat → Nat} {w : Nat → Bool} {r : Nat → Nat} {L : Nat} {how : Int32} (h2 : isW how = true) (h3 : rdy n t = true) : faA n t w r L how = nI (flV n t w r L (tN how) n) := by unfold faA; rw [h2, h3]; rfl
theorem v_X5_fails : V_X5_fails := by
  intro n t w r L how hn hr X27 h27
  have h8 := hn.2.1
  refine ⟨fun c2 => ⟨hn, fun c3 => ?_, fun c3 => (fa_3 c2 c3).symm⟩, fun c2 => (fa_2 c2).symm⟩
  have ans := fa_4 (w := w) (r := r) (L := L) c2 c3
  obtain ⟨w', hw', rfl⟩ := isW_n c2
  rw [tN_nI (by omega)] at ans
  have key : ∀ (z v : Nat), v + z = n → X27 (flV n t w r L w' v) v := by
    intro z
    induction z with
    | zero =>
      intro v hv
      obtain rfl : v = n := by omega
      exact h27 _ _ ⟨by omega, by omega, fun _ => ans.symm, fun q => absurd q (by omega)⟩
    | succ z ih =>
      intro v hv
      have nx := ih (v + 1) (by omega)
      unfold flV at nx
      refine h27 _ _ ⟨by omega, by omega, fun q => absurd q (by omega), fun q => ⟨w', rfl, hn, hr, by omega, hw', fun c => ?_, fun c => ⟨by omega, ?_⟩⟩⟩
      · rw [if_neg c] at nx
        exact nx
      · rintro x rfl
        rw [if_pos c] at nx
        exact nx
  exact key n 0 (by omega)
theorem ne_1 {n : Nat} {t : Nat → Nat} {w : Nat → Bool} {p : Int32} (h : hp p n = false) : neA n t w p = (-1) := by unfold neA; rw [h]; rfl
theorem ne_3 {n : Nat} {t : Nat → Nat} {w : Nat → Bool} {p : Int32} (h : hp p n = true) (h3 : rdy n t = false) : neA n t w p = (-3) := by unfold neA; rw [h, h3]; rfl
theorem ne_4 {n : Nat} {t : Nat → Nat} {w : Nat → Bool} {p : Int32} (h : hp p n = true) (h3 : rdy n t = true) : neA n t w p = nI (neS t w (tN p) 32) := by unfold neA; rw [h, h3]; rfl
theorem itw_n {n : Nat} {t : Nat → Nat} {w : Nat → Bool} {i : Nat} (hn : nOK n t) (h : i < 4 * n) : ∀ k, itw t w i k < 4 * n
  | 0 => h
  | k + 1 => wk_n hn (itw_n hn h k)
theorem v_X5_next : V_X5_next := by
  intro n t w p hn X39 h39
  have h8 := hn.2.1
  refine ⟨fun c => ⟨hn, fun c3 => ?_, fun c3 => (ne_3 c c3).symm⟩, fun c => (ne_1 c).symm⟩
  have ans := ne_4 (w := w) c c3
  obtain ⟨p', hp', rfl⟩ := hp_ok (by omega) c
  rw [tN_nI (by omega)] at ans
  have key : ∀ (z v : Nat), v + z = 32 → X39 (itw t w (4 * p') v) (neS t w p' v) v := by
    intro z
    induction z with
    | zero =>
      intro v hv
      obtain rfl : v = 32 := by omega
      exact h39 _ _ _ ⟨by omega, fun _ => ans.symm, fun q => absurd q (by omega)⟩
    | succ z ih =>
      intro v hv
      have ha := itw_n (w := w) hn (show 4 * p' < 4 * n by omega) v
      have ha2 : wk t w 0 (itw t w (4 * p') v) 1 < 4 * n := itw_n (w := w) hn (show 4 * p' < 4 * n by omega) (v + 1)
      refine h39 _ _ _ ⟨by omega, fun q => absurd q (by omega), fun q => ⟨by omega, by omega, by omega, ?_⟩⟩
      rintro x rfl
      refine ⟨by omega, by omega, ?_⟩
      rintro y rfl
      exact ih (v + 1) (by omega)
  refine ⟨p', rfl, ?_⟩
  rintro x rfl
  refine ⟨p', rfl, by omega, ?_⟩
  rintro y rfl
  have k0 := key 32 0 (by omega)
  have e1 : neS t w p' 0 = 1 <<< p' := by
    show 1 <<< (4 * p' / 4) = _
    rw [show 4 * p' / 4 = p' by omega]
  rw [e1] at k0
  exact k0
/-! the reference's walks: the place is the post and the door it came by -/
theorem rwF_in {r r2 : Nat → Nat} {k : Nat} (h : k < 40) : rwF r r2 k = r k := by unfold rwF; rw [if_pos h]
theorem v_X6_after : V_X6_after := by
  intro n t w r L r2 L2 a0 y0 lo dp cl sh fd p how k hn hr X54 h54
  have h8 := hn.2.1
  have hL := hr.1
  unfold B_X6_after_in
  rw [isW_in, show decide (nI 0 ≤ k ∧ k ≤ nI (lnF L L2 0)) = hp k (L + 1) from in_hp (n := L + 1) (by omega) (by omega)]
  refine ⟨hn.1, h8, fun c => ⟨fun c2 => ⟨_, _, (af_2 c (by rw [c2]; rfl)).symm, rfl, rfl⟩, fun c2 => ⟨fun c3 => ⟨hn, fun c5 => ?_, fun c5 => ⟨_, _, (af_3 c (by rw [c2, c3]; rfl) c5).symm, rfl, rfl⟩⟩, fun c3 => ⟨_, _, (af_2 c (by rw [c3, Bool.and_false])).symm, rfl, rfl⟩⟩⟩, fun c => ⟨_, _, (af_1 c).symm, rfl, rfl⟩⟩
  have ans := af_4 (w := w) (r := r) c (show (isW how && hp k (L + 1)) = true by rw [c2, c3]; rfl) c5
  obtain ⟨p', hp', rfl⟩ := hp_ok (by omega) c
  obtain ⟨k', hk', rfl⟩ := hp_ok (by omega) c3
  obtain ⟨w', hw', rfl⟩ := isW_n c2
  rw [tN_nI (by omega), tN_nI (by omega), tN_nI (by omega)] at ans
  have key : ∀ (z v : Nat), v + z = k' → X54 v (aft t w L r w' (4 * p') v / 4) (aft t w L r w' (4 * p') v % 4) := by
    intro z
    induction z with
    | zero =>
      intro v hv
      have ha := aft_n (w := w) (L := L) (r := r) (how := w') hn (show 4 * p' < 4 * n by omega) v
      refine h54 _ _ _ ⟨fun _ => ⟨_, _, ?_, rfl, rfl⟩, fun q => absurd ((nI_leI (by omega) (by omega)).mpr (show k' ≤ v by omega)) q⟩
      rw [ans, ← hv]
      rfl
    | succ z ih =>
      intro v hv
      have ha := aft_n (w := w) (L := L) (r := r) (how := w') hn (show 4 * p' < 4 * n by omega) v
      have e : 4 * (aft t w L r w' (4 * p') v / 4) + aft t w L r w' (4 * p') v % 4 = aft t w L r w' (4 * p') v := by omega
      refine h54 _ _ _ ⟨fun q => absurd ((nI_leI (by omega) (by omega)).mp q) (by omega), fun q => ⟨by omega, w', rfl, hn, c5, by omega, by omega, hw', ?_, ?_⟩⟩
      · rw [rwF_in (by omega)]
        exact hr.2 v (by omega)
      · rw [e, rwF_in (by omega)]
        have nx := ih (v + 1) (by omega)
        have e2 : aft t w L r w' (4 * p') (v + 1) = wk t w w' (aft t w L r w' (4 * p') v) (r v) := by
          show fol t w L r w' (aft t w L r w' (4 * p') v) v = _
          unfold fol
          rw [if_pos (by omega)]
        rw [e2] at nx
        exact nx
  refine ⟨p', rfl, ?_⟩
  have k0 := key k' 0 (by omega)
  have e1 : aft t w L r w' (4 * p') 0 / 4 = p' := by show 4 * p' / 4 = p'; omega
  have e2 : aft t w L r w' (4 * p') 0 % 4 = 0 := by show 4 * p' % 4 = 0; omega
  rw [e1, e2] at k0
  exact k0
theorem v_X6_walkOf : V_X6_walkOf := by
  intro n t w r L r2 L2 a0 y0 lo dp cl sh fd p how hn hr hd hp hh X12 h12
  have h8 := hn.2.1
  have h28 := p28 h8
  have hL := hr.1
  have l0 : lnF L L2 0 = L := rfl
  have key : ∀ (z v : Nat), v + z = L + 1 → srch (fun k => decide (sen (fun j => aft t w L r how (4 * p) j / 4) k = 2 ^ n - 1)) z v = wlV n t w r L p how → ∀ a y, (v ≤ L → a = aft t w L r how (4 * p) v / 4 ∧ y = aft t w L r how (4 * p) v % 4) → ∀ s, (v ≤ L → s = sen (fun j => aft t w L r how (4 * p) j / 4) v) → X12 s v a y := by
    intro z
    induction z with
    | zero =>
      intro v hv e a y hay s hs
      refine h12 _ _ _ _ ⟨by omega, by rw [l0]; omega, fun _ => ⟨_, _, e, rfl, rfl⟩, fun q => absurd q (by rw [l0]; omega)⟩
    | succ z ih =>
      intro v hv e a y hay s hs
      obtain ⟨rfl, rfl⟩ := hay (by omega)
      obtain rfl := hs (by omega)
      have ha := aft_n (w := w) (L := L) (r := r) (how := how) hn (show 4 * p < 4 * n by omega) v
      have ha2 := aft_n (w := w) (L := L) (r := r) (how := how) hn (show 4 * p < 4 * n by omega) (v + 1)
      have hs := sen_lt (f := fun j => aft t w L r how (4 * p) j / 4) (n := n) (fun k => by have := aft_n (w := w) (L := L) (r := r) (how := how) hn (show 4 * p < 4 * n by omega) k; omega) v
      have eq : 4 * (aft t w L r how (4 * p) v / 4) + aft t w L r how (4 * p) v % 4 = aft t w L r how (4 * p) v := by omega
      refine h12 _ _ _ _ ⟨by omega, by rw [l0]; omega, fun q => absurd q (by rw [l0]; omega), fun q => ⟨h8, by omega, by omega, fun c => ⟨by omega, by rw [l0]; omega, fun c2 => ?_, fun c2 => ?_⟩, fun c => ⟨_, _, ?_, rfl, rfl⟩⟩⟩
      · rw [l0] at c2
        refine ih (v + 1) (by omega) ?_ _ _ (fun q => absurd q (by omega)) _ (fun q => absurd q (by omega))
        rw [← e]
        exact (srch_f (decide_eq_false c)).symm
      · rw [l0] at c2
        have e2 : aft t w L r how (4 * p) (v + 1) = wk t w how (aft t w L r how (4 * p) v) (r v) := by
          show fol t w L r how (aft t w L r how (4 * p) v) v = _
          unfold fol
          rw [if_pos (by omega)]
        rw [eq, rwF_in (by omega), ← e2]
        refine ⟨by omega, hn, hd, by omega, by omega, hh, hr.2 v (by omega), by omega, ?_⟩
        rintro x rfl
        refine ih (v + 1) (by omega) ?_ _ _ (fun _ => ⟨rfl, rfl⟩) _ (fun _ => rfl)
        rw [← e]
        exact (srch_f (decide_eq_false c)).symm
      · rw [← e]
        exact (srch_t (decide_eq_true c)).symm
  refine ⟨by omega, ?_⟩
  rintro y rfl
  refine key (L + 1) 0 (by omega) rfl _ _ (fun _ => ⟨?_, ?_⟩) _ (fun _ => ?_)
  · show p = 4 * p / 4; omega
  · show 0 = 4 * p % 4; omega
  · show 1 <<< p = 1 <<< (4 * p / 4)
    rw [show 4 * p / 4 = p by omega]
theorem v_X6_walks : V_X6_walks := by
  intro n t w r L r2 L2 a0 y0 lo dp cl sh fd p how hn hr
  have h8 := hn.2.1
  unfold B_X6_walks_in
  rw [isW_in]
  refine ⟨hn.1, h8, fun c => ⟨fun c2 => ⟨hn, fun c3 => ⟨_, _, (wa_3 c c2 c3).symm, rfl, rfl⟩, fun c3 => ?_⟩, fun c2 => ⟨_, _, (wa_2 c c2).symm, rfl, rfl⟩⟩, fun c => ⟨_, _, (wa_1 c).symm, rfl, rfl⟩⟩
  have ans := wa_4 (w := w) (r := r) (L := L) c c2 c3
  obtain ⟨p', hp', rfl⟩ := hp_ok (by omega) c
  obtain ⟨w', hw', rfl⟩ := isW_n c2
  rw [tN_nI (by omega), tN_nI (by omega)] at ans
  exact ⟨p', rfl, w', rfl, hn, hr, c3, hp', hw', fun a y => ⟨_, _, ans.symm, rfl, rfl⟩⟩
theorem srch_or (P : Nat → Bool) : ∀ m k, k + m < 1000000 → srch P m k = (-6) ∨ ∃ j, k ≤ j ∧ j < k + m ∧ srch P m k = nI j ∧ P j = true
  | 0, k, _ => Or.inl rfl
  | m + 1, k, h => by
    by_cases c : P k = true
    · exact Or.inr ⟨k, by omega, by omega, srch_t c, c⟩
    · have c2 : P k = false := by revert c; cases P k <;> simp
      rw [srch_f c2]
      rcases srch_or P m (k + 1) (by omega) with q | ⟨j, h1, h2, h3, h4⟩
      · exact Or.inl q
      · exact Or.inr ⟨j, by omega, by omega, h3, h4⟩
theorem srch_0 {P : Nat → Bool} {m k : Nat} (h : k + m < 1000000) : 0 ≤ srch P m k ↔ ¬ srch P m k = (-6) := by
  rcases srch_or P m k h with q | ⟨j, h1, h2, h3, h4⟩
  · rw [q]
    exact ⟨fun z => absurd z (by decide), fun z => absurd rfl z⟩
  · rw [h3]
    refine ⟨fun _ z => ?_, fun _ => nI_pos' (by omega)⟩
    have := congrArg Int32.toInt z
    rw [nI_toInt (by omega)] at this
    have e : (-6 : Int32).toInt = -6 := by decide
    omega
theorem v_X6_fails : V_X6_fails := by
  intro n t w r L r2 L2 a0 y0 lo dp cl sh fd how hn hr X26 h26
  have h8 := hn.2.1
  have hL := hr.1
  unfold B_X6_fails_in
  rw [isW_in]
  refine ⟨fun c2 => ⟨hn, fun c3 => ?_, fun c3 => ⟨_, _, (fa_3 c2 c3).symm, rfl, rfl⟩⟩, fun c2 => ⟨_, _, (fa_2 c2).symm, rfl, rfl⟩⟩
  have ans := fa_4 (w := w) (r := r) (L := L) c2 c3
  obtain ⟨w', hw', rfl⟩ := isW_n c2
  rw [tN_nI (by omega)] at ans
  have key : ∀ (z v : Nat), v + z = n → ∀ a y, X26 (flV n t w r L w' v) v a y := by
    intro z
    induction z with
    | zero =>
      intro v hv a y
      obtain rfl : v = n := by omega
      exact h26 _ _ _ _ ⟨by omega, by omega, fun _ => ⟨_, _, ans.symm, rfl, rfl⟩, fun q => absurd q (by omega)⟩
    | succ z ih =>
      intro v hv a y
      have nx := ih (v + 1) (by omega)
      have s0 : 0 ≤ wlV n t w r L v w' ↔ ¬ wlV n t w r L v w' = (-6) := srch_0 (by omega)
      unfold flV at nx
      refine h26 _ _ _ _ ⟨by omega, by omega, fun q => absurd q (by omega), fun q => ⟨w', rfl, hn, hr, c3, by omega, hw', fun a2 y2 => ⟨fun c => ?_, fun c => ⟨by omega, ?_⟩⟩⟩⟩
      · rintro x rfl
        rw [if_neg (s0.mp c)] at nx
        rw [Nat.or_zero]
        exact nx a2 y2
      · rintro x rfl
        rw [if_pos (Classical.byContradiction (fun z => c (s0.mpr z)))] at nx
        exact nx a2 y2
  exact key n 0 (by omega) a0 y0
/-! a walk of more steps than places comes to nothing new -/
theorem pigeon : ∀ (N : Nat) (g : Nat → Nat), (∀ i, i ≤ N → g i < N) → ∃ i j, i < j ∧ j ≤ N ∧ g i = g j
  | 0, g, h => absurd (h 0 (Nat.le_refl _)) (by omega)
  | N + 1, g, h => by
    by_cases c : ∃ j, j ≤ N ∧ g j = g (N + 1)
    · obtain ⟨j, h1, h2⟩ := c
      exact ⟨j, N + 1, by omega, by omega, h2⟩
    · have nt : ∀ j, j ≤ N → g j ≠ g (N + 1) := fun j hj q => c ⟨j, hj, q⟩
      obtain ⟨i, j, h1, h2, h3⟩ := pigeon N (fun i => if g i = N then g (N + 1) else g i) (fun i hi => by
        have a := h i (by omega)
        have b := h (N + 1) (by omega)
        have d := nt i hi
        show (if g i = N then g (N + 1) else g i) < N
        split <;> omega)
      refine ⟨i, j, h1, by omega, ?_⟩
      have a := nt i (by omega)
      have b := nt j h2
      split at h3 <;> split at h3 <;> omega
theorem sen_bit (f : Nat → Nat) (q : Nat) : ∀ k, (sen f k).testBit q = true ↔ ∃ j, j ≤ k ∧ f j = q
  | 0 => by
    show (1 <<< f 0).testBit q = true ↔ _
    rw [Nat.testBit_shiftLeft]
    refine ⟨fun h => ⟨0, Nat.le_refl _, ?_⟩, fun h => ?_⟩
    · rw [Bool.and_eq_true] at h
      have h1 := of_decide_eq_true h.1
      have h2 := h.2
      rw [Nat.testBit_one_eq_true_iff_self_eq_zero] at h2
      omega
    · obtain ⟨j, h1, h2⟩ := h
      obtain rfl : j = 0 := by omega
      rw [h2]
      simp
  | k + 1 => by
    show (sen f k ||| (1 <<< f (k + 1))).testBit q = true ↔ _
    rw [Nat.testBit_or, Bool.or_eq_true, sen_bit f q k, Nat.testBit_shiftLeft]
    refine ⟨fun h => ?_, fun h => ?_⟩
    · rcases h with ⟨j, h1, h2⟩ | h
      · exact ⟨j, by omega, h2⟩
      · rw [Bool.and_eq_true] at h
        have h1 := of_decide_eq_true h.1
        have h2 := h.2
        rw [Nat.testBit_one_eq_true_iff_self_eq_zero] at h2
        exact ⟨k + 1, Nat.le_refl _, by omega⟩
    · obtain ⟨j, h1, h2⟩ := h
      by_cases e : j ≤ k
      · exact Or.inl ⟨j, e, h2⟩
      · obtain rfl : j = k + 1 := by omega
        right
        rw [h2]
        simp
theorem itw_add (t : Nat → Nat) (w : Nat → Bool) (i a : Nat) {b : Nat} (h : itw t w i a = itw t w i b) : ∀ k, itw t w i (a + k) = itw t w i (b + k)
  | 0 => h
  | k + 1 => by
    show wk t w 0 (itw t w i (a + k)) 1 = wk t w 0 (itw t w i (b + k)) 1
    rw [itw_add t w i a h k]
theorem itw_back {n : Nat} {t : Nat → Nat} {w : Nat → Bool} {i : Nat} (hn : nOK n t) (h : i < 4 * n) : ∀ m, ∃ l, l ≤ 31 ∧ itw t w i m = itw t w i l := by
  have h8 := hn.2.1
  obtain ⟨a, b, h1, h2, h3⟩ := pigeon 32 (itw t w i) (fun k _ => by have := itw_n (w := w) hn h k; omega)
  intro m
  induction m using Nat.strongRecOn with
  | _ m ih =>
    by_cases c : m < b
    · exact ⟨m, by omega, rfl⟩
    · have e := itw_add t w i a h3 (m - b)
      rw [show b + (m - b) = m by omega] at e
      obtain ⟨l, l1, l2⟩ := ih (a + (m - b)) (by omega)
      exact ⟨l, l1, by rw [← e, l2]⟩
theorem neS_40 {n : Nat} {t : Nat → Nat} {w : Nat → Bool} {p : Nat} (hn : nOK n t) (h : p < n) : neS t w p 40 = neS t w p 32 := by
  apply Nat.eq_of_testBit_eq
  intro q
  have e : (neS t w p 40).testBit q = true ↔ (neS t w p 32).testBit q = true := by
    unfold neS
    rw [sen_bit, sen_bit]
    refine ⟨fun ⟨j, h1, h2⟩ => ?_, fun ⟨j, h1, h2⟩ => ⟨j, by omega, h2⟩⟩
    obtain ⟨l, l1, l2⟩ := itw_back (w := w) hn (show 4 * p < 4 * n by omega) j
    refine ⟨l, by omega, ?_⟩
    rw [← l2]
    exact h2
  exact Bool.eq_iff_iff.mpr e
theorem v_X6_next : V_X6_next := by
  intro n t w r L r2 L2 a0 y0 lo dp cl sh fd p hn X31 h31
  have h8 := hn.2.1
  refine ⟨hn.1, h8, fun c => ⟨hn, fun c3 => ?_, fun c3 => ⟨_, _, (ne_3 c c3).symm, rfl, rfl⟩⟩, fun c => ⟨_, _, (ne_1 c).symm, rfl, rfl⟩⟩
  have ans := ne_4 (w := w) c c3
  obtain ⟨p', hp', rfl⟩ := hp_ok (by omega) c
  rw [tN_nI (by omega), ← neS_40 hn hp'] at ans
  have key : ∀ (z v : Nat), v + z = 40 → X31 (neS t w p' v) v (itw t w (4 * p') v / 4) (itw t w (4 * p') v % 4) := by
    intro z
    induction z with
    | zero =>
      intro v hv
      obtain rfl : v = 40 := by omega
      exact h31 _ _ _ _ ⟨by omega, fun _ => ⟨_, _, ans.symm, rfl, rfl⟩, fun q => absurd q (by omega)⟩
    | succ z ih =>
      intro v hv
      have ha := itw_n (w := w) hn (show 4 * p' < 4 * n by omega) v
      have ha2 : wk t w 0 (itw t w (4 * p') v) 1 < 4 * n := itw_n (w := w) hn (show 4 * p' < 4 * n by omega) (v + 1)
      have eq : 4 * (itw t w (4 * p') v / 4) + itw t w (4 * p') v % 4 = itw t w (4 * p') v := by omega
      refine h31 _ _ _ _ ⟨by omega, fun q => absurd q (by omega), fun q => ⟨hn, c3, by omega, by omega, by omega, by omega, ?_, ?_⟩⟩
      · rw [eq]; omega
      · rw [eq]
        rintro x rfl
        exact ih (v + 1) (by omega)
  refine ⟨p', rfl, p', rfl, by omega, ?_⟩
  rintro y rfl
  have k0 := key 40 0 (by omega)
  have e1 : neS t w p' 0 = 1 <<< p' := by
    show 1 <<< (4 * p' / 4) = _
    rw [show 4 * p' / 4 = p' by omega]
  have e2 : itw t w (4 * p') 0 / 4 = p' := by show 4 * p' / 4 = p'; omega
  have e3 : itw t w (4 * p') 0 % 4 = 0 := by show 4 * p' % 4 = 0; omega
  rw [e1, e2, e3] at k0
  exact k0
