/-! ===== by hand: looks: classes by an equivalence, finer and finer, until nothing is told apart any more ===== -/
theorem lef_at {R : Nat → Nat → Bool} {p : Nat} : ∀ m q, (∃ r, q ≤ r ∧ r < q + m ∧ R r p = true ∧ (∀ z, q ≤ z → z < r → R z p = false) ∧ lef R p m q = r) ∨ ((∀ z, q ≤ z → z < q + m → R z p = false) ∧ lef R p m q = q + m)
  | 0, q => Or.inr ⟨fun z h1 h2 => absurd h1 (by omega), rfl⟩
  | m + 1, q => by
    by_cases c : R q p = true
    · refine Or.inl ⟨q, by omega, by omega, c, fun z h1 h2 => absurd h1 (by omega), ?_⟩
      show (if R q p = true then q else lef R p m (q + 1)) = q
      rw [if_pos c]
    · have c2 : R q p = false := by revert c; cases R q p <;> simp
      have e : lef R p (m + 1) q = lef R p m (q + 1) := by
        show (if R q p = true then q else lef R p m (q + 1)) = _
        rw [if_neg c]
      rcases lef_at (R := R) (p := p) m (q + 1) with ⟨r, h1, h2, h3, h4, h5⟩ | ⟨h1, h2⟩
      · refine Or.inl ⟨r, by omega, by omega, h3, fun z z1 z2 => ?_, by rw [e]; exact h5⟩
        by_cases ez : z = q
        · rw [ez]; exact c2
        · exact h4 z (by omega) z2
      · refine Or.inr ⟨fun z z1 z2 => ?_, by rw [e, h2]; omega⟩
        by_cases ez : z = q
        · rw [ez]; exact c2
        · exact h1 z (by omega) (by omega)
theorem lea_or (R : Nat → Nat → Bool) (p : Nat) : (lea R p < p ∧ R (lea R p) p = true ∧ ∀ z, z < lea R p → R z p = false) ∨ (lea R p = p ∧ ∀ z, z < p → R z p = false) := by
  unfold lea
  rcases lef_at (R := R) (p := p) p 0 with ⟨r, h1, h2, h3, h4, h5⟩ | ⟨h1, h2⟩
  · left
    rw [h5]
    exact ⟨by omega, h3, fun z hz => h4 z (by omega) hz⟩
  · right
    rw [h2, Nat.zero_add]
    exact ⟨rfl, fun z hz => h1 z (by omega) (by omega)⟩
theorem lea_le (R : Nat → Nat → Bool) (p : Nat) : lea R p ≤ p := by
  rcases lea_or R p with h | h <;> omega
theorem lea_hit {R : Nat → Nat → Bool} {p q : Nat} (hq : q < p) (h : R q p = true) (hn : ∀ z, z < q → R z p = false) : lea R p = q := by
  rcases lea_or R p with ⟨a, b, c⟩ | ⟨a, b⟩
  · by_cases l : lea R p < q
    · rw [hn _ l] at b; cases b
    · by_cases l2 : q < lea R p
      · rw [c q l2] at h; cases h
      · omega
  · rw [b q hq] at h; cases h
theorem lea_none {R : Nat → Nat → Bool} {p : Nat} (hn : ∀ z, z < p → R z p = false) : lea R p = p := by
  rcases lea_or R p with ⟨a, b, c⟩ | ⟨a, b⟩
  · rw [hn _ a] at b; cases b
  · exact a
theorem cnn_le (R : Nat → Nat → Bool) : ∀ k, cnn R k ≤ k
  | 0 => Nat.le_refl _
  | k + 1 => by
    have := cnn_le R k
    unfold cnn
    split <;> omega
theorem cnn_cnt (R : Nat → Nat → Bool) : ∀ k, cnn R k = cnt (fun p => decide (lea R p = p)) k
  | 0 => rfl
  | k + 1 => by
    show cnn R k + (if lea R k = k then 1 else 0) = cnt _ k + (if decide (lea R k = k) = true then 1 else 0)
    rw [cnn_cnt R k]
    by_cases c : lea R k = k
    · rw [if_pos c, if_pos (decide_eq_true c)]
    · rw [if_neg c, if_neg (by simpa using c)]
theorem lbT_lt {R : Nat → Nat → Bool} {k i : Nat} (h : i < k) : lbT R (k + 1) i = lbT R k i := by
  show (if i = k then _ else lbT R k i) = _
  rw [if_neg (by omega)]
theorem lbT_at (R : Nat → Nat → Bool) (k : Nat) : lbT R (k + 1) k = if lea R k < k then lbT R k (lea R k) else cnn R k := by
  show (if k = k then _ else _) = _
  rw [if_pos rfl]
theorem lbT_le (R : Nat → Nat → Bool) : ∀ k i, lbT R k i ≤ k
  | 0, i => Nat.le_refl _
  | k + 1, i => by
    have a := lbT_le R k i
    have b := lbT_le R k (lea R k)
    have c := cnn_le R k
    show (if i = k then (if lea R k < k then lbT R k (lea R k) else cnn R k) else lbT R k i) ≤ _
    split
    · split <;> omega
    · omega
/-- the same relation among the first n gives the same classes -/
theorem lef_congr {R R' : Nat → Nat → Bool} {p : Nat} : ∀ m q, (∀ z, q ≤ z → z < q + m → R z p = R' z p) → lef R p m q = lef R' p m q
  | 0, q, _ => rfl
  | m + 1, q, h => by
    show (if R q p = true then q else lef R p m (q + 1)) = (if R' q p = true then q else lef R' p m (q + 1))
    rw [h q (Nat.le_refl _) (by omega), lef_congr m (q + 1) (fun z z1 z2 => h z (by omega) (by omega))]
theorem lea_congr {R R' : Nat → Nat → Bool} {n p : Nat} (h : ∀ a b, a < n → b < n → R a b = R' a b) (hp : p < n) : lea R p = lea R' p := lef_congr p 0 (fun z _ z2 => h z p (by omega) hp)
theorem cnn_congr {R R' : Nat → Nat → Bool} {n : Nat} (h : ∀ a, a < n → lea R a = lea R' a) : ∀ k, k ≤ n → cnn R k = cnn R' k
  | 0, _ => rfl
  | k + 1, hk => by
    show cnn R k + (if lea R k = k then 1 else 0) = cnn R' k + (if lea R' k = k then 1 else 0)
    rw [cnn_congr h k (by omega), h k (by omega)]
theorem lbT_congr {R R' : Nat → Nat → Bool} {n : Nat} (h : ∀ a, a < n → lea R a = lea R' a) : ∀ k, k ≤ n → lbT R k = lbT R' k
  | 0, _ => rfl
  | k + 1, hk => by
    funext i
    show (if i = k then (if lea R k < k then lbT R k (lea R k) else cnn R k) else lbT R k i) = (if i = k then (if lea R' k < k then lbT R' k (lea R' k) else cnn R' k) else lbT R' k i)
    rw [lbT_congr h k (by omega), h k (by omega), cnn_congr h k (by omega)]
/-! an equivalence among the first n -/
def eqR (n : Nat) (R : Nat → Nat → Bool) : Prop := (∀ a, a < n → R a a = true) ∧ (∀ a b, a < n → b < n → R a b = true → R b a = true) ∧ ∀ a b c, a < n → b < n → c < n → R a b = true → R b c = true → R a c = true
theorem lea_R {n : Nat} {R : Nat → Nat → Bool} (h : eqR n R) {p : Nat} (hp : p < n) : R (lea R p) p = true := by
  rcases lea_or R p with ⟨a, b, c⟩ | ⟨a, b⟩
  · exact b
  · rw [a]; exact h.1 p hp
theorem lea_of {n : Nat} {R : Nat → Nat → Bool} (h : eqR n R) {a b : Nat} (ha : a < n) (hb : b < n) (hab : R a b = true) : lea R a = lea R b := by
  have key : ∀ x y, x < n → y < n → R x y = true → lea R y ≤ lea R x := by
    intro x y hx hy hxy
    apply Nat.le_of_not_lt
    intro q
    have l := lea_le R x
    have r1 := lea_R h hx
    have r2 := h.2.2 _ _ _ (show lea R x < n by omega) hx hy r1 hxy
    rcases lea_or R y with ⟨c1, c2, c3⟩ | ⟨c1, c2⟩
    · rw [c3 _ q] at r2; cases r2
    · rw [c2 _ (by omega)] at r2; cases r2
  have := key a b ha hb hab
  have := key b a hb ha (h.2.1 a b ha hb hab)
  omega
theorem lea_id {n : Nat} {R : Nat → Nat → Bool} (h : eqR n R) {p : Nat} (hp : p < n) : lea R (lea R p) = lea R p := by
  have l := lea_le R p
  exact lea_of h (by omega) hp (lea_R h hp)
theorem lbT_cnn {n : Nat} {R : Nat → Nat → Bool} (h : eqR n R) : ∀ k, k ≤ n → ∀ p, p < k → lbT R k p = cnn R (lea R p)
  | 0, _, p, hp => absurd hp (by omega)
  | k + 1, hk, p, hp => by
    by_cases e : p = k
    · subst e
      rw [lbT_at]
      by_cases c : lea R p < p
      · rw [if_pos c, lbT_cnn h p (by omega) _ c, lea_id h (by omega)]
      · rw [if_neg c]
        have := lea_le R p
        rw [show lea R p = p by omega]
    · rw [lbT_lt (by omega)]
      exact lbT_cnn h k (by omega) p (by omega)
theorem cnn_mono (R : Nat → Nat → Bool) (a : Nat) : ∀ z, cnn R a ≤ cnn R (a + z)
  | 0 => Nat.le_refl _
  | z + 1 => by
    have := cnn_mono R a z
    show _ ≤ cnn R (a + z) + (if lea R (a + z) = a + z then 1 else 0)
    omega
theorem cnn_lt {R : Nat → Nat → Bool} {a b : Nat} (ha : lea R a = a) (h : a < b) : cnn R a < cnn R b := by
  have m := cnn_mono R (a + 1) (b - (a + 1))
  rw [show a + 1 + (b - (a + 1)) = b by omega] at m
  have : cnn R (a + 1) = cnn R a + (if lea R a = a then 1 else 0) := rfl
  rw [if_pos ha] at this
  omega
theorem lb_iff {n : Nat} {R : Nat → Nat → Bool} (h : eqR n R) {a b : Nat} (ha : a < n) (hb : b < n) : lbT R n a = lbT R n b ↔ R a b = true := by
  rw [lbT_cnn h n (Nat.le_refl _) a ha, lbT_cnn h n (Nat.le_refl _) b hb]
  refine ⟨fun q => ?_, fun q => by rw [lea_of h ha hb q]⟩
  have ia := lea_id h ha
  have ib := lea_id h hb
  have e : lea R a = lea R b := by
    by_cases c : lea R a < lea R b
    · have := cnn_lt ia c; omega
    · by_cases d : lea R b < lea R a
      · have := cnn_lt ib d; omega
      · omega
  have la := lea_le R a
  have r1 := lea_R h ha
  have r2 := lea_R h hb
  rw [← e] at r2
  exact h.2.2 _ _ _ ha (show lea R a < n by omega) hb (h.2.1 _ _ (by omega) ha r1) r2
/-! looks at the doors' other ends -/
theorem end_n {n : Nat} {t : Nat → Nat} (hn : nOK n t) (hr : rdy n t = true) {p d : Nat} (hp : p < n) (hd : d < dg t p) : t (4 * p + d) / 4 < n := by
  have := hn.to (ok_in hr hp hd)
  omega
theorem alk_iff {t kd : Nat → Nat} {a b : Nat} : alk t kd a b = true ↔ (kd a = kd b ∧ ∀ d, d < dg t a → t (4 * a + d) % 4 = t (4 * b + d) % 4 ∧ kd (t (4 * a + d) / 4) = kd (t (4 * b + d) / 4)) := by
  unfold alk
  exact decide_eq_true_iff
theorem alk_eq {n : Nat} {t kd : Nat → Nat} (hdg : ∀ a b, a < n → b < n → kd a = kd b → dg t a = dg t b) : eqR n (alk t kd) := by
  refine ⟨fun a ha => alk_iff.mpr ⟨rfl, fun d hd => ⟨rfl, rfl⟩⟩, fun a b ha hb h => ?_, fun a b c ha hb hc h1 h2 => ?_⟩
  · obtain ⟨h1, h2⟩ := alk_iff.mp h
    have e := hdg a b ha hb h1
    exact alk_iff.mpr ⟨h1.symm, fun d hd => ⟨((h2 d (by omega)).1).symm, ((h2 d (by omega)).2).symm⟩⟩
  · obtain ⟨p1, p2⟩ := alk_iff.mp h1
    obtain ⟨q1, q2⟩ := alk_iff.mp h2
    have e := hdg a b ha hb p1
    exact alk_iff.mpr ⟨p1.trans q1, fun d hd => ⟨(p2 d hd).1.trans (q2 d (by omega)).1, (p2 d hd).2.trans (q2 d (by omega)).2⟩⟩
theorem alk_sym {n : Nat} {t kd : Nat → Nat} (hdg : ∀ a b, a < n → b < n → kd a = kd b → dg t a = dg t b) {a b : Nat} (ha : a < n) (hb : b < n) : alk t kd a b = alk t kd b a := Bool.eq_iff_iff.mpr ⟨(alk_eq hdg).2.1 a b ha hb, (alk_eq hdg).2.1 b a hb ha⟩
theorem alk_congr {n : Nat} {t kd kd' : Nat → Nat} (hn : nOK n t) (hr : rdy n t = true) (hdg : ∀ a b, a < n → b < n → kd a = kd b → dg t a = dg t b) (hk : ∀ i, i < n → kd i = kd' i) {a b : Nat} (ha : a < n) (hb : b < n) : alk t kd a b = alk t kd' a b := by
  apply Bool.eq_iff_iff.mpr
  rw [alk_iff, alk_iff, hk a ha, hk b hb]
  have g : kd' a = kd' b → ∀ d, d < dg t a → kd (t (4 * a + d) / 4) = kd' (t (4 * a + d) / 4) ∧ kd (t (4 * b + d) / 4) = kd' (t (4 * b + d) / 4) := by
    intro e d hd
    have e2 := hdg a b ha hb (by rw [hk a ha, hk b hb]; exact e)
    exact ⟨hk _ (end_n hn hr ha hd), hk _ (end_n hn hr hb (by omega))⟩
  refine ⟨fun ⟨h1, h2⟩ => ⟨h1, fun d hd => ⟨(h2 d hd).1, ?_⟩⟩, fun ⟨h1, h2⟩ => ⟨h1, fun d hd => ⟨(h2 d hd).1, ?_⟩⟩⟩
  · rw [← (g h1 d hd).1, ← (g h1 d hd).2]; exact (h2 d hd).2
  · rw [(g h1 d hd).1, (g h1 d hd).2]; exact (h2 d hd).2
def rR (n : Nat) (t : Nat → Nat) : Nat → Nat → Nat → Bool
  | 0 => dgR t
  | k + 1 => alk t (kK n t k)
theorem kK_eq (n : Nat) (t : Nat → Nat) (k : Nat) : kK n t k = lbT (rR n t k) n := by cases k <;> rfl
theorem cK_eq (n : Nat) (t : Nat → Nat) (k : Nat) : cK n t k = cnn (rR n t k) n := by cases k <;> rfl
theorem kK_lt {n : Nat} (h8 : n ≤ 8) (t : Nat → Nat) (k i : Nat) : kK n t k i < 100 := by
  rw [kK_eq]
  have := lbT_le (rR n t k) n i
  omega
theorem cK_le (n : Nat) (t : Nat → Nat) (k : Nat) : cK n t k ≤ n := by
  rw [cK_eq]
  exact cnn_le _ _
theorem rR_ok (n : Nat) (t : Nat → Nat) : ∀ k, eqR n (rR n t k) ∧ ∀ a b, a < n → b < n → kK n t k a = kK n t k b → dg t a = dg t b
  | 0 => by
    have e : eqR n (dgR t) := ⟨fun a _ => decide_eq_true rfl, fun a b _ _ h => decide_eq_true (of_decide_eq_true h).symm, fun a b c _ _ _ h1 h2 => decide_eq_true ((of_decide_eq_true h1).trans (of_decide_eq_true h2))⟩
    exact ⟨e, fun a b ha hb h => of_decide_eq_true ((lb_iff e ha hb).mp h)⟩
  | k + 1 => by
    have ih := rR_ok n t k
    have e : eqR n (alk t (kK n t k)) := alk_eq ih.2
    exact ⟨e, fun a b ha hb h => ih.2 a b ha hb (alk_iff.mp ((lb_iff e ha hb).mp h)).1⟩
theorem rR_fine {n : Nat} {t : Nat → Nat} {k a b : Nat} (ha : a < n) (hb : b < n) (h : rR n t (k + 1) a b = true) : rR n t k a b = true := by
  have := (alk_iff.mp h).1
  rw [kK_eq] at this
  exact (lb_iff (rR_ok n t k).1 ha hb).mp this
theorem first_up {n : Nat} {t : Nat → Nat} {k p : Nat} (hp : p < n) (h : lea (rR n t k) p = p) : lea (rR n t (k + 1)) p = p := by
  apply lea_none
  intro z hz
  cases c : rR n t (k + 1) z p
  · rfl
  · have r := rR_fine (by omega) hp c
    rcases lea_or (rR n t k) p with ⟨a1, _, _⟩ | ⟨_, a2⟩
    · omega
    · rw [a2 z hz] at r; cases r
theorem cK_mono (n : Nat) (t : Nat → Nat) (k : Nat) : cK n t k ≤ cK n t (k + 1) := by
  rw [cK_eq, cK_eq]
  have h : ∀ z, z ≤ n → cnn (rR n t k) z ≤ cnn (rR n t (k + 1)) z := by
    intro z
    induction z with
    | zero => intro _; exact Nat.le_refl _
    | succ z ih =>
      intro hz
      have := ih (by omega)
      show cnn _ z + (if lea (rR n t k) z = z then 1 else 0) ≤ cnn _ z + (if lea (rR n t (k + 1)) z = z then 1 else 0)
      by_cases c : lea (rR n t k) z = z
      · rw [if_pos c, if_pos (first_up (by omega) c)]
        omega
      · rw [if_neg c]
        omega
  exact h n (Nat.le_refl _)
theorem same_first {n : Nat} {t : Nat → Nat} {k : Nat} (h : cK n t (k + 1) = cK n t k) : ∀ p, p < n → lea (rR n t (k + 1)) p = p → lea (rR n t k) p = p := by
  rw [cK_eq, cK_eq] at h
  have key : ∀ z, z ≤ n → cnn (rR n t k) z ≤ cnn (rR n t (k + 1)) z ∧ (cnn (rR n t (k + 1)) z ≤ cnn (rR n t k) z → ∀ p, p < z → lea (rR n t (k + 1)) p = p → lea (rR n t k) p = p) := by
    intro z
    induction z with
    | zero => intro _; exact ⟨Nat.le_refl _, fun _ p hp => absurd hp (by omega)⟩
    | succ z ih =>
      intro hz
      obtain ⟨i1, i2⟩ := ih (by omega)
      have e1 : cnn (rR n t k) (z + 1) = cnn (rR n t k) z + (if lea (rR n t k) z = z then 1 else 0) := rfl
      have e2 : cnn (rR n t (k + 1)) (z + 1) = cnn (rR n t (k + 1)) z + (if lea (rR n t (k + 1)) z = z then 1 else 0) := rfl
      by_cases c : lea (rR n t k) z = z
      · have c2 := first_up (show z < n by omega) c
        rw [if_pos c] at e1
        rw [if_pos c2] at e2
        refine ⟨by omega, fun q p hp hf => ?_⟩
        by_cases e : p = z
        · rw [e]; exact c
        · exact i2 (by omega) p (by omega) hf
      · rw [if_neg c] at e1
        by_cases c2 : lea (rR n t (k + 1)) z = z
        · rw [if_pos c2] at e2
          exact ⟨by omega, fun q => absurd q (by omega)⟩
        · rw [if_neg c2] at e2
          refine ⟨by omega, fun q p hp hf => ?_⟩
          by_cases e : p = z
          · exact absurd (e ▸ hf) c2
          · exact i2 (by omega) p (by omega) hf
  exact (key n (Nat.le_refl _)).2 (by omega)
/-- as many classes one deeper: the same classes -/
theorem same_lea {n : Nat} {t : Nat → Nat} {k : Nat} (h : cK n t (k + 1) = cK n t k) (p : Nat) (hp : p < n) : lea (rR n t (k + 1)) p = lea (rR n t k) p := by
  have e1 := (rR_ok n t (k + 1)).1
  have e0 := (rR_ok n t k).1
  have l := lea_le (rR n t (k + 1)) p
  have f := same_first h _ (show lea (rR n t (k + 1)) p < n by omega) (lea_id e1 hp)
  have r := rR_fine (by omega) hp (lea_R e1 hp)
  rw [← lea_of e0 (by omega) hp r, f]
theorem same_kK {n : Nat} {t : Nat → Nat} {k : Nat} (h : cK n t (k + 1) = cK n t k) : kK n t (k + 1) = kK n t k := by
  rw [kK_eq, kK_eq]
  exact lbT_congr (same_lea h) n (Nat.le_refl _)
theorem stays {n : Nat} {t : Nat → Nat} {k : Nat} (h : cK n t (k + 1) = cK n t k) : ∀ z, kK n t (k + z) = kK n t k ∧ cK n t (k + z) = cK n t k
  | 0 => ⟨rfl, rfl⟩
  | z + 1 => by
    have ih := stays h z
    have e := same_kK h
    have e1 : kK n t (k + (z + 1)) = kK n t (k + 1) := by
      show lbT (alk t (kK n t (k + z))) n = lbT (alk t (kK n t k)) n
      rw [ih.1]
    have e2 : cK n t (k + (z + 1)) = cK n t (k + 1) := by
      show cnn (alk t (kK n t (k + z))) n = cnn (alk t (kK n t k)) n
      rw [ih.1]
    exact ⟨e1.trans e, e2.trans h⟩
theorem cK_grow {n : Nat} {t : Nat → Nat} (h1 : 1 ≤ n) : ∀ k, (∀ j, j < k → ¬ cK n t (j + 1) = cK n t j) → k + 1 ≤ cK n t k
  | 0, _ => by
    rw [cK_eq]
    have m := cnn_mono (rR n t 0) 1 (n - 1)
    rw [show 1 + (n - 1) = n by omega] at m
    have : cnn (rR n t 0) 1 = 0 + (if lea (rR n t 0) 0 = 0 then 1 else 0) := rfl
    rw [if_pos (Nat.le_zero.mp (lea_le _ 0))] at this
    omega
  | k + 1, h => by
    have ih := cK_grow (t := t) h1 k (fun j hj => h j (by omega))
    have m := cK_mono n t k
    have := h k (by omega)
    omega
theorem cK_stop {n : Nat} {t : Nat → Nat} (h1 : 1 ≤ n) (h8 : n ≤ 8) : ∃ k, k ≤ 7 ∧ cK n t (k + 1) = cK n t k := by
  apply Classical.byContradiction
  intro q
  have := cK_grow (n := n) (t := t) h1 8 (fun j hj e => q ⟨j, by omega, e⟩)
  have := cK_le n t 8
  omega
theorem dpF_at {n : Nat} {t : Nat → Nat} : ∀ m k v, k ≤ v → v < k + m → (∀ j, k ≤ j → j < v → ¬ cK n t (j + 1) = cK n t j) → cK n t (v + 1) = cK n t v → dpF n t m k = v
  | 0, k, v, h1, h2, _, _ => absurd h1 (by omega)
  | m + 1, k, v, h1, h2, h3, h4 => by
    show (if cK n t (k + 1) = cK n t k then k else dpF n t m (k + 1)) = v
    by_cases e : k = v
    · subst e
      rw [if_pos h4]
    · rw [if_neg (h3 k (Nat.le_refl _) (by omega))]
      exact dpF_at m (k + 1) v (by omega) (by omega) (fun j j1 j2 => h3 j (by omega) j2) h4
theorem dpF_no {n : Nat} {t : Nat → Nat} : ∀ m k, (∀ j, k ≤ j → j < k + m → ¬ cK n t (j + 1) = cK n t j) → dpF n t m k = k + m
  | 0, k, _ => rfl
  | m + 1, k, h => by
    show (if cK n t (k + 1) = cK n t k then k else dpF n t m (k + 1)) = _
    rw [if_neg (h k (Nat.le_refl _) (by omega)), dpF_no m (k + 1) (fun j j1 j2 => h j (by omega) (by omega))]
    omega
/-! the class's side -/
theorem v_X1_kindOf : V_X1_kindOf := by
  intro kd fi ct n t w p h
  exact ⟨by omega, by omega, fun q => absurd q (by omega), fun _ => ⟨h, rfl⟩⟩
theorem v_X1_staysAlike : V_X1_staysAlike := by
  intro kd fi ct n t w a b hn hr hk ha hb hd X17 h17
  have h8 := hn.2.1
  have da := dg_le t a
  have ka := hk a ha
  have kb := hk b hb
  refine ⟨by omega, by omega, by omega, by omega, fun c => ?_, fun c => (decide_eq_false (fun q => c q.1)).symm⟩
  have e := hd c
  have key : ∀ (z v : Nat), v + z = dg t a → (∀ d, d < v → t (4 * a + d) % 4 = t (4 * b + d) % 4 ∧ kd (t (4 * a + d) / 4) = kd (t (4 * b + d) / 4)) → X17 v := by
    intro z
    induction z with
    | zero =>
      intro v hv hall
      exact h17 _ ⟨by omega, by omega, by omega, fun _ => (decide_eq_true ⟨c, fun d hd => hall d (by omega)⟩).symm, fun q => absurd hv (by omega)⟩
    | succ z ih =>
      intro v hv hall
      have t1 := ok_in hr ha (show v < dg t a by omega)
      have t2 := ok_in hr hb (show v < dg t b by omega)
      have p1 := end_n hn hr ha (show v < dg t a by omega)
      have p2 := end_n hn hr hb (show v < dg t b by omega)
      have k1 := hk _ p1
      have k2 := hk _ p2
      refine h17 _ ⟨by omega, by omega, by omega, fun q => absurd q (by omega), fun _ => ⟨by omega, ?_⟩⟩
      rintro x rfl
      refine ⟨by omega, ?_⟩
      rintro y rfl
      refine ⟨_, aE_in t1, by omega, _, aE_in t2, by omega, by omega, by omega, fun c1 => ?_, fun c1 => ⟨_, aE_in t1, by omega, by omega, _, aE_in t2, by omega, by omega, by omega, by omega, fun c2 => ?_, fun c2 => ?_⟩⟩
      · exact (decide_eq_false (fun q => c1 (q.2 v (by omega)).1)).symm
      · refine ih (v + 1) (by omega) (fun d hd => ?_)
        by_cases ee : d = v
        · rw [ee]; exact ⟨c1, c2⟩
        · exact hall d (by omega)
      · exact (decide_eq_false (fun q => c2 (q.2 v (by omega)).2)).symm
  exact key _ 0 (Nat.zero_add _) (fun d hd => absurd hd (by omega))
theorem v_X1_leastLike : V_X1_leastLike := by
  intro kd fi ct n t w p bd hn hr hk hp hd X2 h2
  have h8 := hn.2.1
  have key : ∀ (z v : Nat), v + z = p → (∀ q, q < v → rel t kd bd q p = false) → X2 v := by
    intro z
    induction z with
    | zero =>
      intro v hv hall
      refine h2 _ ⟨by omega, by omega, fun _ => (lea_none (fun q hq => hall q (by omega))).symm, fun q => absurd hv (by omega)⟩
    | succ z ih =>
      intro v hv hall
      have d1 := dg_le t v
      have d2 := dg_le t p
      have nx : rel t kd bd v p = false → X2 (v + 1) := fun hf => ih (v + 1) (by omega) (fun q hq => by
        by_cases e : q = v
        · rw [e]; exact hf
        · exact hall q (by omega))
      refine h2 _ ⟨by omega, by omega, fun q => absurd q (by omega), fun _ => ⟨fun c => ⟨hn, hr, hk, by omega, hp, hd c v p (by omega) hp, fun c2 => nx ?_, fun c2 => (lea_hit (by omega) ?_ hall).symm⟩, fun c => ⟨by omega, by omega, by omega, by omega, fun c2 => nx ?_, fun c2 => (lea_hit (by omega) ?_ hall).symm⟩⟩⟩
      · rw [c]; exact c2
      · rw [c]; exact c2
      · rw [c]; exact decide_eq_false c2
      · rw [c]; exact decide_eq_true c2
  exact key p 0 (by omega) (fun q hq => absurd hq (by omega))
theorem v_X1_split : V_X1_split := by
  intro kd fi ct n t w bd hn hr hk hd X7 X86 h7 h86
  have h8 := hn.2.1
  have l86 : ∀ (z v : Nat) (k f : Nat → Nat), v + z = 8 → (∀ i, i < n → f i = lbT (rel t kd bd) n i) → (∀ i, i < v → k i = f i) → X86 v k f (cnn (rel t kd bd) n) := by
    intro z
    induction z with
    | zero =>
      intro v k f hv hf hkf
      have fin : (∃ kd9 : Nat → Nat, ∃ fi9 : Nat → Nat, (∀ i, i < n → kd9 i = lbT (rel t kd bd) n i) ∧ (∀ zi, zi < 8 → k zi = kd9 zi) ∧ (∀ zi, zi < 8 → f zi = fi9 zi) ∧ (cnn (rel t kd bd) n = cnn (rel t kd bd) n)) := ⟨k, f, fun i hi => by rw [hkf i (by omega)]; exact hf i hi, fun _ _ => rfl, fun _ _ => rfl, rfl⟩
      exact h86 _ _ _ _ ⟨by omega, fun _ => fin, fun q => absurd hv (by omega)⟩
    | succ z ih =>
      intro v k f hv hf hkf
      refine h86 _ _ _ _ ⟨by omega, fun q => absurd q (by omega), fun _ => ⟨by omega, fun q => absurd q (by omega), fun _ => ⟨by omega, by omega, ?_⟩⟩⟩
      refine ih (v + 1) _ f (by omega) hf (fun i hi => ?_)
      by_cases e : i = v
      · rw [e]; exact upN_eq _ _ _
      · rw [upN_ne _ e]; exact hkf i (by omega)
  have l7 : ∀ (z v : Nat) (f : Nat → Nat), v + z = n → (∀ i, i < v → f i = lbT (rel t kd bd) v i) → X7 v kd f (cnn (rel t kd bd) v) := by
    intro z
    induction z with
    | zero =>
      intro v f hv hf
      obtain rfl : v = n := by omega
      exact h7 _ _ _ _ ⟨by omega, by omega, fun _ => l86 8 0 kd f (by omega) hf (fun i hi => absurd hi (by omega)), fun q => absurd q (by omega)⟩
    | succ z ih =>
      intro v f hv hf
      have l := lea_le (rel t kd bd) v
      have cc : cnn (rel t kd bd) (v + 1) = cnn (rel t kd bd) v + (if lea (rel t kd bd) v = v then 1 else 0) := rfl
      refine h7 _ _ _ _ ⟨by omega, by omega, fun q => absurd q (by omega), fun _ => ⟨by omega, fun q => absurd q (by omega), fun _ => ⟨hn, hr, hk, by omega, hd, ?_⟩⟩⟩
      rintro x rfl
      refine ⟨by omega, by omega, fun c => ⟨by omega, ?_⟩, fun c => ⟨by omega, by omega, by omega, ?_⟩⟩
      · rw [if_pos (by omega)] at cc
        rw [← cc]
        refine ih (v + 1) _ (by omega) (fun i hi => ?_)
        by_cases e : i = v
        · rw [e, upN_eq, lbT_at, if_neg (by omega)]
        · rw [upN_ne _ e, lbT_lt (by omega)]
          exact hf i (by omega)
      · have cc2 : cnn (rel t kd bd) (v + 1) = cnn (rel t kd bd) v := by rw [cc, if_neg (by omega)]; rfl
        rw [← cc2]
        refine ih (v + 1) _ (by omega) (fun i hi => ?_)
        by_cases e : i = v
        · rw [e, upN_eq, lbT_at, if_pos (by omega)]
          exact hf _ (by omega)
        · rw [upN_ne _ e, lbT_lt (by omega)]
          exact hf i (by omega)
  exact l7 n 0 fi (by omega) (fun i hi => absurd hi (by omega))
theorem v_X1_lookAtDegrees : V_X1_lookAtDegrees := by
  intro kd fi ct n t w hn hr X2 h2
  have h8 := hn.2.1
  have key : ∀ (z v : Nat) (k : Nat → Nat), v + z = 8 → (∀ i, i < v → k i = 0) → X2 v k fi ct := by
    intro z
    induction z with
    | zero =>
      intro v k hv hk
      refine h2 _ _ _ _ ⟨by omega, fun _ => ⟨hn, hr, fun i hi => by rw [hk i (by omega)]; decide, fun q => (by cases q), fun k9 f9 h9 => ⟨k9, f9, h9, fun _ _ => rfl, fun _ _ => rfl, rfl⟩⟩, fun q => absurd hv (by omega)⟩
    | succ z ih =>
      intro v k hv hk
      refine h2 _ _ _ _ ⟨by omega, fun q => absurd q (by omega), fun _ => ⟨by omega, ?_⟩⟩
      refine ih (v + 1) _ (by omega) (fun i hi => ?_)
      by_cases e : i = v
      · rw [e]; exact upN_eq _ _ _
      · rw [upN_ne _ e]; exact hk i (by omega)
  exact key 8 0 kd (by omega) (fun i hi => absurd hi (by omega))
theorem kd_dg {n : Nat} {t kd : Nat → Nat} {k : Nat} (hk : ∀ i, i < n → kd i = kK n t k i) : ∀ a b, a < n → b < n → kd a = kd b → dg t a = dg t b := by
  intro a b ha hb h
  rw [hk a ha, hk b hb] at h
  exact (rR_ok n t k).2 a b ha hb h
theorem kd_next {n : Nat} {t kd : Nat → Nat} {k : Nat} (hn : nOK n t) (hr : rdy n t = true) (hk : ∀ i, i < n → kd i = kK n t k i) : (lbT (alk t kd) n = kK n t (k + 1)) ∧ cnn (alk t kd) n = cK n t (k + 1) := by
  have c : ∀ a b, a < n → b < n → alk t kd a b = alk t (kK n t k) a b := fun a b ha hb => alk_congr hn hr (kd_dg hk) hk ha hb
  exact ⟨lbT_congr (fun a ha => lea_congr c ha) n (Nat.le_refl _), cnn_congr (fun a ha => lea_congr c ha) n (Nat.le_refl _)⟩
theorem v_X1_lookDeeper : V_X1_lookDeeper := by
  intro kd fi ct n t w k hn hr hk
  have h8 := hn.2.1
  obtain ⟨e1, e2⟩ := kd_next hn hr hk
  refine ⟨hn, hr, fun i hi => by rw [hk i hi]; exact kK_lt h8 t k i, fun _ => kd_dg hk, fun k9 f9 h9 => ⟨k9, f9, fun i hi => ?_, fun _ _ => rfl, fun _ _ => rfl, e2⟩⟩
  rw [h9 i hi]
  exact congrFun e1 i
theorem v_X1_lookTo : V_X1_lookTo := by
  intro kd fi ct n t w d hn hr hd X6 h6
  have h8 := hn.2.1
  have key : ∀ (z v : Nat) (k f : Nat → Nat), v + z = d → (∀ i, i < n → k i = kK n t v i) → (∀ j, j < v → ¬ cK n t (j + 1) = cK n t j) → X6 v k f (cK n t v) := by
    intro z
    induction z with
    | zero =>
      intro v k f hv hk hno
      obtain rfl : v = d := by omega
      refine h6 _ _ _ _ ⟨by omega, by omega, fun _ => ⟨k, f, hk, ?_, fun _ _ => rfl, fun _ _ => rfl, rfl⟩, fun q => absurd q (by omega)⟩
      rw [dpF_no v 0 (fun j _ j2 => hno j (by omega)), Nat.zero_add]
    | succ z ih =>
      intro v k f hv hk hno
      have c1 := cK_le n t v
      have c2 := cK_le n t (v + 1)
      refine h6 _ _ _ _ ⟨by omega, by omega, fun q => absurd q (by omega), fun _ => ⟨v, hn, hr, hk, fun k9 f9 h9 => ⟨by omega, by omega, fun c => ?_, fun c => ⟨k9, f9, ?_, ?_, fun _ _ => rfl, fun _ _ => rfl, ?_⟩⟩⟩⟩
      · refine ih (v + 1) k9 f9 (by omega) h9 (fun j hj => ?_)
        by_cases e : j = v
        · rw [e]; exact c
        · exact hno j (by omega)
      · intro i hi
        have s1 := (stays c (d - v)).1
        rw [show v + (d - v) = d by omega] at s1
        rw [h9 i hi, s1, same_kK c]
      · exact (dpF_at d 0 v (by omega) (by omega) (fun j _ j2 => hno j j2) c).symm
      · have s1 := (stays c (d - v)).2
        rw [show v + (d - v) = d by omega] at s1
        rw [s1, c]
  exact ⟨hn, hr, fun k9 f9 h9 => key d 0 k9 f9 (by omega) h9 (fun j hj => absurd hj (by omega))⟩
theorem v_X1_depthApart : V_X1_depthApart := by
  intro kd fi ct n t w a b hn hr ha hb X6 h6
  have h8 := hn.2.1
  have key : ∀ (z v : Nat) (k f : Nat → Nat), v + z = 8 → (∀ i, i < n → k i = kK n t v i) → srch (fun k => decide (¬ kK n t k a = kK n t k b)) z v = apV n t a b → X6 v k f (cK n t v) := by
    intro z
    induction z with
    | zero =>
      intro v k f hv hk e
      exact h6 _ _ _ _ ⟨by omega, fun _ => ⟨k, f, _, e, fun _ _ => rfl, fun _ _ => rfl, rfl⟩, fun q => absurd hv (by omega)⟩
    | succ z ih =>
      intro v k f hv hk e
      have ka := kK_lt h8 t v a
      have kb := kK_lt h8 t v b
      have ea := hk a ha
      have eb := hk b hb
      refine h6 _ _ _ _ ⟨by omega, fun q => absurd q (by omega), fun _ => ⟨by omega, by omega, by omega, by omega, fun c => ⟨v, hn, hr, hk, fun k9 f9 h9 => ?_⟩, fun c => ⟨k, f, _, ?_, fun _ _ => rfl, fun _ _ => rfl, rfl⟩⟩⟩
      · refine ih (v + 1) k9 f9 (by omega) h9 ?_
        rw [← e]
        refine (srch_f (decide_eq_false ?_)).symm
        rw [← ea, ← eb]
        exact fun q => q c
      · rw [← e]
        refine (srch_t (decide_eq_true ?_)).symm
        rw [← ea, ← eb]
        exact c
  exact ⟨hn, hr, fun k9 f9 h9 => key 8 0 k9 f9 (by omega) h9 rfl⟩
