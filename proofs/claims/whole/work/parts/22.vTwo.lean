/-! ===== by hand: two walkers, and the latest meeting ===== -/
theorem me_1 {n : Nat} {t : Nat → Nat} {w : Nat → Bool} {r : Nat → Nat} {L : Nat} {r2 : Nat → Nat} {L2 : Nat} {a b d : Int32} {o : Bool} (h : (hp a n && hp b n) = false) : meA n t w r L r2 L2 a b d o = (-1) := by unfold meA; rw [h]; rfl
theorem me_2 {n : Nat} {t : Nat → Nat} {w : Nat → Bool} {r : Nat → Nat} {L : Nat} {r2 : Nat → Nat} {L2 : Nat} {a b d : Int32} {o : Bool} (h : (hp a n && hp b n) = true) (h2 : hp d 21 = false) : meA n t w r L r2 L2 a b d o = (-2) := by unfold meA; rw [h, h2]; rfl
theorem me_3 {n : Nat} {t : Nat → Nat} {w : Nat → Bool} {r : Nat → Nat} {L : Nat} {r2 : Nat → Nat} {L2 : Nat} {a b d : Int32} {o : Bool} (h : (hp a n && hp b n) = true) (h2 : hp d 21 = true) (h3 : rdy n t = false) : meA n t w r L r2 L2 a b d o = (-3) := by unfold meA; rw [h, h2, h3]; rfl
theorem me_4 {n : Nat} {t : Nat → Nat} {w : Nat → Bool} {r : Nat → Nat} {L : Nat} {r2 : Nat → Nat} {L2 : Nat} {a b d : Int32} {o : Bool} (h : (hp a n && hp b n) = true) (h2 : hp d 21 = true) (h3 : rdy n t = true) : meA n t w r L r2 L2 a b d o = mtV t w L r (if o = true then L2 else L) (if o = true then r2 else r) (tN a) (tN b) (tN d) := by unfold meA; rw [h, h2, h3]; rfl
theorem wo_2 {n : Nat} {t : Nat → Nat} {w : Nat → Bool} {r : Nat → Nat} {L : Nat} {r2 : Nat → Nat} {L2 : Nat} {q : Int32} {o : Bool} (h2 : hp q 21 = false) : woP n t w r L r2 L2 q o (-2) := by unfold woP; rw [h2]; rfl
theorem wo_3 {n : Nat} {t : Nat → Nat} {w : Nat → Bool} {r : Nat → Nat} {L : Nat} {r2 : Nat → Nat} {L2 : Nat} {q : Int32} {o : Bool} (h2 : hp q 21 = true) (h3 : rdy n t = false) : woP n t w r L r2 L2 q o (-3) := by unfold woP; rw [h2, h3]; rfl
theorem wo_4 {n : Nat} {t : Nat → Nat} {w : Nat → Bool} {r : Nat → Nat} {L : Nat} {r2 : Nat → Nat} {L2 : Nat} {q z : Int32} {o : Bool} (h2 : hp q 21 = true) (h3 : rdy n t = true) (h4 : wsP n (tN q) (mtV t w L r (if o = true then L2 else L) (if o = true then r2 else r)) z) : woP n t w r L r2 L2 q o z := by unfold woP; rw [h2, h3]; exact h4
theorem mp2_n {n : Nat} {t : Nat → Nat} {w : Nat → Bool} {L2 : Nat} {r2 : Nat → Nat} {d b : Nat} (hn : nOK n t) (h : b < n) : ∀ k, mp2 t w L2 r2 d b k < 4 * n
  | 0 => by show 4 * b < 4 * n; omega
  | k + 1 => by
    have ih := mp2_n (w := w) (L2 := L2) (r2 := r2) (d := d) hn h k
    show (if d ≤ k then fol t w L2 r2 0 (mp2 t w L2 r2 d b k) (k - d) else mp2 t w L2 r2 d b k) < _
    split
    · exact fol_n hn ih
    · exact ih
theorem mt_or {t : Nat → Nat} {w : Nat → Bool} {L : Nat} {r : Nat → Nat} {L3 : Nat} {r3 : Nat → Nat} {a b d : Nat} (hL : L ≤ 40) (hL3 : L3 ≤ 40) (hd : d ≤ 20) : mtV t w L r L3 r3 a b d = (-6) ∨ ∃ j, j ≤ 100 ∧ mtV t w L r L3 r3 a b d = nI j := by
  have hm : (if L < d + L3 then d + L3 else L) ≤ 60 := by split <;> omega
  rcases srch_or (fun k => decide (aft t w L r 0 (4 * a) k / 4 = mp2 t w L3 r3 d b k / 4)) ((if L < d + L3 then d + L3 else L) + 1) 0 (by omega) with h | ⟨j, j1, j2, j3, _⟩
  · exact Or.inl h
  · exact Or.inr ⟨j, by omega, j3⟩
theorem v_X5_meetingStep : V_X5_meetingStep := by
  intro n t w r L r3 L3 a b d hn hr hr3 ha hb hd X36 h36
  have h8 := hn.2.1
  have hL := hr.1
  have hL3 := hr3.1
  have hm : (if L < d + L3 then d + L3 else L) ≤ 60 := by split <;> omega
  have key : ∀ (z v : Nat), v + z = (if L < d + L3 then d + L3 else L) + 1 → srch (fun k => decide (aft t w L r 0 (4 * a) k / 4 = mp2 t w L3 r3 d b k / 4)) z v = mtV t w L r L3 r3 a b d → X36 (aft t w L r 0 (4 * a) v) (mp2 t w L3 r3 d b v) (if L < d + L3 then d + L3 else L) v := by
    intro z
    induction z with
    | zero =>
      intro v hv e
      exact h36 _ _ _ _ ⟨by omega, by omega, fun _ => e, fun q => absurd hv (by omega)⟩
    | succ z ih =>
      intro v hv e
      have n1 := aft_n (w := w) (L := L) (r := r) (how := 0) hn (show 4 * a < 4 * n by omega) v
      have n2 := mp2_n (w := w) (L2 := L3) (r2 := r3) (d := d) hn hb v
      refine h36 _ _ _ _ ⟨by omega, by omega, fun q => absurd hv (by omega), fun _ => ⟨by omega, by omega, by omega, by omega, fun c => ⟨by omega, hr, by omega, ?_⟩, fun c => ?_⟩⟩
      · rintro x rfl
        refine ⟨by omega, hr3, by omega, ?_⟩
        rintro y rfl
        rw [folI_n (by omega) (by omega)]
        have e2 : folI t w L3 r3 0 (mp2 t w L3 r3 d b v) (nI v - nI d) = mp2 t w L3 r3 d b (v + 1) := by
          show _ = (if d ≤ v then fol t w L3 r3 0 (mp2 t w L3 r3 d b v) (v - d) else mp2 t w L3 r3 d b v)
          by_cases c2 : d ≤ v
          · rw [if_pos c2, pk_sub c2, folI_n (by omega) (by omega)]
          · rw [if_neg c2]
            unfold folI
            rw [hp_lt0 (pk_sneg (by omega) (by omega))]
            rfl
        rw [e2]
        refine ih (v + 1) (by omega) ?_
        rw [← e]
        exact (srch_f (decide_eq_false c)).symm
      · rw [← e]
        exact (srch_t (decide_eq_true c)).symm
  rintro x rfl y rfl
  refine ⟨by omega, by omega, ?_⟩
  rintro m rfl
  exact key _ 0 (Nat.zero_add _) rfl
theorem nI_m6 {k : Nat} (h : k < 2147483648) : ¬ nI k = (-6) := by
  intro q
  have h1 := nI_pos' h
  rw [q] at h1
  exact absurd h1 (by decide)
theorem v_X5_latestMeeting : V_X5_latestMeeting := by
  intro n t w r L r3 L3 a b q hn hr hr3 ha hb hq X6 h6
  have hL := hr.1
  have hL3 := hr3.1
  have key : ∀ (z d v : Nat), d + z = q + 1 → v ≤ 100 → (∀ d', d' < d → ∃ u : Nat, u ≤ v ∧ mtV t w L r L3 r3 a b d' = nI u) → (v = 0 ∨ ∃ d', d' ≤ q ∧ mtV t w L r L3 r3 a b d' = nI v) → X6 v d := by
    intro z
    induction z with
    | zero =>
      intro d v hd hv hall hex
      exact h6 _ _ ⟨by omega, by omega, fun _ => ⟨nI v, Or.inr ⟨v, rfl, hv, fun d' hd' => hall d' (by omega), hex⟩, rfl⟩, fun c => absurd hd (by omega)⟩
    | succ z ih =>
      intro d v hd hv hall hex
      refine h6 _ _ ⟨by omega, by omega, fun c => absurd hd (by omega), fun _ => ⟨hn, hr, hr3, ha, hb, by omega, ?_⟩⟩
      rintro x rfl
      rcases mt_or (t := t) (w := w) (r := r) (r3 := r3) (a := a) (b := b) hL hL3 (show d ≤ 20 by omega) with e | ⟨j, j1, e⟩
      · exact ⟨fun c => absurd e c, fun _ => ⟨(-6), Or.inl ⟨rfl, d, by omega, e⟩, rfl⟩⟩
      · refine ⟨fun _ => ?_, fun c => absurd (e.symm.trans c) (nI_m6 (by omega))⟩
        rintro y rfl
        rw [e, n_max (by omega) (by omega)]
        refine ⟨_, rfl, ?_⟩
        by_cases c : v < j
        · rw [if_pos c]
          refine ih (d + 1) j (by omega) (by omega) (fun d' hd' => ?_) (Or.inr ⟨d, by omega, e⟩)
          by_cases ee : d' = d
          · rw [ee]; exact ⟨j, Nat.le_refl _, e⟩
          · obtain ⟨u, u1, u2⟩ := hall d' (by omega)
            exact ⟨u, by omega, u2⟩
        · rw [if_neg c]
          refine ih (d + 1) v (by omega) (by omega) (fun d' hd' => ?_) hex
          by_cases ee : d' = d
          · rw [ee]; exact ⟨j, by omega, e⟩
          · exact hall d' (by omega)
  exact key (q + 1) 0 0 (by omega) (by omega) (fun d' hd' => absurd hd' (by omega)) (Or.inl rfl)
theorem v_X5_meet : V_X5_meet := by
  intro n t w r L r2 L2 a b d o hn hr hr2
  have h8 := hn.2.1
  refine ⟨fun c => (me_1 (by rw [c]; rfl)).symm, fun c => ⟨fun c2 => ⟨fun c3 => (me_2 (by rw [c, c2]; rfl) (hp_lt0 c3)).symm, fun c3 => ⟨fun c4 => ?_, fun c4 => (me_2 (by rw [c, c2]; rfl) (hpN (L := 20) (by omega) c4)).symm⟩⟩, fun c2 => (me_1 (by rw [c, c2]; rfl)).symm⟩⟩
  have hd := hpS (L := 20) (by omega) c3 c4
  refine ⟨hn, fun c5 => (me_3 (by rw [c, c2]; rfl) hd c5).symm, fun c5 => ?_⟩
  have ans := me_4 (w := w) (r := r) (L := L) (r2 := r2) (L2 := L2) (a := a) (b := b) (o := o) (by rw [c, c2]; rfl) hd c5
  obtain ⟨a', ha', rfl⟩ := hp_ok (by omega) c
  obtain ⟨b', hb', rfl⟩ := hp_ok (by omega) c2
  obtain ⟨d', hd', rfl⟩ := hp_ok (by omega) hd
  rw [tN_nI (by omega), tN_nI (by omega), tN_nI (by omega)] at ans
  refine ⟨fun e => ⟨rfl, a', rfl, b', rfl, d', rfl, hn, hr, hr2, ha', hb', by omega, ?_⟩, fun e => ⟨rfl, a', rfl, b', rfl, d', rfl, hn, hr, hr, ha', hb', by omega, ?_⟩⟩
  · subst e; exact ans.symm
  · subst e; exact ans.symm
/-! the latest over all pairs, class -/
def wiP (n q : Nat) (Mt : Nat → Nat → Nat → Int32) (S : Nat → Nat → Nat → Prop) (v : Nat) : Prop := (∀ a b d, a < n → b < n → a ≠ b → d ≤ q → S a b d → ∃ u : Nat, u ≤ v ∧ Mt a b d = nI u) ∧ (v = 0 ∨ ∃ a b d, a < n ∧ b < n ∧ a ≠ b ∧ d ≤ q ∧ Mt a b d = nI v) ∧ v ≤ 100
theorem wiP_end {n q : Nat} {Mt : Nat → Nat → Nat → Int32} {S : Nat → Nat → Nat → Prop} {v : Nat} (h : wiP n q Mt S v) (hS : ∀ a b d, a < n → b < n → a ≠ b → d ≤ q → S a b d) : wsP n q Mt (nI v) := Or.inr ⟨v, rfl, fun a b d ha hb hab hd => h.1 a b d ha hb hab hd (hS a b d ha hb hab hd), h.2.1, h.2.2⟩
theorem wiP_keep {n q : Nat} {Mt : Nat → Nat → Nat → Int32} {S S' : Nat → Nat → Nat → Prop} {v : Nat} (h : wiP n q Mt S v) (hS : ∀ a b d, a < n → b < n → a ≠ b → d ≤ q → S' a b d → S a b d ∨ ∃ u : Nat, u ≤ v ∧ Mt a b d = nI u) : wiP n q Mt S' v := ⟨fun a b d ha hb hab hd s => (hS a b d ha hb hab hd s).elim (h.1 a b d ha hb hab hd) id, h.2.1, h.2.2⟩
theorem wiP_more {n q : Nat} {Mt : Nat → Nat → Nat → Int32} {S S' : Nat → Nat → Nat → Prop} {v j : Nat} (h : wiP n q Mt S v) (hj : v ≤ j) (h1 : j ≤ 100) (hw : ∃ a b d, a < n ∧ b < n ∧ a ≠ b ∧ d ≤ q ∧ Mt a b d = nI j) (hS : ∀ a b d, a < n → b < n → a ≠ b → d ≤ q → S' a b d → S a b d ∨ ∃ u : Nat, u ≤ j ∧ Mt a b d = nI u) : wiP n q Mt S' j := ⟨fun a b d ha hb hab hd s => (hS a b d ha hb hab hd s).elim (fun s2 => by
  obtain ⟨u, u1, u2⟩ := h.1 a b d ha hb hab hd s2
  exact ⟨u, by omega, u2⟩) id, Or.inr hw, h1⟩
theorem m0_6 : ¬ nI 0 = (-6) := by decide
theorem wo_step {n q : Nat} {Mt : Nat → Nat → Nat → Int32} {a b v : Nat} {y : Int32} {X : Nat → Nat → Nat → Prop} {Z : Int32 → Prop} (ha : a < n) (hb : b < n) (hab : ¬ a = b) (hy : laP q (Mt a b) y) (hv : wiP n q Mt (fun a' b' _ => a' < a ∨ (a' = a ∧ b' < b)) v) (hX : ∀ v', wiP n q Mt (fun a' b' _ => a' < a ∨ (a' = a ∧ b' < b + 1)) v' → X v' a (b + 1)) (hZ : wsP n q Mt (-6) → Z (-6)) :
    ((¬ y = (-6)) → (∀ zx18 : Int32, zx18 = (if nI v < y then y else nI v) → (∃ zk19 : Nat, zx18 = nI zk19 ∧ X zk19 a (b + 1)))) ∧ ((y = (-6)) → Z (-6)) := by
  have hv100 := hv.2.2
  rcases hy with ⟨e, d, hd, ed⟩ | ⟨u, e, hu, hall, hex⟩
  · exact ⟨fun c => absurd e c, fun _ => hZ (Or.inl ⟨rfl, a, b, d, ha, hb, hab, hd, ed⟩)⟩
  · refine ⟨fun _ => ?_, fun c => absurd (e.symm.trans c) (nI_m6 (by omega))⟩
    rintro x rfl
    rw [e, n_max (by omega) (by omega)]
    refine ⟨_, rfl, hX _ ?_⟩
    have sp : ∀ a' b', (a' < a ∨ (a' = a ∧ b' < b + 1)) → (a' < a ∨ (a' = a ∧ b' < b)) ∨ (a' = a ∧ b' = b) := by intro a' b' h; omega
    by_cases c : v < u
    · rw [if_pos c]
      refine wiP_more hv (by omega) hu ?_ (fun a' b' d' _ _ _ hd' s => ?_)
      · rcases hex with h0 | ⟨d, hd, ed⟩
        · exact absurd c (by omega)
        · exact ⟨a, b, d, ha, hb, hab, hd, ed⟩
      · rcases sp a' b' s with s | ⟨e1, e2⟩
        · exact Or.inl s
        · subst e1; subst e2; exact Or.inr (hall d' hd')
    · rw [if_neg c]
      refine wiP_keep hv (fun a' b' d' _ _ _ hd' s => ?_)
      rcases sp a' b' s with s | ⟨e1, e2⟩
      · exact Or.inl s
      · subst e1; subst e2
        obtain ⟨u', u1, u2⟩ := hall d' hd'
        exact Or.inr ⟨u', by omega, u2⟩
theorem v_X5_worst : V_X5_worst := by
  intro n t w r L r2 L2 q o hn hr hr2 X31 X46 h31 h46
  have h8 := hn.2.1
  refine ⟨fun c3 => ⟨_, wo_2 (hp_lt0 c3), rfl⟩, fun c3 => ⟨fun c4 => ?_, fun c4 => ⟨_, wo_2 (hpN (L := 20) (by omega) c4), rfl⟩⟩⟩
  have hd := hpS (L := 20) (by omega) c3 c4
  refine ⟨hn, fun c5 => ?_, fun c5 => ⟨_, wo_3 hd c5, rfl⟩⟩
  have ans := fun z h => wo_4 (w := w) (r := r) (L := L) (r2 := r2) (L2 := L2) (z := z) (o := o) hd c5 h
  obtain ⟨q', hq', rfl⟩ := hp_ok (by omega) hd
  rw [tN_nI (by omega)] at ans
  have key : ∀ (z v a : Nat), a + z = n → wiP n q' (mtV t w L r (if o = true then L2 else L) (if o = true then r2 else r)) (fun a' b' _ => a' < a ∨ (a' = a ∧ b' < 0)) v → X31 v a := by
    intro z
    induction z with
    | zero =>
      intro v a hz hv
      exact h31 _ _ ⟨by omega, by omega, fun _ => ⟨nI v, ans _ (wiP_end hv (fun a' b' d' ha' _ _ _ => Or.inl (by omega))), rfl⟩, fun c => absurd hz (by omega)⟩
    | succ z ih =>
      intro v a hz hv
      refine h31 _ _ ⟨by omega, by omega, fun c => absurd hz (by omega), fun _ => ?_⟩
      have inn : ∀ (z2 v b : Nat), b + z2 = n → wiP n q' (mtV t w L r (if o = true then L2 else L) (if o = true then r2 else r)) (fun a' b' _ => a' < a ∨ (a' = a ∧ b' < b)) v → X46 v a b := by
        intro z2
        induction z2 with
        | zero =>
          intro v b hb hv
          refine h46 _ _ _ ⟨by omega, by omega, fun _ => ih v (a + 1) (by omega) (wiP_keep hv (fun a' b' d' _ hb' _ _ s => Or.inl (by omega))), fun c => absurd hb (by omega)⟩
        | succ z2 ih2 =>
          intro v b hb hv
          have hv100 := hv.2.2
          refine h46 _ _ _ ⟨by omega, by omega, fun c => absurd hb (by omega), fun _ => ⟨by omega, by omega, fun c => ⟨fun e => ⟨rfl, q', rfl, hn, hr, hr2, by omega, by omega, by omega, fun y hy => ?_⟩, fun e => ⟨rfl, q', rfl, hn, hr, hr, by omega, by omega, by omega, fun y hy => ?_⟩⟩, fun c => ⟨fun _ => ⟨by omega, ?_⟩, fun c2 => absurd c2 m0_6⟩⟩⟩
          · subst e
            exact wo_step (Z := fun zz => ∃ y : Int32, woP n t w r L r2 L2 (nI q') true y ∧ zz = y) (X := X46) (by omega) (by omega) c hy hv (fun v' h' => ih2 v' (b + 1) (by omega) h') (fun hz => ⟨_, ans _ hz, rfl⟩)
          · subst e
            exact wo_step (Z := fun zz => ∃ y : Int32, woP n t w r L r2 L2 (nI q') false y ∧ zz = y) (X := X46) (by omega) (by omega) c hy hv (fun v' h' => ih2 v' (b + 1) (by omega) h') (fun hz => ⟨_, ans _ hz, rfl⟩)
          · rintro x rfl
            refine ih2 x (b + 1) (by omega) (wiP_keep hv (fun a' b' d' _ _ hab _ s => Or.inl ?_))
            omega
      exact inn n v 0 (by omega) hv
  exact key n 0 0 (by omega) ⟨fun a' b' d' _ _ _ _ s => absurd s (by omega), Or.inl rfl, by omega⟩
/-! the reference -/
theorem ln_o {L L2 o : Nat} (h : o ≤ 1) : lnF L L2 o = if o = 1 then L2 else L := by
  unfold lnF
  by_cases c : o = 0
  · rw [if_pos c, if_neg (by omega)]
  · rw [if_neg c, if_pos (by omega)]
theorem rw_o {r r2 : Nat → Nat} {o k : Nat} (h : o ≤ 1) (hk : k < 40) : rwF r r2 (40 * o + k) = (if o = 1 then r2 else r) k := by
  unfold rwF
  by_cases c : o = 0
  · rw [if_pos (by omega), if_neg (by omega), c]
    congr 1
    omega
  · rw [if_neg (by omega), if_pos (by omega), show 40 * o + k - 40 = k by omega]
theorem v_X6_meetOf : V_X6_meetOf := by
  intro n t w r L r2 L2 a0 y0 lo dp cl sh fd a b d o hn hr hr2 hy ha hb hd ho X53 h53
  have h8 := hn.2.1
  have hL := hr.1
  have l0 : lnF L L2 0 = L := rfl
  have lo1 : lnF L L2 o = (if o = 1 then L2 else L) := ln_o ho
  have hr3 : rOK (if o = 1 then r2 else r) (if o = 1 then L2 else L) := by split <;> assumption
  have hro : ∀ k, k < 40 → rwF r r2 (40 * o + k) = (if o = 1 then r2 else r) k := fun k hk => rw_o ho hk
  unfold B_X6_meetOf_in
  have hB : ∀ v5 v6 v7 v8 v9 v10 c_ma c_my, B_X6_meetOf_53 n t w r L r2 L2 a0 y0 lo dp cl sh fd a b d o X53 v5 v6 v7 v8 v9 v10 c_ma c_my → X53 v5 v6 v7 v8 v9 v10 c_ma c_my := h53
  clear h53
  unfold B_X6_meetOf_53 at hB
  rw [lo1] at hB ⊢
  rw [l0] at hB ⊢
  generalize hr3e : (if o = 1 then r2 else r) = r3 at *
  generalize hL3e : (if o = 1 then L2 else L) = L3 at *
  have hL3 := hr3.1
  have hm : (if L < d + L3 then d + L3 else L) ≤ 60 := by split <;> omega
  have key : ∀ (z v p1 d1 p2 d2 ma my : Nat), v + z = (if L < d + L3 then d + L3 else L) + 1 → 4 * p1 + d1 = aft t w L r 0 (4 * a) v → d1 < 4 → 4 * p2 + d2 = mp2 t w L3 r3 d b v → d2 < 4 → srch (fun k => decide (aft t w L r 0 (4 * a) k / 4 = mp2 t w L3 r3 d b k / 4)) z v = mtV t w L r L3 r3 a b d → X53 (if L < d + L3 then d + L3 else L) p1 d1 p2 d2 v ma my := by
    intro z
    induction z with
    | zero =>
      intro v p1 d1 p2 d2 ma my hv e1 q1 e2 q2 e
      exact hB _ _ _ _ _ _ _ _ ⟨by omega, by omega, fun _ => ⟨_, _, e, rfl, rfl⟩, fun q => absurd hv (by omega)⟩
    | succ z ih =>
      intro v p1 d1 p2 d2 ma my hv e1 q1 e2 q2 e
      have n1 := aft_n (w := w) (L := L) (r := r) (how := 0) hn (show 4 * a < 4 * n by omega) v
      have n2 := mp2_n (w := w) (L2 := L3) (r2 := r3) (d := d) hn hb v
      have A1 : aft t w L r 0 (4 * a) (v + 1) = if v < L then wk t w 0 (aft t w L r 0 (4 * a) v) (r v) else aft t w L r 0 (4 * a) v := rfl
      have B1 : mp2 t w L3 r3 d b (v + 1) = if d ≤ v then (if v - d < L3 then wk t w 0 (mp2 t w L3 r3 d b v) (r3 (v - d)) else mp2 t w L3 r3 d b v) else mp2 t w L3 r3 d b v := rfl
      refine hB _ _ _ _ _ _ _ _ ⟨by omega, by omega, fun q => absurd hv (by omega), fun _ => ⟨by omega, by omega, fun c => ?_, fun c => ⟨_, _, ?_, rfl, rfl⟩⟩⟩
      · have e' : srch (fun k => decide (aft t w L r 0 (4 * a) k / 4 = mp2 t w L3 r3 d b k / 4)) z (v + 1) = mtV t w L r L3 r3 a b d := by
          rw [← e]
          refine (srch_f (decide_eq_false ?_)).symm
          omega
        have nx : ∀ (P1 D1 P2 D2 ma my : Nat), 4 * P1 + D1 = aft t w L r 0 (4 * a) (v + 1) → D1 < 4 → 4 * P2 + D2 = mp2 t w L3 r3 d b (v + 1) → D2 < 4 → X53 (if L < d + L3 then d + L3 else L) P1 D1 P2 D2 (v + 1) ma my := fun P1 D1 P2 D2 ma my w1 w2 w3 w4 => ih (v + 1) P1 D1 P2 D2 ma my (by omega) w1 w2 w3 w4 e'
        have W1 : v < L → wk t w 0 (4 * p1 + d1) (rwF r r2 v) = aft t w L r 0 (4 * a) (v + 1) := fun c1 => by
          rw [A1, if_pos c1, e1, rwF_in (by omega)]
        have W2 : d ≤ v → v - d < L3 → wk t w 0 (4 * p2 + d2) (rwF r r2 (40 * o + v - d)) = mp2 t w L3 r3 d b (v + 1) := fun c1 c2 => by
          rw [B1, if_pos c1, if_pos c2, e2, show 40 * o + v - d = 40 * o + (v - d) by omega, hro _ (by omega)]
        have R1 : v < L → rwF r r2 v ≤ 9 := fun c1 => by rw [rwF_in (by omega)]; exact hr.2 v (by omega)
        have R2 : d ≤ v → v - d < L3 → rwF r r2 (40 * o + v - d) ≤ 9 := fun c1 c2 => by rw [show 40 * o + v - d = 40 * o + (v - d) by omega, hro _ (by omega)]; exact hr3.2 _ (by omega)
        refine ⟨by omega, by omega, fun c1 => ⟨by omega, by omega, fun c2 => ?_, fun c2 => ⟨by omega, by omega, by omega, by omega, fun c3 => ?_, fun c3 => ⟨by omega, by omega, hn, hy, by omega, q2, by omega, R2 (by omega) (by omega), ?_⟩⟩⟩, fun c1 => ⟨by omega, hn, hy, by omega, q1, by omega, R1 (by omega), ?_⟩⟩
        · rw [if_neg (by omega)] at A1
          rw [if_neg (by omega)] at B1
          exact nx _ _ _ _ _ _ (by omega) q1 (by omega) q2
        · rw [if_neg (by omega)] at A1
          rw [if_pos (by omega), if_neg (by omega)] at B1
          exact nx _ _ _ _ _ _ (by omega) q1 (by omega) q2
        · rw [W2 (by omega) (by omega)]
          rw [if_neg (by omega)] at A1
          rintro x rfl y rfl
          exact nx _ _ _ _ _ _ (by omega) q1 (by omega) (by omega)
        · rw [W1 (by omega)]
          rintro x rfl y rfl
          refine ⟨by omega, by omega, fun c2 => ?_, fun c2 => ⟨by omega, by omega, by omega, by omega, fun c3 => ?_, fun c3 => ⟨by omega, by omega, hn, hy, by omega, q2, by omega, R2 (by omega) (by omega), ?_⟩⟩⟩
          · rw [if_neg (by omega)] at B1
            exact nx _ _ _ _ _ _ (by omega) (by omega) (by omega) q2
          · rw [if_pos (by omega), if_neg (by omega)] at B1
            exact nx _ _ _ _ _ _ (by omega) (by omega) (by omega) q2
          · rw [W2 (by omega) (by omega)]
            rintro x rfl y rfl
            exact nx _ _ _ _ _ _ (by omega) (by omega) (by omega) (by omega)
      · rw [← e]
        refine (srch_t (decide_eq_true ?_)).symm
        omega
  have k0 := key _ 0 a 0 b 0 a0 y0 (Nat.zero_add _) rfl (by omega) rfl (by omega) rfl
  refine ⟨by omega, by omega, by omega, fun c => ⟨by omega, ?_⟩, fun c => ?_⟩
  · rintro x rfl
    by_cases c2 : L < d + L3
    · rw [if_pos c2] at k0; exact k0
    · rw [if_neg c2, show L = d + L3 by omega] at k0; exact k0
  · rintro x rfl
    rw [if_neg (by omega)] at k0
    exact k0
theorem v_X6_meet : V_X6_meet := by
  intro n t w r L r2 L2 a0 y0 lo dp cl sh fd a b d o hn hr hr2
  have h8 := hn.2.1
  unfold B_X6_meet_in
  rw [n20d]
  refine ⟨hn.1, h8, fun c => ⟨_, _, (me_1 (by rw [c]; rfl)).symm, rfl, rfl⟩, fun c => ⟨hn.1, h8, fun c2 => ⟨fun hd => ?_, fun c4 => ⟨_, _, (me_2 (by rw [c, c2]; rfl) c4).symm, rfl, rfl⟩⟩, fun c2 => ⟨_, _, (me_1 (by rw [c, c2]; rfl)).symm, rfl, rfl⟩⟩⟩
  refine ⟨hn, fun c5 => ⟨_, _, (me_3 (by rw [c, c2]; rfl) hd c5).symm, rfl, rfl⟩, fun c5 => ?_⟩
  have ans := me_4 (w := w) (r := r) (L := L) (r2 := r2) (L2 := L2) (a := a) (b := b) (o := o) (by rw [c, c2]; rfl) hd c5
  obtain ⟨a', ha', rfl⟩ := hp_ok (by omega) c
  obtain ⟨b', hb', rfl⟩ := hp_ok (by omega) c2
  obtain ⟨d', hd', rfl⟩ := hp_ok (by omega) hd
  rw [tN_nI (by omega), tN_nI (by omega), tN_nI (by omega)] at ans
  refine ⟨fun e => ⟨a', rfl, b', rfl, d', rfl, hn, hr, hr2, c5, ha', hb', by omega, by omega, fun a9 y9 => ⟨_, _, ?_, rfl, rfl⟩⟩, fun e => ⟨a', rfl, b', rfl, d', rfl, hn, hr, hr2, c5, ha', hb', by omega, by omega, fun a9 y9 => ⟨_, _, ?_, rfl, rfl⟩⟩⟩
  · subst e; exact ans.symm
  · subst e; exact ans.symm
theorem ix_n {n k d a b : Nat} (h1 : 1 ≤ n) (h8 : n ≤ 8) (ha : a < n) (hb : b < n) (h : (d * n + a) * n + b = k) : k / n % n = a ∧ k % n = b ∧ k / (n * n) = d := by
  obtain rfl | rfl | rfl | rfl | rfl | rfl | rfl | rfl : n = 1 ∨ n = 2 ∨ n = 3 ∨ n = 4 ∨ n = 5 ∨ n = 6 ∨ n = 7 ∨ n = 8 := by omega
  all_goals (refine ⟨?_, ?_, ?_⟩ <;> omega)
theorem ix_d {n k q : Nat} (h1 : 1 ≤ n) (h8 : n ≤ 8) (h : k < n * n * (q + 1)) : k / (n * n) ≤ q := by
  obtain rfl | rfl | rfl | rfl | rfl | rfl | rfl | rfl : n = 1 ∨ n = 2 ∨ n = 3 ∨ n = 4 ∨ n = 5 ∨ n = 6 ∨ n = 7 ∨ n = 8 := by omega
  all_goals omega
theorem ix_e {n q d a b : Nat} (h1 : 1 ≤ n) (h8 : n ≤ 8) (ha : a < n) (hb : b < n) (h : d ≤ q) : (d * n + a) * n + b < n * n * (q + 1) := by
  obtain rfl | rfl | rfl | rfl | rfl | rfl | rfl | rfl : n = 1 ∨ n = 2 ∨ n = 3 ∨ n = 4 ∨ n = 5 ∨ n = 6 ∨ n = 7 ∨ n = 8 := by omega
  all_goals omega
theorem ix_b {n q : Nat} (h1 : 1 ≤ n) (h8 : n ≤ 8) (h : q ≤ 20) : n * n * (q + 1) ≤ 1344 ∧ 0 < n * n ∧ n * n ≤ 64 := by
  obtain rfl | rfl | rfl | rfl | rfl | rfl | rfl | rfl : n = 1 ∨ n = 2 ∨ n = 3 ∨ n = 4 ∨ n = 5 ∨ n = 6 ∨ n = 7 ∨ n = 8 := by omega
  all_goals omega
theorem wo_one {n q k v : Nat} {Mt : Nat → Nat → Nat → Int32} {X : Nat → Prop} {Z : Int32 → Prop} (h1 : 1 ≤ n) (h8 : n ≤ 8) (hab : ¬ k / n % n = k % n) (hq : k / (n * n) ≤ q) (hy : Mt (k / n % n) (k % n) (k / (n * n)) = (-6) ∨ ∃ j, j ≤ 100 ∧ Mt (k / n % n) (k % n) (k / (n * n)) = nI j) (hv : wiP n q Mt (fun a b d => (d * n + a) * n + b < k) v) (hX : ∀ v', wiP n q Mt (fun a b d => (d * n + a) * n + b < k + 1) v' → X v') (hZ : wsP n q Mt (-6) → Z (-6)) :
    ∀ y : Int32, y = Mt (k / n % n) (k % n) (k / (n * n)) → ((0 ≤ y → ((y ≤ nI v → X v) ∧ (¬ y ≤ nI v → ∃ z : Nat, y = nI z ∧ X z))) ∧ (¬ 0 ≤ y → Z (-6))) := by
  rintro y rfl
  have hv100 := hv.2.2
  have la : k / n % n < n := Nat.mod_lt _ (by omega)
  have lb : k % n < n := Nat.mod_lt _ (by omega)
  have sp : ∀ a b d, a < n → b < n → (d * n + a) * n + b < k + 1 → (d * n + a) * n + b < k ∨ (a = k / n % n ∧ b = k % n ∧ d = k / (n * n)) := by
    intro a b d ha hb h
    by_cases c : (d * n + a) * n + b < k
    · exact Or.inl c
    · have := ix_n (k := k) (d := d) h1 h8 ha hb (by omega)
      exact Or.inr ⟨this.1.symm, this.2.1.symm, this.2.2.symm⟩
  rcases hy with e | ⟨j, hj, e⟩
  · rw [e]
    exact ⟨fun c => absurd c (by decide), fun _ => hZ (Or.inl ⟨rfl, _, _, _, la, lb, hab, hq, e⟩)⟩
  · rw [e]
    refine ⟨fun _ => ⟨fun c => ?_, fun c => ⟨j, rfl, ?_⟩⟩, fun c => absurd (nI_pos' (by omega)) c⟩
    · have c' := (nI_leI (by omega) (by omega)).mp c
      refine hX _ (wiP_keep hv (fun a b d ha hb _ _ s => ?_))
      rcases sp a b d ha hb s with s | ⟨s1, s2, s3⟩
      · exact Or.inl s
      · rw [s1, s2, s3]; exact Or.inr ⟨j, c', e⟩
    · have c' : ¬ j ≤ v := fun q => c ((nI_leI (by omega) (by omega)).mpr q)
      refine hX _ (wiP_more hv (by omega) hj ⟨_, _, _, la, lb, hab, hq, e⟩ (fun a b d ha hb _ _ s => ?_))
      rcases sp a b d ha hb s with s | ⟨s1, s2, s3⟩
      · exact Or.inl s
      · rw [s1, s2, s3]; exact Or.inr ⟨j, Nat.le_refl _, e⟩
theorem v_X6_worst : V_X6_worst := by
  intro n t w r L r2 L2 a0 y0 lo dp cl sh fd q o hn hr hr2 X28 h28
  have h8 := hn.2.1
  have hL := hr.1
  have hL2 := hr2.1
  unfold B_X6_worst_in
  rw [n20d]
  refine ⟨fun hd => ⟨hn, fun c5 => ?_, fun c5 => ⟨_, _, _, wo_3 hd c5, rfl, rfl, rfl⟩⟩, fun hd => ⟨_, _, _, wo_2 hd, rfl, rfl, rfl⟩⟩
  have ans := fun z h => wo_4 (w := w) (r := r) (L := L) (r2 := r2) (L2 := L2) (z := z) (o := o) hd c5 h
  obtain ⟨q', hq', rfl⟩ := hp_ok (by omega) hd
  rw [tN_nI (by omega)] at ans
  have bd := ix_b hn.1 h8 (show q' ≤ 20 by omega)
  have bn : nI (n * n) * (nI q' + nI 1) = nI (n * n * (q' + 1)) := by rw [nI_add, pk_mul]
  have key : ∀ (z k v ma my : Nat), k + z = n * n * (q' + 1) → wiP n q' (mtV t w L r (if o = true then L2 else L) (if o = true then r2 else r)) (fun a b d => (d * n + a) * n + b < k) v → X28 v k ma my := by
    intro z
    induction z with
    | zero =>
      intro k v ma my hk hv
      refine h28 _ _ _ _ ⟨fun _ => ⟨_, _, nI v, ans _ (wiP_end hv (fun a b d ha hb _ hd2 => ?_)), rfl, rfl, rfl⟩, fun c => ?_⟩
      · have := ix_e (q := q') hn.1 h8 ha hb hd2
        show (d * n + a) * n + b < k
        omega
      · rw [bn] at c
        exact absurd ((nI_leI (by omega) (by omega)).mpr (by omega)) c
    | succ z ih =>
      intro k v ma my hk hv
      have hq2 := ix_d (q := q') hn.1 h8 (show k < n * n * (q' + 1) by omega)
      refine h28 _ _ _ _ ⟨fun c => ?_, fun _ => ⟨by omega, hn.1, by omega, ?_, hn.1, by omega, ?_⟩⟩
      · rw [bn] at c
        exact absurd ((nI_leI (by omega) (by omega)).mp c) (by omega)
      · exact Nat.lt_of_le_of_lt (Nat.div_le_self k n) (by omega)
      · have n1 := hn.1
        have la : k / n % n < n := Nat.mod_lt _ n1
        have lb : k % n < n := Nat.mod_lt _ n1
        rintro x rfl
        refine ⟨by omega, by omega, by omega, ?_⟩
        rintro y rfl
        refine ⟨by omega, by omega, fun c => ?_, fun c => ⟨by omega, by omega, by omega, fun e => ⟨hn, hr, hr2, c5, la, lb, by omega, by omega, fun a9 y9 => ?_⟩, fun e => ⟨hn, hr, hr2, c5, la, lb, by omega, by omega, fun a9 y9 => ?_⟩⟩⟩
        · refine ih (k + 1) v ma my (by omega) (wiP_keep hv (fun a b d ha hb hab _ s => Or.inl ?_))
          show (d * n + a) * n + b < k
          apply Nat.lt_of_not_le
          intro s2
          have := ix_n (k := k) (d := d) hn.1 h8 ha hb (by omega)
          omega
        · subst e
          exact wo_one (X := fun v' => X28 v' (k + 1) a9 y9) (Z := fun zz => ∃ a8 : Nat, ∃ y8 : Nat, ∃ y : Int32, woP n t w r L r2 L2 (nI q') false y ∧ zz = y ∧ a9 = a8 ∧ y9 = y8) hn.1 h8 c hq2 (mt_or hL hL (by omega)) hv (fun v' h' => ih (k + 1) v' _ _ (by omega) h') (fun hz => ⟨_, _, _, ans _ hz, rfl, rfl, rfl⟩)
        · subst e
          exact wo_one (X := fun v' => X28 v' (k + 1) a9 y9) (Z := fun zz => ∃ a8 : Nat, ∃ y8 : Nat, ∃ y : Int32, woP n t w r L r2 L2 (nI q') true y ∧ zz = y ∧ a9 = a8 ∧ y9 = y8) hn.1 h8 c hq2 (mt_or hL hL2 (by omega)) hv (fun v' h' => ih (k + 1) v' _ _ (by omega) h') (fun hz => ⟨_, _, _, ans _ hz, rfl, rfl, rfl⟩)
  exact key _ 0 0 a0 y0 (Nat.zero_add _) ⟨fun a b d _ _ _ _ s => absurd s (Nat.not_lt_zero _), Or.inl rfl, by omega⟩
