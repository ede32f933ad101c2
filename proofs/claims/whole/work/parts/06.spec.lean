/-! ===== what the two classes answer, as functions of numbers: n posts, t the joined doors (t i below 32: joined to it), w the bad doors, rows r of length L ===== -/
def aE (t : Nat → Nat) : Nat → Int32 := fun i => if t i < 32 then nI (t i) else (-1)
def aT (t : Nat → Nat) : Nat → Int32 := fun i => if t i < 32 then nI (t i) else (-6)
def jd (t : Nat → Nat) (i : Nat) : Nat := if t i < 32 then 1 else 0
def dg (t : Nat → Nat) (p : Nat) : Nat := jd t (4 * p) + jd t (4 * p + 1) + jd t (4 * p + 2) + jd t (4 * p + 3)
def cnt (f : Nat → Bool) : Nat → Nat
  | 0 => 0
  | k + 1 => cnt f k + (if f k = true then 1 else 0)
def prs (t : Nat → Nat) : Nat := cnt (fun i => decide (t i < 32 ∧ i < t i)) 32
def tF : Nat → Nat := fun _ => 32
def wF : Nat → Bool := fun _ => false
def nOK (n : Nat) (t : Nat → Nat) : Prop := 1 ≤ n ∧ n ≤ 8 ∧ ∀ i, t i < 32 → i < 4 * n ∧ t (t i) = i ∧ t i ≠ i
def rOK (r : Nat → Nat) (L : Nat) : Prop := L ≤ 40 ∧ ∀ k, k < 40 → r k ≤ 9
def okd (t : Nat → Nat) (p : Nat) : Bool := decide (∀ d, d < dg t p → t (4 * p + d) < 32)
def rst (t : Nat → Nat) (r i : Nat) : Nat := if (r >>> (i / 4)) &&& 1 = 1 ∧ t i < 32 then r ||| (1 <<< (t i / 4)) else r
def rro (t : Nat → Nat) (r : Nat) : Nat → Nat
  | 0 => r
  | i + 1 => rst t (rro t r i) i
def rch (t : Nat → Nat) : Nat → Nat
  | 0 => 1
  | k + 1 => rro t (rch t k) 32
def rdy (n : Nat) (t : Nat → Nat) : Bool := decide ((∀ p, p < n → okd t p = true) ∧ rch t (n - 1) = 2 ^ n - 1)
/-! walks -/
def thr (t : Nat → Nat) (w : Nat → Bool) (i : Nat) : Nat := if w i = true ∨ ¬ t i < 32 then i else t i
def wk (t : Nat → Nat) (w : Nat → Bool) (how i x : Nat) : Nat := if dg t (i / 4) = 0 then i else thr t w (4 * (i / 4) + ((if how = 0 then i % 4 else 0) + x) % dg t (i / 4))
def fol (t : Nat → Nat) (w : Nat → Bool) (L : Nat) (r : Nat → Nat) (how i k : Nat) : Nat := if k < L then wk t w how i (r k) else i
def folI (t : Nat → Nat) (w : Nat → Bool) (L : Nat) (r : Nat → Nat) (how i : Nat) (k : Int32) : Nat := if hp k L = true then wk t w how i (r k.toNatClampNeg) else i
def aft (t : Nat → Nat) (w : Nat → Bool) (L : Nat) (r : Nat → Nat) (how i : Nat) : Nat → Nat
  | 0 => i
  | k + 1 => fol t w L r how (aft t w L r how i k) k
def sen (f : Nat → Nat) : Nat → Nat
  | 0 => 1 <<< f 0
  | k + 1 => sen f k ||| (1 <<< f (k + 1))
def srch (P : Nat → Bool) : Nat → Nat → Int32
  | 0, _ => (-6)
  | m + 1, k => if P k = true then nI k else srch P m (k + 1)
def wlV (n : Nat) (t : Nat → Nat) (w : Nat → Bool) (r : Nat → Nat) (L p how : Nat) : Int32 := srch (fun k => decide (sen (fun j => aft t w L r how (4 * p) j / 4) k = 2 ^ n - 1)) (L + 1) 0
def flV (n : Nat) (t : Nat → Nat) (w : Nat → Bool) (r : Nat → Nat) (L how : Nat) : Nat → Nat
  | 0 => 0
  | p + 1 => if wlV n t w r L p how = (-6) then flV n t w r L how p ||| (1 <<< p) else flV n t w r L how p
/-! sent on: a state is the post above 16 bits of hands -/
def sn (t : Nat → Nat) (w : Nat → Bool) (s : Nat) : Nat := if dg t (s >>> 16) = 0 then s else ((s &&& 65535) ^^^ ((((s >>> (2 * (s >>> 16))) &&& 3) ^^^ ((((s >>> (2 * (s >>> 16))) &&& 3) + 1) % dg t (s >>> 16))) <<< (2 * (s >>> 16)))) ||| ((thr t w (4 * (s >>> 16) + ((s >>> (2 * (s >>> 16))) &&& 3)) / 4) <<< 16)
def sns (t : Nat → Nat) (w : Nat → Bool) (s : Nat) : Nat → Nat
  | 0 => s
  | k + 1 => sn t w (sns t w s k)
def mE (s : Nat) : Nat := (s % 65536) * 8 + s / 65536
def sOK (n s : Nat) : Prop := s < n * 65536
/-- and each hand stands at a door that is joined -/
def sK (n : Nat) (t : Nat → Nat) (s : Nat) : Prop := sOK n s ∧ ∀ q, q < n → dg t q = 0 ∨ (s >>> (2 * q)) &&& 3 < dg t q
def saV (n : Nat) (t : Nat → Nat) (w : Nat → Bool) (p : Nat) : Int32 := srch (fun k => decide (sen (fun j => sns t w (p <<< 16) j >>> 16) k = 2 ^ n - 1)) 20001 0
/-- m steps ahead, a ring of k, both least -/
def rgM (t : Nat → Nat) (w : Nat → Bool) (s m k : Nat) : Prop := 1 ≤ k ∧ sns t w s m = sns t w s (m + k) ∧ ∀ a b, 1 ≤ b → sns t w s a = sns t w s (a + b) → m ≤ a ∧ k ≤ b
def rgP (t : Nat → Nat) (w : Nat → Bool) (p : Nat) (what : Int32) (r : Int32) : Prop := (∃ m k, m + k ≤ 20000 ∧ rgM t w (p <<< 16) m k ∧ r = if what = nI 1 then nI m else nI k) ∨ (r = (-7) ∧ ∀ m k, rgM t w (p <<< 16) m k → 20000 < m + k)
/-! looks -/
def lef (R : Nat → Nat → Bool) (p : Nat) : Nat → Nat → Nat
  | 0, q => q
  | m + 1, q => if R q p = true then q else lef R p m (q + 1)
def lea (R : Nat → Nat → Bool) (p : Nat) : Nat := lef R p p 0
def cnn (R : Nat → Nat → Bool) : Nat → Nat
  | 0 => 0
  | p + 1 => cnn R p + (if lea R p = p then 1 else 0)
def lbT (R : Nat → Nat → Bool) : Nat → Nat → Nat
  | 0 => fun _ => 0
  | k + 1 => fun i => if i = k then (if lea R k < k then lbT R k (lea R k) else cnn R k) else lbT R k i
def dgR (t : Nat → Nat) (q p : Nat) : Bool := decide (dg t q = dg t p)
def alk (t kd : Nat → Nat) (a b : Nat) : Bool := decide (kd a = kd b ∧ ∀ d, d < dg t a → t (4 * a + d) % 4 = t (4 * b + d) % 4 ∧ kd (t (4 * a + d) / 4) = kd (t (4 * b + d) / 4))
def rel (t kd : Nat → Nat) (b : Bool) : Nat → Nat → Bool := if b = true then dgR t else alk t kd
def kK (n : Nat) (t : Nat → Nat) : Nat → Nat → Nat
  | 0 => lbT (dgR t) n
  | k + 1 => lbT (alk t (kK n t k)) n
def cK (n : Nat) (t : Nat → Nat) : Nat → Nat
  | 0 => cnn (dgR t) n
  | k + 1 => cnn (alk t (kK n t k)) n
def dpF (n : Nat) (t : Nat → Nat) : Nat → Nat → Nat
  | 0, k => k
  | m + 1, k => if cK n t (k + 1) = cK n t k then k else dpF n t m (k + 1)
def apV (n : Nat) (t : Nat → Nat) (a b : Nat) : Int32 := srch (fun k => decide (¬ kK n t k a = kK n t k b)) 8 0
/-! two -/
def mp2 (t : Nat → Nat) (w : Nat → Bool) (L2 : Nat) (r2 : Nat → Nat) (d b : Nat) : Nat → Nat
  | 0 => 4 * b
  | k + 1 => if d ≤ k then fol t w L2 r2 0 (mp2 t w L2 r2 d b k) (k - d) else mp2 t w L2 r2 d b k
def mtV (t : Nat → Nat) (w : Nat → Bool) (L : Nat) (r : Nat → Nat) (L2 : Nat) (r2 : Nat → Nat) (a b d : Nat) : Int32 := srch (fun k => decide (aft t w L r 0 (4 * a) k / 4 = mp2 t w L2 r2 d b k / 4)) ((if L < d + L2 then d + L2 else L) + 1) 0
/-- the latest of M over the pairs and the waits up to q, or none -/
def wsP (n q : Nat) (Mt : Nat → Nat → Nat → Int32) (r : Int32) : Prop := (r = (-6) ∧ ∃ a b d, a < n ∧ b < n ∧ a ≠ b ∧ d ≤ q ∧ Mt a b d = (-6)) ∨ (∃ v : Nat, r = nI v ∧ (∀ a b d, a < n → b < n → a ≠ b → d ≤ q → ∃ u : Nat, u ≤ v ∧ Mt a b d = nI u) ∧ (v = 0 ∨ ∃ a b d, a < n ∧ b < n ∧ a ≠ b ∧ d ≤ q ∧ Mt a b d = nI v) ∧ v ≤ 100)
/-! rings -/
def rgo (n ring bits len st : Nat) : Nat → Nat
  | 0 => st
  | i + 1 => if (bits >>> (len - 1 - i)) &&& 1 = (ring >>> rgo n ring bits len st i) &&& 1 then (rgo n ring bits len st i + 1) % n else (rgo n ring bits len st i + n - 1) % n
def rwa (n ring st bits len : Nat) : Bool := decide (sen (rgo n ring bits len st) len = 2 ^ n - 1)
def rwr (n bits len : Nat) : Bool := decide (∀ ring, ring < 2 ^ n → ∀ st, st < n → rwa n ring st bits len = true)
def sb (n len : Nat) : Int32 := srch (fun bits => rwr n bits len) (2 ^ len) 0
def rl (n : Nat) : Int32 := srch (fun m => decide (¬ sb n m = (-6))) 12 1
def rb (n : Nat) : Int32 := sb n (rl n).toNatClampNeg
def rn (n : Nat) (i : Int32) : Int32 := if hp i (rl n).toNatClampNeg = true then nI (((rb n).toNatClampNeg >>> ((rl n).toNatClampNeg - 1 - i.toNatClampNeg)) &&& 1) else (-6)
def gOK (le fo : Nat → Int32) : Prop := ∀ s, 2 ≤ s → s ≤ 4 → le s = 0 ∨ (le s = rl s ∧ (¬ rl s = (-6) → fo s = rb s))
def mgOK (sh fd : Nat → Nat) : Prop := ∀ s, 2 ≤ s → s ≤ 4 → sh s = 0 ∨ (1 ≤ sh s ∧ sh s ≤ 12 ∧ nI (sh s) = rl s ∧ nI (fd s) = rb s ∧ fd s < 4096)
/-! ===== the calls' answers, and what stands behind them ===== -/
def tN (x : Int32) : Nat := x.toNatClampNeg
def plc (p d : Int32) : Nat := 4 * tN p + tN d
def isW (x : Int32) : Bool := decide (x = nI 0 ∨ x = nI 1)
def isM (m : Int32) : Bool := decide (nI 1 ≤ m ∧ m ≤ nI 8)
def hpl (n : Nat) (p d : Int32) : Bool := hp p n && hp d 4
def poA (n : Nat) (m : Int32) : Int32 := if isM m = true then nI n else (-2)
def poN (n : Nat) (m : Int32) : Nat := if isM m = true then tN m else n
def poT (t : Nat → Nat) (m : Int32) : Nat → Nat := if isM m = true then tF else t
def poW (w : Nat → Bool) (m : Int32) : Nat → Bool := if isM m = true then wF else w
def tie (t : Nat → Nat) (i j : Nat) : Nat → Nat := fun k => if k = i then j else if k = j then i else t k
def unt (t : Nat → Nat) (i j : Nat) : Nat → Nat := fun k => if k = i then 32 else if k = j then 32 else t k
def joO (n : Nat) (t : Nat → Nat) (a da b db : Int32) : Bool := hpl n a da && hpl n b db && decide (¬ plc a da = plc b db ∧ ¬ t (plc a da) < 32 ∧ ¬ t (plc b db) < 32)
def joT (n : Nat) (t : Nat → Nat) (a da b db : Int32) : Nat → Nat := if joO n t a da b db = true then tie t (plc a da) (plc b db) else t
def joA (n : Nat) (t : Nat → Nat) (a da b db : Int32) : Int32 := if (hpl n a da && hpl n b db) = true then (if joO n t a da b db = true then nI (prs (joT n t a da b db)) else (-5)) else (-1)
def paO (n : Nat) (t : Nat → Nat) (p d : Int32) : Bool := hpl n p d && decide (t (plc p d) < 32)
def paT (n : Nat) (t : Nat → Nat) (p d : Int32) : Nat → Nat := if paO n t p d = true then unt t (plc p d) (t (plc p d)) else t
def paA (n : Nat) (t : Nat → Nat) (p d : Int32) : Int32 := if hpl n p d = true then (if t (plc p d) < 32 then nI (10 * (t (plc p d) / 4) + t (plc p d) % 4) else (-6)) else (-1)
def baA (n : Nat) (w : Nat → Bool) (p d : Int32) : Int32 := if hpl n p d = true then bI (w (plc p d)) else (-1)
def baW (n : Nat) (w : Nat → Bool) (p d : Int32) (x : Bool) : Nat → Bool := if hpl n p d = true then upB w (plc p d) x else w
def leA (n : Nat) (t : Nat → Nat) (w : Nat → Bool) (p d : Int32) : Int32 := if hpl n p d = true then (if t (plc p d) < 32 then nI (10 * (thr t w (plc p d) / 4) + thr t w (plc p d) % 4) else (-6)) else (-1)
def deA (n : Nat) (t : Nat → Nat) (p : Int32) : Int32 := if hp p n = true then nI (dg t (tN p)) else (-1)
def adO (wh x : Int32) : Bool := isW wh && hp x 10
def adL (L : Nat) (wh x z : Int32) : Nat := if (adO wh x && decide (wh = z)) = true ∧ L < 40 then L + 1 else L
def adR (r : Nat → Nat) (L : Nat) (wh x z : Int32) : Nat → Nat := if (adO wh x && decide (wh = z)) = true ∧ L < 40 then upN r L (tN x) else r
def adA (L L2 : Nat) (wh x : Int32) : Int32 := if adO wh x = true then (if (if wh = nI 0 then L else L2) < 40 then nI ((if wh = nI 0 then L else L2) + 1) else (-4)) else (-2)
def clA (L L2 : Nat) (wh : Int32) : Int32 := if isW wh = true then nI (if wh = nI 0 then L else L2) else (-2)
def clL (L : Nat) (wh z : Int32) : Nat := if wh = z then 0 else L
def afA (n : Nat) (t : Nat → Nat) (w : Nat → Bool) (r : Nat → Nat) (L : Nat) (p how k : Int32) : Int32 := if hp p n = true then (if (isW how && hp k (L + 1)) = true then (if rdy n t = true then nI (aft t w L r (tN how) (4 * tN p) (tN k) / 4) else (-3)) else (-2)) else (-1)
def waA (n : Nat) (t : Nat → Nat) (w : Nat → Bool) (r : Nat → Nat) (L : Nat) (p how : Int32) : Int32 := if hp p n = true then (if isW how = true then (if rdy n t = true then wlV n t w r L (tN p) (tN how) else (-3)) else (-2)) else (-1)
def faA (n : Nat) (t : Nat → Nat) (w : Nat → Bool) (r : Nat → Nat) (L : Nat) (how : Int32) : Int32 := if isW how = true then (if rdy n t = true then nI (flV n t w r L (tN how) n) else (-3)) else (-2)
def seP (n : Nat) (t : Nat → Nat) (w : Nat → Bool) (p what r : Int32) : Prop := if hp p n = true then (if hp what 3 = true then (if rdy n t = true then (if what = nI 0 then r = saV n t w (tN p) else rgP t w (tN p) what r) else r = (-3)) else r = (-2)) else r = (-1)
def itw (t : Nat → Nat) (w : Nat → Bool) (i : Nat) : Nat → Nat
  | 0 => i
  | k + 1 => wk t w 0 (itw t w i k) 1
def neS (t : Nat → Nat) (w : Nat → Bool) (p k : Nat) : Nat := sen (fun j => itw t w (4 * p) j / 4) k
def neA (n : Nat) (t : Nat → Nat) (w : Nat → Bool) (p : Int32) : Int32 := if hp p n = true then (if rdy n t = true then nI (neS t w (tN p) 32) else (-3)) else (-1)
def loA (n : Nat) (t : Nat → Nat) (p d : Int32) : Int32 := if hp p n = true then (if hp d 21 = true then (if rdy n t = true then nI (kK n t (tN d) (tN p)) else (-3)) else (-2)) else (-1)
def csA (n : Nat) (t : Nat → Nat) (d : Int32) : Int32 := if hp d 21 = true then (if rdy n t = true then nI (cK n t (tN d)) else (-3)) else (-2)
def dpA (n : Nat) (t : Nat → Nat) : Int32 := if rdy n t = true then nI (dpF n t 20 0) else (-3)
def apA (n : Nat) (t : Nat → Nat) (a b : Int32) : Int32 := if (hp a n && hp b n) = true then (if rdy n t = true then apV n t (tN a) (tN b) else (-3)) else (-1)
def meA (n : Nat) (t : Nat → Nat) (w : Nat → Bool) (r : Nat → Nat) (L : Nat) (r2 : Nat → Nat) (L2 : Nat) (a b d : Int32) (o : Bool) : Int32 := if (hp a n && hp b n) = true then (if hp d 21 = true then (if rdy n t = true then mtV t w L r (if o = true then L2 else L) (if o = true then r2 else r) (tN a) (tN b) (tN d) else (-3)) else (-2)) else (-1)
def woP (n : Nat) (t : Nat → Nat) (w : Nat → Bool) (r : Nat → Nat) (L : Nat) (r2 : Nat → Nat) (L2 : Nat) (q : Int32) (o : Bool) (z : Int32) : Prop := if hp q 21 = true then (if rdy n t = true then wsP n (tN q) (mtV t w L r (if o = true then L2 else L) (if o = true then r2 else r)) z else z = (-3)) else z = (-2)
def riA (n i : Int32) : Int32 := if (decide (nI 2 ≤ n ∧ n ≤ nI 4)) = true then (if i = (-1) then rl (tN n) else rn (tN n) i) else (-2)
def toA (n : Nat) (t : Nat → Nat) (w : Nat → Bool) (L L2 : Nat) (x : Int32) : Int32 := if x = nI 0 then nI n else if x = nI 1 then nI (prs t) else if x = nI 2 then nI L else if x = nI 3 then nI L2 else if x = nI 4 then nI (cnt w 32) else (-2)
/-! the reference's rows -/
def lnF (L L2 : Nat) : Nat → Nat := fun i => if i = 0 then L else L2
def rwF (r r2 : Nat → Nat) : Nat → Nat := fun i => if i < 40 then r i else r2 (i - 40)
/-! the ring's parts, and the latest of one pair -/
def perP (t : Nat → Nat) (w : Nat → Bool) (p k : Nat) : Prop := 1 ≤ k ∧ (∃ a, sns t w (p <<< 16) a = sns t w (p <<< 16) (a + k)) ∧ ∀ a b, 1 ≤ b → sns t w (p <<< 16) a = sns t w (p <<< 16) (a + b) → k ≤ b
def rlP (t : Nat → Nat) (w : Nat → Bool) (p : Nat) (y : Int32) : Prop := (∃ k : Nat, k ≤ 20000 ∧ y = nI k ∧ perP t w p k) ∨ (y = (-7) ∧ ∀ m k, rgM t w (p <<< 16) m k → 20000 < m + k)
def shP (t : Nat → Nat) (w : Nat → Bool) (p k : Nat) (y : Int32) : Prop := (∃ m : Nat, m + k ≤ 20000 ∧ rgM t w (p <<< 16) m k ∧ y = nI m) ∨ (y = (-7) ∧ ∀ m b, rgM t w (p <<< 16) m b → 20000 < m + b)
def laP (q : Nat) (M1 : Nat → Int32) (y : Int32) : Prop := (y = (-6) ∧ ∃ d, d ≤ q ∧ M1 d = (-6)) ∨ (∃ v : Nat, y = nI v ∧ v ≤ 100 ∧ (∀ d, d ≤ q → ∃ u : Nat, u ≤ v ∧ M1 d = nI u) ∧ (v = 0 ∨ ∃ d, d ≤ q ∧ M1 d = nI v))
