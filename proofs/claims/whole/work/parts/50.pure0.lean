/-! THE PURE LAYER. What both sides hold: a k (k < 359) the reference's numbers of one land, a 359 the ways as bits -/
theorem q_lit (n : Nat) : (OfNat.ofNat n : Int32) = nI n := rfl
theorem va_up_id {α : Type} (f : Nat → α) (k : Nat) : va_up f k (f k) = f := by
  funext j
  unfold va_up
  split
  · next h => rw [h]
  · rfl
theorem va_up_at {α : Type} (f : Nat → α) (k : Nat) (v : α) : va_up f k v k = v := by unfold va_up; rw [if_pos rfl]
theorem va_up_no {α : Type} (f : Nat → α) {k j : Nat} (v : α) (h : j ≠ k) : va_up f k v j = f j := by unfold va_up; rw [if_neg h]
def IC (a : Nat → Nat) : Prop := a 0 < 1048576 ∧ a 1 ≤ 5 ∧ a 2 ≤ 24 ∧ a 3 ≤ 200 ∧ a 4 ≤ 8 ∧ a 5 ≤ 4 ∧ a 6 ≤ 8
def IW (a : Nat → Nat) : Prop := a 359 < 65536 ∧ (∀ k, k < 16 → a (7 + k) = a 359 / 2 ^ k % 2) ∧ (∀ i j, i < 4 → j < 4 → a (7 + (4 * i + j)) = a (7 + (4 * j + i))) ∧ ∀ i, i < 4 → a (7 + (4 * i + i)) = 0
def IP (a : Nat → Nat) : Prop := ∀ p, p < a 1 → a (23 + p) < 4 ∧ a (28 + p) < 4
def IG (a : Nat → Nat) : Prop := ∀ k, k < a 2 → a (33 + k) ≤ 23 ∧ a (57 + k) < 4 ∧ a (81 + k) < 4 ∧ a (105 + k) < 2 ^ a 1
def IT (a : Nat → Nat) : Prop := ∀ k, k < a 3 → a (129 + k) < 256
def IK (a : Nat → Nat) : Prop := ∀ k, k < a 4 → 1 ≤ a (329 + k) ∧ a (329 + k) ≤ 9
def IN (a : Nat → Nat) : Prop := ∀ k, k < a 5 → a (337 + k) < a 4 ∧ 1 ≤ a (341 + k) ∧ a (341 + k) ≤ 72
def IL (a : Nat → Nat) : Prop := ∀ c, c < 4 → a (345 + c) ≤ 99
def IB (a : Nat → Nat) : Prop := ∀ k, k < a 6 → 1 ≤ a (349 + k) ∧ a (349 + k) ≤ 20
def IR (a : Nat → Nat) : Prop := 1 ≤ a 357 ∧ a 357 ≤ 60 ∧ a 358 ≤ 3
def INV (a : Nat → Nat) : Prop := IC a ∧ IW a ∧ IP a ∧ IG a ∧ IT a ∧ IK a ∧ IN a ∧ IL a ∧ IB a ∧ IR a
/-- a and b are alike from lo on, below hi -/
def ag (a b : Nat → Nat) (lo hi : Nat) : Prop := ∀ j, lo ≤ j → j < hi → b j = a j
theorem IW.cg {a b : Nat → Nat} (h : IW a) (h1 : ag a b 7 23) (h2 : b 359 = a 359) : IW b := by
  refine ⟨by rw [h2]; exact h.1, fun k hk => ?_, fun i j hi hj => ?_, fun i hi => ?_⟩
  · rw [h1 _ (by omega) (by omega), h2]; exact h.2.1 k hk
  · rw [h1 _ (by omega) (by omega), h1 _ (by omega) (by omega)]; exact h.2.2.1 i j hi hj
  · rw [h1 _ (by omega) (by omega)]; exact h.2.2.2 i hi
theorem IP.cg {a b : Nat → Nat} (hc : IC a) (h : IP a) (h1 : b 1 = a 1) (h2 : ag a b 23 33) : IP b := by
  intro p hp
  rw [h1] at hp
  have := hc.2.1
  rw [h2 _ (by omega) (by omega), h2 _ (by omega) (by omega)]; exact h p hp
theorem IG.cg {a b : Nat → Nat} (hc : IC a) (h : IG a) (h0 : b 1 = a 1) (h1 : b 2 = a 2) (h2 : ag a b 33 129) : IG b := by
  intro p hp
  rw [h1] at hp
  have := hc.2.2.1
  rw [h2 _ (by omega) (by omega), h2 _ (by omega) (by omega), h2 _ (by omega) (by omega), h2 _ (by omega) (by omega), h0]; exact h p hp
theorem IT.cg {a b : Nat → Nat} (hc : IC a) (h : IT a) (h1 : b 3 = a 3) (h2 : ag a b 129 329) : IT b := by
  intro p hp
  rw [h1] at hp
  have := hc.2.2.2.1
  rw [h2 _ (by omega) (by omega)]; exact h p hp
theorem IK.cg {a b : Nat → Nat} (hc : IC a) (h : IK a) (h1 : b 4 = a 4) (h2 : ag a b 329 337) : IK b := by
  intro p hp
  rw [h1] at hp
  have := hc.2.2.2.2.1
  rw [h2 _ (by omega) (by omega)]; exact h p hp
theorem IN.cg {a b : Nat → Nat} (hc : IC a) (h : IN a) (h0 : a 4 ≤ b 4) (h1 : b 5 = a 5) (h2 : ag a b 337 345) : IN b := by
  intro p hp
  rw [h1] at hp
  have := hc.2.2.2.2.2.1
  rw [h2 (337 + p) (by omega) (by omega), h2 (341 + p) (by omega) (by omega)]
  have := h p hp
  omega
theorem IL.cg {a b : Nat → Nat} (h : IL a) (h2 : ag a b 345 349) : IL b := by
  intro p hp
  rw [h2 _ (by omega) (by omega)]; exact h p hp
theorem IB.cg {a b : Nat → Nat} (hc : IC a) (h : IB a) (h1 : b 6 = a 6) (h2 : ag a b 349 357) : IB b := by
  intro p hp
  rw [h1] at hp
  have := hc.2.2.2.2.2.2
  rw [h2 _ (by omega) (by omega)]; exact h p hp
theorem IR.cg {a b : Nat → Nat} (h : IR a) (h2 : ag a b 357 359) : IR b := by
  unfold IR at h ⊢
  rw [h2 _ (by omega) (by omega), h2 _ (by omega) (by omega)]; exact h
/-- a row of the class holds the numbers from b on, as many as a c -/
def AR (a : Nat → Nat) (c b : Nat) (f : Nat → Int32) : Prop := ∀ k, k < a c → f k = nI (a (b + k))
theorem AR.cg {a a' : Nat → Nat} {c b : Nat} {f : Nat → Int32} (h : AR a c b f) (h1 : a' c = a c) (h2 : ag a a' b (b + a c)) : AR a' c b f := by
  intro k hk
  rw [h1] at hk
  rw [h2 _ (by omega) (by omega)]; exact h k hk
theorem AR.less {a' : Nat → Nat} {c b : Nat} {f : Nat → Int32} (h1 : a' c = 0) : AR a' c b f := by
  intro k hk
  rw [h1] at hk
  exact absurd hk (Nat.not_lt_zero k)
theorem AR.push {a a' : Nat → Nat} {c b v : Nat} {f : Nat → Int32} (h : AR a c b f) (h1 : a' c = a c + 1) (h2 : ag a a' b (b + a c)) (h3 : a' (b + a c) = v) : AR a' c b (upd f (a c) (nI v)) := by
  intro k hk
  rw [h1] at hk
  unfold upd
  by_cases e : k = a c
  · rw [if_pos e, e, h3]
  · rw [if_neg e, h2 _ (by omega) (by omega)]; exact h k (by omega)
theorem AR.set {a a' : Nat → Nat} {c b v i : Nat} {f : Nat → Int32} (h : AR a c b f) (h1 : a' c = a c) (h2 : ∀ k, k < a c → k ≠ i → a' (b + k) = a (b + k)) (h3 : a' (b + i) = v) : AR a' c b (upd f i (nI v)) := by
  intro k hk
  rw [h1] at hk
  unfold upd
  by_cases e : k = i
  · rw [if_pos e, e, h3]
  · rw [if_neg e, h2 k hk e]; exact h k hk
def KM (a : Nat → Nat) (al : Nat → Int32) (o : Nat) : Prop := ∀ k, k < 359 → al (o + k) = nI (a k)
def XS (a : Nat → Nat) (kx : Nat → Int32) (so : Nat) : Prop :=
  (kx (so + 0) = nI (a 0) ∧ kx (so + 1) = nI (a 357) ∧ kx (so + 2) = nI (a 358) ∧ kx (so + 3) = nI (a 359)) ∧
   (kx (so + 4) = nI (a 1) ∧ kx (so + 5) = nI (a 1) ∧ kx (so + 6) = nI (a 2) ∧ kx (so + 7) = nI (a 2) ∧ kx (so + 8) = nI (a 2) ∧ kx (so + 9) = nI (a 2)) ∧
   (kx (so + 10) = nI (a 3) ∧ kx (so + 11) = nI (a 4) ∧ kx (so + 12) = nI (a 5) ∧ kx (so + 13) = nI (a 5) ∧ kx (so + 14) = nI 4 ∧ kx (so + 15) = nI (a 6))
def AL (a : Nat → Nat) (f : Nat → Int32) : Prop := ∀ c, c < 4 → f c = nI (a (345 + c))
theorem AL.cg {a a' : Nat → Nat} {f : Nat → Int32} (h : AL a f) (h2 : ag a a' 345 349) : AL a' f := by
  intro k hk
  rw [h2 _ (by omega) (by omega)]; exact h k hk
def KX (a : Nat → Nat) (kx : Nat → Int32) (kf : Nat → Nat → Int32) (so ao : Nat) : Prop :=
  XS a kx so ∧ (AR a 1 23 (kf (ao + 0)) ∧ AR a 1 28 (kf (ao + 1))) ∧ (AR a 2 33 (kf (ao + 2)) ∧ AR a 2 57 (kf (ao + 3)) ∧ AR a 2 81 (kf (ao + 4)) ∧ AR a 2 105 (kf (ao + 5))) ∧
  AR a 3 129 (kf (ao + 6)) ∧ AR a 4 329 (kf (ao + 7)) ∧ (AR a 5 337 (kf (ao + 8)) ∧ AR a 5 341 (kf (ao + 9))) ∧ AL a (kf (ao + 10)) ∧ AR a 6 349 (kf (ao + 11))
/-- one land on both sides: class at so, ao; reference at o -/
def K2 (a : Nat → Nat) (cx : Nat → Int32) (cf : Nat → Nat → Int32) (i : Nat) : Prop := INV a ∧ KX a cx cf (16 * i) (12 * i) ∧ KM a (cf 65) (360 * i)
/-- the images, the fraction, what was refused -/
def RI (cx : Nat → Int32) (cf : Nat → Nat → Int32) : Prop := ∃ b0 b1 : Nat, b0 < 2 ∧ b1 < 2 ∧ cx 48 = nI (b0 + 2 * b1) ∧ cf 66 0 = nI b0 ∧ cf 66 1 = nI b1 ∧ (b0 = 1 → ∃ a, K2 a cx cf 1) ∧ (b1 = 1 → ∃ a, K2 a cx cf 2)
def RF (cx : Nat → Int32) : Prop := cx 49 = cx 77 ∧ cx 50 = cx 78
def RR (cf : Nat → Nat → Int32) : Prop := ∀ i, i < 3 → cf 36 i = cf 67 i
theorem KX.congr {a : Nat → Nat} {kx kx' : Nat → Int32} {kf kf' : Nat → Nat → Int32} {so ao : Nat} (h : KX a kx kf so ao) (h1 : ∀ k, k < 16 → kx' (so + k) = kx (so + k)) (h2 : ∀ k, k < 12 → kf' (ao + k) = kf (ao + k)) : KX a kx' kf' so ao := by
  unfold KX XS at h ⊢
  rw [h1 0 (by decide), h1 1 (by decide), h1 2 (by decide), h1 3 (by decide), h1 4 (by decide), h1 5 (by decide), h1 6 (by decide), h1 7 (by decide), h1 8 (by decide), h1 9 (by decide), h1 10 (by decide), h1 11 (by decide), h1 12 (by decide), h1 13 (by decide), h1 14 (by decide), h1 15 (by decide), h2 0 (by decide), h2 1 (by decide), h2 2 (by decide), h2 3 (by decide), h2 4 (by decide), h2 5 (by decide), h2 6 (by decide), h2 7 (by decide), h2 8 (by decide), h2 9 (by decide), h2 10 (by decide), h2 11 (by decide)]
  exact h
theorem K2.congr {a : Nat → Nat} {cx cx' : Nat → Int32} {cf cf' : Nat → Nat → Int32} {i : Nat} (h : K2 a cx cf i) (h1 : ∀ k, k < 16 → cx' (16 * i + k) = cx (16 * i + k)) (h2 : ∀ k, k < 12 → cf' (12 * i + k) = cf (12 * i + k)) (h3 : ∀ k, k < 359 → cf' 65 (360 * i + k) = cf 65 (360 * i + k)) : K2 a cx' cf' i :=
  ⟨h.1, h.2.1.congr h1 h2, fun k hk => (h3 k hk).trans (h.2.2 k hk)⟩
/-! small rows of both sides -/
def wi (x lo hi : Int32) : Bool := decide (lo ≤ x) && decide (x ≤ hi)
theorem nlt_le {x y : Int32} (h : ¬ x < y) : y ≤ x := by
  rw [Int32.lt_iff_toInt_lt] at h
  rw [Int32.le_iff_toInt_le]
  omega
theorem lt_nle {x y : Int32} (h : x < y) : ¬ y ≤ x := by
  rw [Int32.lt_iff_toInt_lt] at h
  rw [Int32.le_iff_toInt_le]
  omega
theorem s_isWithin (x lo hi : Int32) : g_X9_isWithin x lo hi = some (if wi x lo hi then 1 else 0) := by
  unfold g_X9_isWithin wi
  by_cases h1 : x < lo
  · rw [if_pos h1]; simp [lt_nle h1]
  · rw [if_neg h1]
    by_cases h2 : hi < x
    · rw [if_pos h2]; simp [lt_nle h2]
    · rw [if_neg h2]; simp [nlt_le h1, nlt_le h2]
theorem s_in (x lo hi : Int32) : g_X10_in x lo hi = some (if wi x lo hi then 1 else 0) := s_isWithin x lo hi
theorem zb_if (c : Bool) : zb (if c then 1 else 0) = true := by cases c <;> rfl
theorem s_isRule (x : Int32) : g_X9_isRule x = some (if wi x 0 3 then 1 else 0) := by
  unfold g_X9_isRule
  rw [s_isWithin]
  simp only [Option.bind_some, zb_if, if_true]
theorem s_isRuleM (x : Int32) : g_X10_isRule x = some (if wi x 0 3 then 1 else 0) := s_isRule x
theorem s_isCorner (x : Int32) : g_X9_isCorner x = some (if wi x 0 3 then 1 else 0) := s_isRule x
/-- refused: the count for that reason goes up -/
def rfd (f : Nat → Int32) (i : Nat) : Nat → Int32 := upd f i (f i + 1)
theorem s_refB (f : Nat → Int32) (x : Int32) : g_X9_refuse f (-2) x = some (x, rfd f 0) := rfl
theorem s_refN (f : Nat → Int32) (x : Int32) : g_X9_refuse f (-3) x = some (x, rfd f 1) := rfl
theorem s_refF (f : Nat → Int32) (x : Int32) : g_X9_refuse f (-4) x = some (x, rfd f 2) := rfl
theorem s_refMB (f : Nat → Int32) : g_X10_refuse f (-2) = some (-2, rfd f 0) := rfl
theorem s_refMN (f : Nat → Int32) : g_X10_refuse f (-3) = some (-3, rfd f 1) := rfl
theorem s_refMF (f : Nat → Int32) : g_X10_refuse f (-4) = some (-4, rfd f 2) := rfl
theorem s_refAB (f : Nat → Int32) (x : Int32) : g_X10_refuseAs f (-2) x = some (x, rfd f 0) := rfl
theorem s_refAN (f : Nat → Int32) (x : Int32) : g_X10_refuseAs f (-3) x = some (x, rfd f 1) := rfl
theorem if10 (c : Bool) {α : Type} (A B : α) : (if (if c then (1 : Int32) else 0) = 0 then A else B) = if c then B else A := by cases c <;> rfl
theorem wi_nI {x : Int32} {lo hi : Nat} (hlo : lo < 2147483648) (hhi : hi < 2147483648) (h : wi x (nI lo) (nI hi) = true) : ∃ k : Nat, lo ≤ k ∧ k ≤ hi ∧ x = nI k := by
  unfold wi at h
  simp only [Bool.and_eq_true, decide_eq_true_eq, Int32.le_iff_toInt_le, nI_toInt hlo, nI_toInt hhi] at h
  refine ⟨x.toInt.toNat, by omega, by omega, ?_⟩
  apply Int32.toInt_inj.mp
  rw [nI_toInt (by omega)]
  omega
theorem wi_of {k lo hi : Nat} (hk : k < 2147483648) (hlo : lo < 2147483648) (hhi : hi < 2147483648) : wi (nI k) (nI lo) (nI hi) = (decide (lo ≤ k) && decide (k ≤ hi)) := by
  unfold wi
  rw [decide_eq_decide.mpr (nI_leI hlo hk), decide_eq_decide.mpr (nI_leI hk hhi)]
theorem inb_nI {k n : Nat} (hk : k < 2147483648) : inb (nI k) n = decide (k < n) := by
  unfold inb
  have h1 : ¬ nI k < 0 := nI_pos hk
  rw [nI_clamp hk]
  by_cases h : k < n
  · simp [h1, h, Nat.not_le.mpr h]
  · simp [h1, h, Nat.not_lt.mp h]
theorem cl_lit (n : Nat) (h : n < 2147483648) : (OfNat.ofNat n : Int32).toNatClampNeg = n := nI_clamp h
