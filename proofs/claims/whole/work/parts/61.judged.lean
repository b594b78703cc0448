/-! judged -/
theorem s_copy_6 {cap n : Nat} {v : Nat → Int32} (hc : cap < 2147483648) (hn : n ≤ cap) : ∀ (m k f : Nat) (w : Nat → Int32), k + m = n → m < f → (∀ j, j < k → w j = v j) → ∃ w', g_X7_copy_6 cap cap (nI n) v f (nI k) (nI k) w = some (nI n, w') ∧ ∀ j, j < n → w' j = v j := by
  intro m
  induction m with
  | zero =>
    intro k f w h1 h2 h3
    obtain ⟨f, rfl⟩ : ∃ z, f = z + 1 := ⟨f - 1, by omega⟩
    refine ⟨w, ?_, fun j hj => h3 j (by omega)⟩
    rw [g_X7_copy_6, if_pos (nI_le (by omega) (by omega)), show k = n by omega]
  | succ m ih =>
    intro k f w h1 h2 h3
    obtain ⟨f, rfl⟩ : ∃ z, f = z + 1 := ⟨f - 1, by omega⟩
    obtain ⟨w', q1, q2⟩ := ih (k + 1) f (upd w k (v k)) (by omega) (by omega) (fun j hj => by
      unfold upd
      by_cases e : j = k
      · rw [if_pos e, e]
      · rw [if_neg e]; exact h3 j (by omega))
    refine ⟨w', ?_, q2⟩
    rw [g_X7_copy_6, if_neg (fun h => absurd ((e_le (by omega) (by omega)).mp h) (by omega)), s_get hc hn (by omega), Option.bind_some, if_pos (show k < n by omega), s_add hc (by omega), Option.bind_some, z_1]
    exact q1
theorem s_copy {cap n N : Nat} {v : Nat → Int32} (hc : cap < 2147483648) (hn : n ≤ cap) (hN : n < N) (w : Nat → Int32) : ∃ w', g_X7_copy N cap cap w (nI n) v = some (nI n, w') ∧ ∀ j, j < n → w' j = v j := s_copy_6 hc hn n 0 N w (by omega) hN (fun j hj => absurd hj (by omega))
/-- where all are and since when, alike on both sides -/
def JS (a : Nat → Nat) (fw ft gp gs : Nat → Int32) : Prop := ∀ p, p < a 1 → ∃ w t : Nat, w < 4 ∧ t ≤ 24 ∧ fw p = nI w ∧ ft p = nI t ∧ gp p = nI w ∧ gs p = nI t
def bsum (b : Nat) : Nat → Nat
  | 0 => 0
  | k + 1 => bsum b k + b / 2 ^ k % 2
theorem bsum_le (b : Nat) : ∀ k, bsum b k ≤ k := by
  intro k
  induction k with
  | zero => exact Nat.le_refl _
  | succ k ih => have : b / 2 ^ k % 2 < 2 := Nat.mod_lt _ (by decide); rw [bsum]; omega
theorem s_bitCount : ∀ b, b < 32 → g_J6_bitCount_0f7a4 (nI b) = some (nI (bsum b 8)) := by decide +kernel
theorem s_bitsIn_4 {b : Nat} (hb : b < 2147483648) : ∀ (m k f : Nat), k + m = 8 → m < f → g_X10_bitsIn_4 (nI b) f (nI (bsum b k)) (nI k) = some (nI (bsum b 8)) := by
  intro m
  induction m with
  | zero =>
    intro k f h1 h2
    obtain ⟨f, rfl⟩ : ∃ z, f = z + 1 := ⟨f - 1, by omega⟩
    have e : k = 8 := by omega
    subst e
    rw [g_X10_bitsIn_4, if_pos (by decide)]
  | succ m ih =>
    intro k f h1 h2
    obtain ⟨f, rfl⟩ : ∃ z, f = z + 1 := ⟨f - 1, by omega⟩
    rw [g_X10_bitsIn_4, if_neg (show ¬ 8 ≤ nI k from fun h => absurd ((e_le (a := 8) (by decide) (by omega)).mp h) (by omega)), z_shr hb (by omega), z_and1 (Nat.lt_of_le_of_lt (Nat.div_le_self _ _) (by omega)), nI_add, z_1]
    exact ih (k + 1) f (by omega) (by omega)
/-- what is wrong with go k when all who go are ready -/
def wfin (a : Nat → Nat) (r k : Nat) : Nat := if (a 359).testBit (4 * a (57 + k) + a (81 + k)) then (if fitN (a 0) r (bsum (a (105 + k)) 8) then 0 else 3) else 2
theorem wfin_le (a : Nat → Nat) (r k : Nat) : wfin a r k ≤ 3 := by unfold wfin; split <;> (try split) <;> omega
def why (N : Nat) (a : Nat → Nat) (al gp gs : Nat → Int32) (r k : Nat) : Nat → Int32 → Option Int32 := g_X10_whyNot_2 N al gp gs (nI k) (nI r)
theorem s_whyEnd {a : Nat → Nat} {al gp gs : Nat → Int32} {N r k : Nat} (hN : 200 ≤ N) (hI : INV a) (hM : KM a al 0) (hr : r ≤ 3) (hk : k < a 2) : ∀ (m p f : Nat), p + m = 5 → m < f → a 1 ≤ p → g_X10_whyNot_2 N al gp gs (nI k) (nI r) f (nI p) = some (nI (wfin a r k)) := by
  obtain ⟨i1, i2, i3, i4, i5, i6, i7, i8, i9, i10⟩ := hI
  obtain ⟨j0, j1, j2, j3, j4, j5, j6⟩ := id i1
  obtain ⟨g1, g2, g3, g4⟩ := i4 k hk
  have gb := band_lt j1 g4
  intro m
  induction m with
  | zero =>
    intro p f h1 h2 h3
    obtain ⟨f, rfl⟩ : ∃ z, f = z + 1 := ⟨f - 1, by omega⟩
    have e : p = 5 := by omega
    subst e
    have hbl := bsum_le (a (105 + k)) 8
    rw [g_X10_whyNot_2, if_pos (by decide), show (57 : Int32) + nI k = nI (57 + k) from nI_add 57 k, show (81 : Int32) + nI k = nI (81 + k) from nI_add 81 k, show (105 : Int32) + nI k = nI (105 + k) from nI_add 105 k, if_pos (in_n (by omega)), if_pos (in_n (by omega)), nI_clamp (by omega), nI_clamp (by omega), hM.at (by omega), hM.at (by omega), s_hasWayM hM i2 g2 g3, Option.bind_some, if10, if_pos (in_n (by omega)), nI_clamp (by omega), hM.at (by omega)]
    unfold g_X10_bitsIn
    rw [show g_X10_bitsIn_4 (nI (a (105 + k))) N 0 0 = some (nI (bsum (a (105 + k)) 8)) from s_bitsIn_4 (by omega) 8 0 N (by omega) (by omega), Option.bind_some, s_may (hM.at (i := 0) (by decide)) j0 hr (by omega) hN, Option.bind_some, if10]
    unfold wfin
    cases (a 359).testBit (4 * a (57 + k) + a (81 + k)) <;> cases fitN (a 0) r (bsum (a (105 + k)) 8) <;> rfl
  | succ m ih =>
    intro p f h1 h2 h3
    obtain ⟨f, rfl⟩ : ∃ z, f = z + 1 := ⟨f - 1, by omega⟩
    have hf : (a (105 + k)).testBit p = false := Nat.testBit_lt_two_pow (Nat.lt_of_lt_of_le g4 (Nat.pow_le_pow_right (by decide) h3))
    rw [g_X10_whyNot_2, if_neg (show ¬ 5 ≤ nI p from fun h => absurd ((e_le (a := 5) (by decide) (by omega)).mp h) (by omega)), show (105 : Int32) + nI k = nI (105 + k) from nI_add 105 k, if_pos (in_n (by omega)), nI_clamp (by omega), hM.at (by omega), ifi (z_tb (by omega) (by omega)), hf, if_neg (by decide), z_1]
    exact ih (p + 1) f (by omega) (by omega) (by omega)
theorem s_wrong {a : Nat → Nat} {al fw ft gp gs f0 f2 f3 f4 f5 : Nat → Int32} {N r k : Nat} (hN : 200 ≤ N) (hI : INV a) (hM : KM a al 0) (h2 : AR a 2 33 f2) (h3 : AR a 2 57 f3) (h4 : AR a 2 81 f4) (h5 : AR a 2 105 f5) (hr : r ≤ 3) (hk : k < a 2) (hJ : JS a fw ft gp gs) : ∀ (m p f f' : Nat), p + m = a 1 → m < f → m + 5 < f' → ∃ z, z ≤ 3 ∧ g_X0_wrong_9 N (nI (a 1)) ft (nI (a 1)) fw (nI (a 0)) (nI (a 359)) (nI (a 2)) f5 (nI (a 2)) f3 (nI (a 2)) f2 (nI (a 1)) (nI (a 2)) f4 (nI r) (nI k) f (nI p) = some (nI z) ∧ g_X10_whyNot_2 N al gp gs (nI k) (nI r) f' (nI p) = some (nI z) := by
  obtain ⟨i1, i2, i3, i4, i5, i6, i7, i8, i9, i10⟩ := id hI
  obtain ⟨j0, j1, j2, j3, j4, j5, j6⟩ := id i1
  obtain ⟨g1, g2, g3, g4⟩ := i4 k hk
  have gb := band_lt j1 g4
  intro m
  induction m with
  | zero =>
    intro p f f' e1 e2 e3
    obtain ⟨f, rfl⟩ : ∃ z, f = z + 1 := ⟨f - 1, by omega⟩
    have hbl := bsum_le (a (105 + k)) 8
    refine ⟨wfin a r k, wfin_le a r k, ?_, s_whyEnd hN hI hM hr hk (5 - p) p f' (by omega) (by omega) (by omega)⟩
    rw [g_X0_wrong_9, s_people, Option.bind_some, if_pos (nI_le (by omega) (by omega)), s_get (by decide) j2 (by omega), Option.bind_some, if_pos hk, h3 k hk, s_get (by decide) j2 (by omega), Option.bind_some, if_pos hk, h4 k hk, s_hasWay g2 g3, Option.bind_some, if10, s_get (by decide) j2 (by omega), Option.bind_some, if_pos hk, h5 k hk, s_bitCount _ gb, Option.bind_some, s_fits j0 hr (by omega) hN, Option.bind_some, if10]
    unfold wfin
    cases (a 359).testBit (4 * a (57 + k) + a (81 + k)) <;> cases fitN (a 0) r (bsum (a (105 + k)) 8) <;> rfl
  | succ m ih =>
    intro p f f' e1 e2 e3
    obtain ⟨f, rfl⟩ : ∃ z, f = z + 1 := ⟨f - 1, by omega⟩
    obtain ⟨f', rfl⟩ : ∃ z, f' = z + 1 := ⟨f' - 1, by omega⟩
    obtain ⟨z, z1, z2, z3⟩ := ih (p + 1) f f' (by omega) (by omega) (by omega)
    obtain ⟨w, t, w1, w2, w3, w4, w5, w6⟩ := hJ p (by omega)
    rw [g_X0_wrong_9, s_people, Option.bind_some, if_neg (fun h => absurd ((e_le (by omega) (by omega)).mp h) (by omega)), s_goes i1 i4 h5 hk (by omega), Option.bind_some, if10, z_1]
    rw [g_X10_whyNot_2, if_neg (show ¬ 5 ≤ nI p from fun h => absurd ((e_le (a := 5) (by decide) (by omega)).mp h) (by omega)), show (105 : Int32) + nI k = nI (105 + k) from nI_add 105 k, if_pos (in_n (by omega)), nI_clamp (by omega), hM.at (by omega), ifi (z_tb (by omega) (by omega)), z_1]
    cases hb : (a (105 + k)).testBit p with
    | false => rw [if_neg (by decide), if_neg (by decide)]; exact ⟨z, z1, z2, z3⟩
    | true =>
      rw [if_pos rfl, if_pos rfl]
      have hin : inb (nI p) 5 = true := by rw [inb_nI (by omega)]; simp; omega
      rw [if_pos hin, show (57 : Int32) + nI k = nI (57 + k) from nI_add 57 k, show (33 : Int32) + nI k = nI (33 + k) from nI_add 33 k, if_pos (in_n (by omega)), if_pos (in_n (by omega)), nI_clamp (by omega), nI_clamp (by omega), nI_clamp (by omega), hM.at (by omega), hM.at (by omega), w5, w6, ifi (e_eq (by omega) (by omega)), ifi (e_le (by omega) (by omega))]
      unfold g_X0_isReady g_X0_isReady_24
      rw [s_get (by decide) j1 (by omega), Option.bind_some, if_pos (show p < a 1 by omega), w3, s_get (by decide) j2 (by omega), Option.bind_some, if_pos hk, h3 k hk, ifi (e_eq (by omega) (by omega)), s_get (by decide) j1 (by omega), Option.bind_some, if_pos (show p < a 1 by omega), w4, s_get (by decide) j2 (by omega), Option.bind_some, if_pos hk, h2 k hk, ifi (e_lt (by omega) (by omega))]
      by_cases q1 : w = a (57 + k)
      · rw [if_pos q1, if_pos q1, if_neg (by decide)]
        by_cases q2 : t ≤ a (33 + k)
        · rw [if_pos q2, if_neg (by omega)]; exact ⟨z, z1, z2, z3⟩
        · rw [if_neg q2, if_pos (by omega)]; exact ⟨1, by decide, rfl, rfl⟩
      · rw [if_neg q1, if_neg q1, if_pos rfl]; exact ⟨1, by decide, rfl, rfl⟩
theorem s_moveEnd {a : Nat → Nat} {al gp gs rf : Nat → Int32} {k : Nat} (hI : INV a) (hM : KM a al 0) (hk : k < a 2) (K : Int32 → (Nat → Int32) → (Nat → Int32) → (Nat → Int32) → Option (Int32 × (Nat → Int32) × (Nat → Int32) × (Nat → Int32))) : ∀ (m p f : Nat), p + m = 5 → m < f → a 1 ≤ p → g_X10_judged_89 al K f (nI k) (nI p) gp rf gs = K (nI (k + 1)) gp rf gs := by
  obtain ⟨i1, i2, i3, i4, i5, i6, i7, i8, i9, i10⟩ := hI
  obtain ⟨j0, j1, j2, j3, j4, j5, j6⟩ := id i1
  obtain ⟨g1, g2, g3, g4⟩ := i4 k hk
  have gb := band_lt j1 g4
  intro m
  induction m with
  | zero =>
    intro p f h1 h2 h3
    obtain ⟨f, rfl⟩ : ∃ z, f = z + 1 := ⟨f - 1, by omega⟩
    have e : p = 5 := by omega
    subst e
    rw [g_X10_judged_89, if_pos (by decide), z_1]
  | succ m ih =>
    intro p f h1 h2 h3
    obtain ⟨f, rfl⟩ : ∃ z, f = z + 1 := ⟨f - 1, by omega⟩
    have hf : (a (105 + k)).testBit p = false := Nat.testBit_lt_two_pow (Nat.lt_of_lt_of_le g4 (Nat.pow_le_pow_right (by decide) h3))
    rw [g_X10_judged_89, if_neg (show ¬ 5 ≤ nI p from fun h => absurd ((e_le (a := 5) (by decide) (by omega)).mp h) (by omega)), show (105 : Int32) + nI k = nI (105 + k) from nI_add 105 k, if_pos (in_n (by omega)), nI_clamp (by omega), hM.at (by omega), ifi (z_tb (by omega) (by omega)), hf, if_neg (by decide), z_1]
    exact ih (p + 1) f (by omega) (by omega) (by omega)
theorem JS.up {a : Nat → Nat} {fw ft gp gs : Nat → Int32} (h : JS a fw ft gp gs) {p w t : Nat} (hw : w < 4) (ht : t ≤ 24) : JS a (upd fw p (nI w)) (upd ft p (nI t)) (upd gp p (nI w)) (upd gs p (nI t)) := by
  intro q hq
  unfold upd
  by_cases e : q = p
  · rw [if_pos e, if_pos e, if_pos e, if_pos e]; exact ⟨w, t, hw, ht, rfl, rfl, rfl, rfl⟩
  · rw [if_neg e, if_neg e, if_neg e, if_neg e]; exact h q hq
theorem s_move {a : Nat → Nat} {al rf f2 f4 f5 : Nat → Int32} {k : Nat} (hI : INV a) (hM : KM a al 0) (h2 : AR a 2 33 f2) (h4 : AR a 2 81 f4) (h5 : AR a 2 105 f5) (hk : k < a 2) (K : Int32 → (Nat → Int32) → (Nat → Int32) → (Nat → Int32) → Option (Int32 × (Nat → Int32) × (Nat → Int32) × (Nat → Int32))) : ∀ (m p f f' : Nat) (fw ft gp gs : Nat → Int32), p + m = a 1 → m < f → m + 5 < f' → JS a fw ft gp gs → ∃ fw' ft' gp' gs', JS a fw' ft' gp' gs' ∧ g_X0_move_2 (nI (a 1)) (nI (a 1)) (nI (a 2)) f5 (nI (a 2)) f2 (nI (a 1)) (nI (a 2)) f4 (nI k) f (nI p) ft fw = some (ft', fw') ∧ g_X10_judged_89 al K f' (nI k) (nI p) gp rf gs = K (nI (k + 1)) gp' rf gs' := by
  obtain ⟨i1, i2, i3, i4, i5, i6, i7, i8, i9, i10⟩ := id hI
  obtain ⟨j0, j1, j2, j3, j4, j5, j6⟩ := id i1
  obtain ⟨g1, g2, g3, g4⟩ := i4 k hk
  have gb := band_lt j1 g4
  intro m
  induction m with
  | zero =>
    intro p f f' fw ft gp gs e1 e2 e3 hJ
    obtain ⟨f, rfl⟩ : ∃ z, f = z + 1 := ⟨f - 1, by omega⟩
    refine ⟨fw, ft, gp, gs, hJ, ?_, s_moveEnd hI hM hk K (5 - p) p f' (by omega) (by omega) (by omega)⟩
    rw [g_X0_move_2, s_people, Option.bind_some, if_pos (nI_le (by omega) (by omega))]
  | succ m ih =>
    intro p f f' fw ft gp gs e1 e2 e3 hJ
    obtain ⟨f, rfl⟩ : ∃ z, f = z + 1 := ⟨f - 1, by omega⟩
    obtain ⟨f', rfl⟩ : ∃ z, f' = z + 1 := ⟨f' - 1, by omega⟩
    rw [g_X0_move_2, s_people, Option.bind_some, if_neg (fun h => absurd ((e_le (by omega) (by omega)).mp h) (by omega)), s_goes i1 i4 h5 hk (by omega), Option.bind_some, if10, z_1]
    rw [g_X10_judged_89, if_neg (show ¬ 5 ≤ nI p from fun h => absurd ((e_le (a := 5) (by decide) (by omega)).mp h) (by omega)), show (105 : Int32) + nI k = nI (105 + k) from nI_add 105 k, if_pos (in_n (by omega)), nI_clamp (by omega), hM.at (by omega), ifi (z_tb (by omega) (by omega)), z_1]
    cases hb : (a (105 + k)).testBit p with
    | false =>
      rw [if_neg (by decide), if_neg (by decide)]
      exact ih (p + 1) f f' fw ft gp gs (by omega) (by omega) (by omega) hJ
    | true =>
      have hin : inb (nI p) 5 = true := by rw [inb_nI (by omega)]; simp; omega
      rw [if_pos rfl, if_pos rfl, s_get (by decide) j2 (by omega), Option.bind_some, if_pos hk, h4 k hk, s_set (by decide) j1 (by omega), Option.bind_some, s_get (by decide) j2 (by omega), Option.bind_some, if_pos hk, h2 k hk, z_1, s_set (by decide) j1 (by omega), Option.bind_some]
      rw [show (81 : Int32) + nI k = nI (81 + k) from nI_add 81 k, show (33 : Int32) + nI k = nI (33 + k) from nI_add 33 k, if_pos (in_n (by omega)), if_pos hin, if_pos (in_n (by omega)), nI_clamp (by omega), nI_clamp (by omega), nI_clamp (by omega), hM.at (by omega), hM.at (by omega), z_1]
      exact ih (p + 1) f f' _ _ _ _ (by omega) (by omega) (by omega) (hJ.up g3 (by omega))
theorem s_jHome0 {a : Nat → Nat} {al gp gs rf : Nat → Int32} (hI : IC a) (hM : KM a al 0) : ∀ (m p f : Nat), p + m = a 1 → m < f → g_X10_judged_163 al f 0 (nI p) gp rf gs = some (-5, gp, rf, gs) := by
  have j1 := hI.2.1
  intro m
  induction m with
  | zero =>
    intro p f e1 e2
    obtain ⟨f, rfl⟩ : ∃ z, f = z + 1 := ⟨f - 1, by omega⟩
    rw [g_X10_judged_163, if_pos in1, show (1 : Int32).toNatClampNeg = 1 from rfl, hM.at (by decide), if_pos (nI_le (by omega) (by omega)), if_pos rfl]
  | succ m ih =>
    intro p f e1 e2
    obtain ⟨f, rfl⟩ : ∃ z, f = z + 1 := ⟨f - 1, by omega⟩
    rw [g_X10_judged_163, if_pos in1, show (1 : Int32).toNatClampNeg = 1 from rfl, hM.at (by decide), if_neg (fun h => absurd ((e_le (by omega) (by omega)).mp h) (by omega)), if_pos rfl, z_1]
    exact ih (p + 1) f (by omega) (by omega)
theorem s_jHome {a : Nat → Nat} {al fw ft gp gs rf f1 : Nat → Int32} (hI : INV a) (hM : KM a al 0) (h1 : AR a 1 28 f1) (hJ : JS a fw ft gp gs) : ∀ (m p f f' : Nat), p + m = a 1 → m < f → m < f' → ∃ b : Bool, g_X0_allHome_2 (nI (a 1)) fw (nI (a 1)) f1 (nI (a 1)) f (nI p) = some (if b then 1 else 0) ∧ g_X10_judged_163 al f' 1 (nI p) gp rf gs = some (if b then -1 else -5, gp, rf, gs) := by
  obtain ⟨i1, i2, i3, i4, i5, i6, i7, i8, i9, i10⟩ := id hI
  obtain ⟨j0, j1, j2, j3, j4, j5, j6⟩ := id i1
  intro m
  induction m with
  | zero =>
    intro p f f' e1 e2 e3
    obtain ⟨f, rfl⟩ : ∃ z, f = z + 1 := ⟨f - 1, by omega⟩
    obtain ⟨f', rfl⟩ : ∃ z, f' = z + 1 := ⟨f' - 1, by omega⟩
    refine ⟨true, ?_, ?_⟩
    · rw [g_X0_allHome_2, s_people, Option.bind_some, if_pos (nI_le (by omega) (by omega))]; rfl
    · rw [g_X10_judged_163, if_pos in1, show (1 : Int32).toNatClampNeg = 1 from rfl, hM.at (by decide), if_pos (nI_le (by omega) (by omega)), if_neg (by decide)]; rfl
  | succ m ih =>
    intro p f f' e1 e2 e3
    obtain ⟨f, rfl⟩ : ∃ z, f = z + 1 := ⟨f - 1, by omega⟩
    obtain ⟨f', rfl⟩ : ∃ z, f' = z + 1 := ⟨f' - 1, by omega⟩
    obtain ⟨w, t, w1, w2, w3, w4, w5, w6⟩ := hJ p (by omega)
    have hp := i3 p (by omega)
    have hin : inb (nI p) 5 = true := by rw [inb_nI (by omega)]; simp; omega
    rw [g_X0_allHome_2, s_people, Option.bind_some, if_neg (fun h => absurd ((e_le (by omega) (by omega)).mp h) (by omega)), s_get (by decide) j1 (by omega), Option.bind_some, if_pos (show p < a 1 by omega), w3, s_get (by decide) j1 (by omega), Option.bind_some, if_pos (show p < a 1 by omega), h1 p (by omega), ifi (e_eq (by omega) (by omega)), z_1]
    rw [g_X10_judged_163, if_pos in1, show (1 : Int32).toNatClampNeg = 1 from rfl, hM.at (by decide), if_neg (fun h => absurd ((e_le (by omega) (by omega)).mp h) (by omega)), if_neg (show ¬ (1 : Int32) = 0 by decide), if_pos hin, show (28 : Int32) + nI p = nI (28 + p) from nI_add 28 p, if_pos (in_n (by omega)), nI_clamp (by omega), nI_clamp (by omega), w5, hM.at (by omega), ifi (e_eq (by omega) (by omega)), z_1]
    by_cases q : w = a (28 + p)
    · rw [if_pos q, if_pos q]; exact ih (p + 1) f f' (by omega) (by omega) (by omega)
    · rw [if_neg q, if_neg q]; exact ⟨false, rfl, s_jHome0 i1 hM m (p + 1) f' (by omega) (by omega)⟩
/-- the answer: a fault, or all done -/
def JE (a : Nat → Nat) (al rf : Nat → Int32) (N : Nat) (C : Option (Int32 × Int32 × (Nat → Int32) × Int32 × (Nat → Int32))) (M : Option (Int32 × (Nat → Int32) × (Nat → Int32) × (Nat → Int32))) : Prop :=
  ∃ z fw ft gp gs, z ≤ 1000 ∧ C = some (nI z, nI (a 1), ft, nI (a 1), fw) ∧ ((z = 0 ∧ JS a fw ft gp gs ∧ M = g_X10_judged_163 al N 1 0 gp rf gs) ∨ (0 < z ∧ M = some (nI z, gp, rf, gs)))
theorem s_jLoop {a : Nat → Nat} {al rf f2 f3 f4 f5 : Nat → Int32} {N r : Nat} (hN : 200 ≤ N) (hI : INV a) (hM : KM a al 0) (h2 : AR a 2 33 f2) (h3 : AR a 2 57 f3) (h4 : AR a 2 81 f4) (h5 : AR a 2 105 f5) (hr : r ≤ 3) : ∀ (m k f f' : Nat) (fw ft gp gs : Nat → Int32), k + m = a 2 → m < f → m < f' → JS a fw ft gp gs →
    JE a al rf N (g_X0_firstWrong_52 N (nI (a 0)) (nI (a 359)) (nI (a 2)) f5 (nI (a 2)) f3 (nI (a 2)) f2 (nI (a 1)) (nI (a 2)) f4 (nI r) f (nI k) (nI (a 1)) ft (nI (a 1)) fw) (g_X10_judged_58 N al (nI r) f' (nI k) gp rf gs) := by
  obtain ⟨i1, i2, i3, i4, i5, i6, i7, i8, i9, i10⟩ := id hI
  obtain ⟨j0, j1, j2, j3, j4, j5, j6⟩ := id i1
  intro m
  induction m with
  | zero =>
    intro k f f' fw ft gp gs e1 e2 e3 hJ
    obtain ⟨f, rfl⟩ : ∃ z, f = z + 1 := ⟨f - 1, by omega⟩
    obtain ⟨f', rfl⟩ : ∃ z, f' = z + 1 := ⟨f' - 1, by omega⟩
    refine ⟨0, fw, ft, gp, gs, by decide, ?_, Or.inl ⟨rfl, hJ, ?_⟩⟩
    · rw [g_X0_firstWrong_52, show g_X2_gos (nI (a 2)) = some (nI (a 2)) from rfl, Option.bind_some, if_pos (nI_le (by omega) (by omega))]; rfl
    · rw [g_X10_judged_58, if_pos (show inb 2 1080 = true from rfl), show (2 : Int32).toNatClampNeg = 2 from rfl, hM.at (by decide), if_pos (nI_le (by omega) (by omega))]
  | succ m ih =>
    intro k f f' fw ft gp gs e1 e2 e3 hJ
    obtain ⟨f, rfl⟩ : ∃ z, f = z + 1 := ⟨f - 1, by omega⟩
    obtain ⟨f', rfl⟩ : ∃ z, f' = z + 1 := ⟨f' - 1, by omega⟩
    have hk : k < a 2 := by omega
    obtain ⟨z, z1, z2, z3⟩ := s_wrong hN hI hM h2 h3 h4 h5 hr hk hJ (f0 := f2) (a 1) 0 N N (by omega) (by omega) (by omega)
    rw [g_X0_firstWrong_52, show g_X2_gos (nI (a 2)) = some (nI (a 2)) from rfl, Option.bind_some, if_neg (fun h => absurd ((e_le (by omega) (by omega)).mp h) (by omega))]
    unfold g_X0_wrong g_X0_move
    rw [show g_X0_wrong_9 N (nI (a 1)) ft (nI (a 1)) fw (nI (a 0)) (nI (a 359)) (nI (a 2)) f5 (nI (a 2)) f3 (nI (a 2)) f2 (nI (a 1)) (nI (a 2)) f4 (nI r) (nI k) N 0 = some (nI z) from z2, Option.bind_some, ifi (show nI z ≤ 0 ↔ z ≤ 0 from e_le (b := 0) (by omega) (by decide))]
    rw [g_X10_judged_58, if_pos (show inb 2 1080 = true from rfl), show (2 : Int32).toNatClampNeg = 2 from rfl, hM.at (by decide), if_neg (fun h => absurd ((e_le (by omega) (by omega)).mp h) (by omega))]
    unfold g_X10_whyNot
    rw [show g_X10_whyNot_2 N al gp gs (nI k) (nI r) N 0 = some (nI z) from z3, Option.bind_some, ifi (show nI z ≤ 0 ↔ z ≤ 0 from e_le (b := 0) (by omega) (by decide))]
    by_cases q : z ≤ 0
    · rw [if_pos q, if_pos q]
      obtain ⟨fw', ft', gp', gs', y1, y2, y3⟩ := s_move (rf := rf) hI hM h2 h4 h5 hk (g_X10_judged_58 N al (nI r) f') (a 1) 0 N N fw ft gp gs (by omega) (by omega) (by omega) hJ
      rw [show g_X0_move_2 (nI (a 1)) (nI (a 1)) (nI (a 2)) f5 (nI (a 2)) f2 (nI (a 1)) (nI (a 2)) f4 (nI k) N 0 ft fw = some (ft', fw') from y2, Option.bind_some, z_1]
      rw [show g_X10_judged_89 al (g_X10_judged_58 N al (nI r) f') N (nI k) 0 gp rf gs = g_X10_judged_58 N al (nI r) f' (nI (k + 1)) gp' rf gs' from y3]
      exact ih (k + 1) f f' fw' ft' gp' gs' (by omega) (by omega) (by omega) y1
    · rw [if_neg q, if_neg q, show (10 : Int32) * nI k = nI (10 * k) from pk_mul 10 k, nI_add]
      exact ⟨10 * k + z, fw, ft, gp, gs, by omega, rfl, Or.inr ⟨by omega, rfl⟩⟩
theorem s_j26 {a : Nat → Nat} {f2 f3 f4 f5 : Nat → Int32} {N : Nat} {r : Int32} (j1 : a 1 ≤ 5) (fw : Nat → Int32) : ∀ (m p f : Nat) (ft : Nat → Int32), p + m = a 1 → m < f → (∀ q, q < p → ft q = 0) → ∃ ft', (∀ q, q < a 1 → ft' q = 0) ∧ g_X0_firstWrong_26 N (nI (a 0)) (nI (a 359)) (nI (a 2)) f5 (nI (a 2)) f3 (nI (a 2)) f2 (nI (a 1)) (nI (a 2)) f4 r f (nI p) (nI p) ft (nI (a 1)) fw = g_X0_firstWrong_52 N (nI (a 0)) (nI (a 359)) (nI (a 2)) f5 (nI (a 2)) f3 (nI (a 2)) f2 (nI (a 1)) (nI (a 2)) f4 r N 0 (nI (a 1)) ft' (nI (a 1)) fw := by
  intro m
  induction m with
  | zero =>
    intro p f ft e1 e2 h
    obtain ⟨f, rfl⟩ : ∃ z, f = z + 1 := ⟨f - 1, by omega⟩
    have e : p = a 1 := by omega
    subst e
    refine ⟨ft, h, ?_⟩
    rw [g_X0_firstWrong_26, s_people, Option.bind_some, if_pos (nI_le (by omega) (by omega))]
  | succ m ih =>
    intro p f ft e1 e2 h
    obtain ⟨f, rfl⟩ : ∃ z, f = z + 1 := ⟨f - 1, by omega⟩
    obtain ⟨ft', q1, q2⟩ := ih (p + 1) f (upd ft p 0) (by omega) (by omega) (fun q hq => by
      unfold upd
      by_cases e : q = p
      · rw [if_pos e]
      · rw [if_neg e]; exact h q (by omega))
    refine ⟨ft', q1, ?_⟩
    rw [g_X0_firstWrong_26, s_people, Option.bind_some, if_neg (fun h => absurd ((e_le (by omega) (by omega)).mp h) (by omega)), s_add (by decide) (by omega), Option.bind_some, z_1]
    exact q2
theorem s_j18 {a : Nat → Nat} {al rf : Nat → Int32} {N : Nat} {r : Int32} (hI : INV a) (hM : KM a al 0) : ∀ (m p f : Nat) (gp gs : Nat → Int32), p + m = a 1 → m < f → (∀ q, q < p → gp q = nI (a (23 + q)) ∧ gs q = 0) → ∃ gp' gs', (∀ q, q < a 1 → gp' q = nI (a (23 + q)) ∧ gs' q = 0) ∧ g_X10_judged_18 N al r f (nI p) gp rf gs = g_X10_judged_58 N al r N 0 gp' rf gs' := by
  obtain ⟨i1, i2, i3, i4, i5, i6, i7, i8, i9, i10⟩ := id hI
  obtain ⟨j0, j1, j2, j3, j4, j5, j6⟩ := id i1
  intro m
  induction m with
  | zero =>
    intro p f gp gs e1 e2 h
    obtain ⟨f, rfl⟩ : ∃ z, f = z + 1 := ⟨f - 1, by omega⟩
    have e : p = a 1 := by omega
    subst e
    refine ⟨gp, gs, h, ?_⟩
    rw [g_X10_judged_18, if_pos in1, show (1 : Int32).toNatClampNeg = 1 from rfl, hM.at (by decide), if_pos (nI_le (by omega) (by omega))]
  | succ m ih =>
    intro p f gp gs e1 e2 h
    obtain ⟨f, rfl⟩ : ∃ z, f = z + 1 := ⟨f - 1, by omega⟩
    have hin : inb (nI p) 5 = true := by rw [inb_nI (by omega)]; simp; omega
    obtain ⟨gp', gs', q1, q2⟩ := ih (p + 1) f (upd gp p (nI (a (23 + p)))) (upd gs p 0) (by omega) (by omega) (fun q hq => by
      unfold upd
      by_cases e : q = p
      · rw [if_pos e, if_pos e, e]; exact ⟨rfl, rfl⟩
      · rw [if_neg e, if_neg e]; exact h q (by omega))
    refine ⟨gp', gs', q1, ?_⟩
    rw [g_X10_judged_18, if_pos in1, show (1 : Int32).toNatClampNeg = 1 from rfl, hM.at (by decide), if_neg (fun h => absurd ((e_le (by omega) (by omega)).mp h) (by omega)), show (23 : Int32) + nI p = nI (23 + p) from nI_add 23 p, if_pos (in_n (by omega)), if_pos hin, nI_clamp (by omega), nI_clamp (by omega), hM.at (by omega), z_1]
    exact q2
set_option maxHeartbeats 1000000 in
theorem op_judged {WI : q_WI} {N : Nat} (hN : 200 ≤ N) : Op_judged N (Rel WI) := by
  intro cx cf key ms y1 hR
  unfold g_X9_judged g_X10_judged
  rw [s_isRule, s_isRuleM, Option.bind_some, Option.bind_some, if10, if10]
  by_cases hv : wi y1 0 3 = true
  · rw [if_pos hv, if_pos hv]
    obtain ⟨r, -, hr, rfl⟩ := wi_nI (lo := 0) (hi := 3) (by decide) (by decide) hv
    obtain ⟨⟨a, hI, hX, hM⟩, -⟩ := id hR
    obtain ⟨i1, i2, i3, i4, i5, i6, i7, i8, i9, i10⟩ := hI
    obtain ⟨x1, ⟨x2, x3⟩, ⟨x4, x5, x6, x7⟩, x8, x9, ⟨x10, x11⟩, x12, x13⟩ := hX
    obtain ⟨j0, j1, j2, j3, j4, j5, j6⟩ := id i1
    rw [show cx 0 = nI (a 0) from x1.1.1, show cx 3 = nI (a 359) from x1.1.2.2.2, show cx 4 = nI (a 1) from x1.2.1.1, show cx 5 = nI (a 1) from x1.2.1.2.1, show cx 6 = nI (a 2) from x1.2.1.2.2.1, show cx 7 = nI (a 2) from x1.2.1.2.2.2.1, show cx 8 = nI (a 2) from x1.2.1.2.2.2.2.1, show cx 9 = nI (a 2) from x1.2.1.2.2.2.2.2]
    unfold g_X0_firstWrong
    obtain ⟨w', y1, y2⟩ := s_copy (cap := 5) (n := a 1) (N := N) (v := cf 0) (by decide) j1 (by omega) (cf 57)
    rw [y1, Option.bind_some, show g_X7_empty = some (nI 0) from rfl, Option.bind_some]
    obtain ⟨ft', v1, v2⟩ := s_j26 (f2 := cf 2) (f3 := cf 3) (f4 := cf 4) (f5 := cf 5) (N := N) (r := nI r) j1 w' (a 1) 0 N (cf 58) (by omega) (by omega) (fun q hq => absurd hq (by omega))
    obtain ⟨gp', gs', u1, u2⟩ := s_j18 (rf := cf 67) (N := N) (r := nI r) ⟨i1, i2, i3, i4, i5, i6, i7, i8, i9, i10⟩ hM (a 1) 0 N (cf 75) (cf 76) (by omega) (by omega) (fun q hq => absurd hq (by omega))
    have hJ : JS a w' ft' gp' gs' := fun p hp => ⟨a (23 + p), 0, (i3 p hp).1, by omega, (y2 p hp).trans (x2 p hp), v1 p hp, (u1 p hp).1, (u1 p hp).2⟩
    obtain ⟨z, fw, ft, gp, gs, z1, z2, z3⟩ := s_jLoop (rf := cf 67) (N := N) hN ⟨i1, i2, i3, i4, i5, i6, i7, i8, i9, i10⟩ hM x4 x5 x6 x7 hr (a 2) 0 N N w' ft' gp' gs' (by omega) (by omega) (by omega) hJ
    rw [show g_X0_firstWrong_26 N (nI (a 0)) (nI (a 359)) (nI (a 2)) (cf 5) (nI (a 2)) (cf 3) (nI (a 2)) (cf 2) (nI (a 1)) (nI (a 2)) (cf 4) (nI r) N 0 (nI 0) (cf 58) (nI (a 1)) w' = some (nI z, nI (a 1), ft, nI (a 1), fw) from v2.trans z2, Option.bind_some]
    dsimp only
    have hm : g_X10_judged_18 N (cf 65) (nI r) N 0 (cf 75) (cf 67) (cf 76) = _ := u2
    rw [hm]
    rcases z3 with ⟨rfl, k1, k2⟩ | ⟨k1, k2⟩
    · obtain ⟨b, b1, b2⟩ := s_jHome (rf := cf 67) (f1 := cf 1) ⟨i1, i2, i3, i4, i5, i6, i7, i8, i9, i10⟩ hM x3 k1 (a 1) 0 N N (by omega) (by omega) (by omega)
      unfold g_X0_allHome
      rw [if_pos (show nI 0 ≤ 0 by decide), show g_X0_allHome_2 (nI (a 1)) fw (nI (a 1)) (cf 1) (nI (a 1)) N 0 = some (if b then 1 else 0) from b1, Option.bind_some, if10]
      have hm2 : g_X10_judged_58 N (cf 65) (nI r) N 0 gp' (cf 67) gs' = some (if b then -1 else -5, gp, cf 67, gs) := k2.trans b2
      rw [hm2]
      cases b with
      | true => exact ⟨_, _, rfl, rfl, rfl, Rel_ext hR rfl rfl⟩
      | false => exact ⟨_, _, rfl, rfl, rfl, Rel_ext hR rfl rfl⟩
    · have hm2 : g_X10_judged_58 N (cf 65) (nI r) N 0 gp' (cf 67) gs' = some (nI z, gp, cf 67, gs) := k2
      rw [hm2, if_neg (show ¬ nI z ≤ 0 from fun h => absurd ((e_le (a := z) (b := 0) (by omega) (by decide)).mp h) (by omega))]
      exact ⟨_, _, rfl, rfl, rfl, Rel_ext hR rfl rfl⟩
  · rw [if_neg hv, if_neg hv, s_refAB, show g_X9_refuse (cf 36) (-2) (-10) = some (-10, rfd (cf 36) 0) from rfl]
    exact ⟨_, _, rfl, rfl, rfl, Rel_ext (Rel_rfd 0 hR) rfl rfl⟩
