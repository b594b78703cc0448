/-! ends -/
theorem z_tb {v p : Nat} (hv : v < 2147483648) (hp : p < 32) : ((nI v >>> (nI p &&& 31)) &&& 1 = 1) ↔ v.testBit p = true := by
  rw [z_shr hv hp, z_and1 (Nat.lt_of_le_of_lt (Nat.div_le_self _ _) (by omega)), tb]
  cases v.testBit p
  · simp only [Bool.false_eq_true, iff_false]; decide
  · simp only [iff_true]; decide
theorem m1_add (x : Int32) : x - 1 = x + (-1) := Int32.sub_eq_add_neg x 1
/-- where one is behind the first g gos -/
def endc (a : Nat → Nat) (p : Nat) : Nat → Nat
  | 0 => a (23 + p)
  | g + 1 => if (a (105 + g)).testBit p then a (81 + g) else endc a p g
theorem band_lt {a : Nat → Nat} (h1 : a 1 ≤ 5) {k : Nat} (h : a (105 + k) < 2 ^ a 1) : a (105 + k) < 32 := Nat.lt_of_lt_of_le h (Nat.pow_le_pow_right (by decide) h1)
theorem s_goes {a : Nat → Nat} {f : Nat → Int32} (hI : IC a) (hG : IG a) (h : AR a 2 105 f) {k p : Nat} (hk : k < a 2) (hp : p < 32) : g_X2_goes (nI (a 2)) f (nI k) (nI p) = some (if (a (105 + k)).testBit p then 1 else 0) := by
  unfold g_X2_goes
  have h2 := hI.2.2.1
  have hb := band_lt hI.2.1 (hG k hk).2.2.2
  rw [s_get (by decide) h2 (by omega), Option.bind_some, if_pos hk, h k hk, ifi (z_tb (by omega) hp)]
  cases (a (105 + k)).testBit p <;> rfl
theorem s_lastCorner_7 {a : Nat → Nat} {f0 f4 f5 : Nat → Int32} (hI : IC a) (hG : IG a) (h0 : AR a 1 23 f0) (h4 : AR a 2 81 f4) (h5 : AR a 2 105 f5) {p : Nat} (hp : p < a 1) : ∀ (g f : Nat), g ≤ a 2 → g < f → g_X2_lastCorner_7 (nI (a 2)) f5 (nI (a 1)) f0 (nI (a 2)) f4 (nI p) f (nI g + (-1)) = some (nI (endc a p g)) := by
  have j1 := hI.2.1
  have j2 := hI.2.2.1
  intro g
  induction g with
  | zero =>
    intro f h1 h2
    obtain ⟨f, rfl⟩ : ∃ z, f = z + 1 := ⟨f - 1, by omega⟩
    rw [g_X2_lastCorner_7, if_pos (by decide), s_get (by decide) j1 (by omega), if_pos hp, h0 p hp]
    rfl
  | succ g ih =>
    intro f h1 h2
    obtain ⟨f, rfl⟩ : ∃ z, f = z + 1 := ⟨f - 1, by omega⟩
    rw [pk_m1, g_X2_lastCorner_7, if_neg (nI_pos (by omega)), s_goes hI hG h5 (by omega) (by omega), Option.bind_some, if10, ih f (by omega) (by omega), s_get (by decide) j2 (by omega), if_pos (show g < a 2 by omega), h4 g (by omega)]
    show _ = some (nI (if (a (105 + g)).testBit p then a (81 + g) else endc a p g))
    cases (a (105 + g)).testBit p <;> rfl
theorem s_endsM_27 {a : Nat → Nat} {al rf : Nat → Int32} (hI : IC a) (hG : IG a) (hM : KM a al 0) {p : Nat} (hp : p < a 1) : ∀ (m k f : Nat), k + m = a 2 → m < f → g_X10_ends_27 al (nI p) f (nI (endc a p k)) (nI k) rf = some (nI (endc a p (a 2)), rf) := by
  have j1 := hI.2.1
  have j2 := hI.2.2.1
  intro m
  induction m with
  | zero =>
    intro k f h1 h2
    obtain ⟨f, rfl⟩ : ∃ z, f = z + 1 := ⟨f - 1, by omega⟩
    rw [g_X10_ends_27, if_pos (show inb 2 1080 = true from rfl), show (2 : Int32).toNatClampNeg = 2 from rfl, hM.at (by decide), if_pos (nI_le (by omega) (by omega))]
    rw [show k = a 2 by omega]
  | succ m ih =>
    intro k f h1 h2
    obtain ⟨f, rfl⟩ : ∃ z, f = z + 1 := ⟨f - 1, by omega⟩
    have hb := band_lt j1 (hG k (by omega)).2.2.2
    have ih' := ih (k + 1) f (by omega) (by omega)
    rw [show endc a p (k + 1) = if (a (105 + k)).testBit p then a (81 + k) else endc a p k from rfl] at ih'
    rw [g_X10_ends_27, if_pos (show inb 2 1080 = true from rfl), show (2 : Int32).toNatClampNeg = 2 from rfl, hM.at (by decide), if_neg (fun h => absurd ((e_le (by omega) (by omega)).mp h) (by omega)), show (105 : Int32) + nI k = nI (105 + k) from nI_add 105 k, show (81 : Int32) + nI k = nI (81 + k) from nI_add 81 k, if_pos (in_n (by omega)), if_pos (in_n (by omega)), nI_clamp (by omega), nI_clamp (by omega), hM.at (by omega), hM.at (by omega), ifi (z_tb (by omega) (by omega)), z_1]
    cases hb : (a (105 + k)).testBit p with
    | true => rw [hb] at ih'; exact ih'
    | false => rw [hb] at ih'; exact ih'
theorem s_isPerson (n : Nat) (x : Int32) : g_X2_isPerson (nI n) x = some (if kn x n then 1 else 0) := s_isKnot n x
theorem s_isPersonM {al : Nat → Int32} {n : Nat} (h : al 1 = nI n) (x : Int32) : g_X10_isPerson al x = some (if kn x n then 1 else 0) := by
  unfold g_X10_isPerson
  rw [if_pos in1, show (1 : Int32).toNatClampNeg = 1 from rfl, h, s_in, Option.bind_some, if_pos (zb_if _)]
  rfl
theorem op_ends {WI : q_WI} {N : Nat} (hN : 200 ≤ N) : Op_ends N (Rel WI) := by
  intro cx cf key ms y1 hR
  obtain ⟨⟨a, hI, hX, hM⟩, -⟩ := id hR
  obtain ⟨i1, i2, i3, i4, i5, i6, i7, i8, i9, i10⟩ := hI
  obtain ⟨x1, ⟨x2, x3⟩, ⟨x4, x5, x6, x7⟩, x8, x9, ⟨x10, x11⟩, x12, x13⟩ := hX
  obtain ⟨j0, j1, j2, j3, j4, j5, j6⟩ := id i1
  have h1 : cf 65 1 = nI (a 1) := hM.at (by decide)
  unfold g_X9_ends g_X10_ends
  rw [show cx 4 = nI (a 1) from x1.2.1.1, s_isPerson, s_isPersonM h1, Option.bind_some, Option.bind_some, if10, if10]
  by_cases hv : kn y1 (a 1) = true
  · rw [if_pos hv, if_pos hv]
    obtain ⟨p, hp, rfl⟩ := kn_of (by omega) hv
    have e1 := s_lastCorner_7 i1 i4 x2 x6 x7 hp (a 2) N (Nat.le_refl _) (by omega)
    have e2 := s_endsM_27 (rf := cf 67) i1 i4 hM hp (a 2) 0 N (by omega) (by omega)
    unfold g_X2_lastCorner
    rw [show cx 9 = nI (a 2) from x1.2.1.2.2.2.2.2, show cx 6 = nI (a 2) from x1.2.1.2.2.1, show cx 8 = nI (a 2) from x1.2.1.2.2.2.2.1, show g_X2_gos (nI (a 2)) = some (nI (a 2)) from rfl, Option.bind_some, m1_add, show (23 : Int32) + nI p = nI (23 + p) from nI_add 23 p, if_pos (in_n (by omega)), nI_clamp (by omega), hM.at (by omega)]
    refine ⟨(nI (endc a p (a 2)), cf 36), (nI (endc a p (a 2)), cf 67), ?_, e2, rfl, Rel_ext hR rfl rfl⟩
    rw [show g_X2_lastCorner_7 (nI (a 2)) (cf 5) (nI (a 1)) (cf 0) (nI (a 2)) (cf 4) (nI p) N (nI (a 2) + (-1)) = some (nI (endc a p (a 2))) from e1]
    rfl
  · rw [if_neg hv, if_neg hv, s_refB, s_refMB]
    exact ⟨_, _, rfl, rfl, rfl, Rel_ext (Rel_rfd 0 hR) rfl rfl⟩
