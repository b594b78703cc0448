/-! digest -/
def mx (s : Int64) (v : Nat) : Int64 := 31 * s + (nI v).toInt64
def fo (g : Nat → Int64 → Int64) : Nat → Int64 → Int64
  | 0, s => s
  | k + 1, s => g k (fo g k s)
def fA (a : Nat → Nat) (b k : Nat) (s : Int64) : Int64 := mx s (a (b + k))
def fP (a : Nat → Nat) (b c k : Nat) (s : Int64) : Int64 := mx (mx s (a (b + k))) (a (c + k))
def fQ (a : Nat → Nat) (k : Nat) (s : Int64) : Int64 := mx (mx (mx (mx s (a (33 + k))) (a (57 + k))) (a (81 + k))) (a (105 + k))
def fW (a : Nat → Nat) (k : Nat) (s : Int64) : Int64 := if k / 4 ≤ k % 4 then s else mx s (a (7 + k))
def fH (a : Nat → Nat) (k : Nat) (s : Int64) : Int64 := mx s (hm a k)
theorem s_mix (s : Int64) (v : Nat) : g_X9_mix s (nI v) = some (mx s v) := rfl
theorem s_mixM (s : Int64) (v : Nat) : g_X10_mix s (nI v) = some (mx s v) := rfl
theorem s_mixAll {a : Nat → Nat} {c b cap : Nat} {v : Nat → Int32} (hcap : cap < 1000) (hc : a c ≤ cap) (h : AR a c b v) (s : Int64) : ∀ (m k f : Nat), k + m = a c → m < f → g_X9_mixAll_5 cap (nI (a c)) v f (fo (fA a b) k s) (nI k) = some (fo (fA a b) (a c) s) := by
  intro m
  induction m with
  | zero =>
    intro k f h1 h2
    obtain ⟨f, rfl⟩ : ∃ z, f = z + 1 := ⟨f - 1, by omega⟩
    rw [g_X9_mixAll_5, s_size, Option.bind_some, if_pos (nI_le (by omega) (by omega)), show k = a c by omega]
  | succ m ih =>
    intro k f h1 h2
    obtain ⟨f, rfl⟩ : ∃ z, f = z + 1 := ⟨f - 1, by omega⟩
    rw [g_X9_mixAll_5, s_size, Option.bind_some, if_neg (fun h => absurd ((e_le (by omega) (by omega)).mp h) (by omega)), s_get (by omega) hc (by omega), Option.bind_some, if_pos (show k < a c by omega), h k (by omega), s_mix, Option.bind_some, z_1]
    exact ih (k + 1) f (by omega) (by omega)
theorem s_mixAllL {a : Nat → Nat} {v : Nat → Int32} (h : AL a v) (s : Int64) : ∀ (m k f : Nat), k + m = 4 → m < f → g_X9_mixAll_5 4 (nI 4) v f (fo (fA a 345) k s) (nI k) = some (fo (fA a 345) 4 s) := by
  intro m
  induction m with
  | zero =>
    intro k f h1 h2
    obtain ⟨f, rfl⟩ : ∃ z, f = z + 1 := ⟨f - 1, by omega⟩
    rw [g_X9_mixAll_5, s_size, Option.bind_some, if_pos (nI_le (by omega) (by omega)), show k = 4 by omega]
  | succ m ih =>
    intro k f h1 h2
    obtain ⟨f, rfl⟩ : ∃ z, f = z + 1 := ⟨f - 1, by omega⟩
    rw [g_X9_mixAll_5, s_size, Option.bind_some, if_neg (fun h => absurd ((e_le (by omega) (by omega)).mp h) (by omega)), s_get (by omega) (by decide) (by omega), Option.bind_some, if_pos (show k < 4 by omega), h k (by omega), s_mix, Option.bind_some, z_1]
    exact ih (k + 1) f (by omega) (by omega)
theorem s_mixPairs {a : Nat → Nat} {c b d cap : Nat} {v w : Nat → Int32} (hcap : cap < 1000) (hc : a c ≤ cap) (h : AR a c b v) (h' : AR a c d w) (s : Int64) : ∀ (m k f : Nat), k + m = a c → m < f → g_X9_mixPairs_6 cap cap (nI (a c)) v (nI (a c)) w f (fo (fP a b d) k s) (nI k) = some (fo (fP a b d) (a c) s) := by
  intro m
  induction m with
  | zero =>
    intro k f h1 h2
    obtain ⟨f, rfl⟩ : ∃ z, f = z + 1 := ⟨f - 1, by omega⟩
    rw [g_X9_mixPairs_6, s_size, Option.bind_some, if_pos (nI_le (by omega) (by omega)), show k = a c by omega]
  | succ m ih =>
    intro k f h1 h2
    obtain ⟨f, rfl⟩ : ∃ z, f = z + 1 := ⟨f - 1, by omega⟩
    rw [g_X9_mixPairs_6, s_size, Option.bind_some, if_neg (fun h => absurd ((e_le (by omega) (by omega)).mp h) (by omega)), s_get (by omega) hc (by omega), Option.bind_some, if_pos (show k < a c by omega), h k (by omega), s_mix, Option.bind_some, s_get (by omega) hc (by omega), Option.bind_some, if_pos (show k < a c by omega), h' k (by omega), s_mix, Option.bind_some, z_1]
    exact ih (k + 1) f (by omega) (by omega)
theorem s_mixLand_70 {a : Nat → Nat} {f2 f3 f4 f5 : Nat → Int32} (hc : a 2 ≤ 24) (h2 : AR a 2 33 f2) (h3 : AR a 2 57 f3) (h4 : AR a 2 81 f4) (h5 : AR a 2 105 f5) (s : Int64) : ∀ (m k f : Nat), k + m = a 2 → m < f → g_X9_mixLand_70 (nI (a 2)) f5 (nI (a 2)) f3 (nI (a 2)) f2 (nI (a 2)) f4 f (fo (fQ a) k s) (nI k) = some (fo (fQ a) (a 2) s) := by
  intro m
  induction m with
  | zero =>
    intro k f h1 h2
    obtain ⟨f, rfl⟩ : ∃ z, f = z + 1 := ⟨f - 1, by omega⟩
    rw [g_X9_mixLand_70, show g_X2_gos (nI (a 2)) = some (nI (a 2)) from rfl, Option.bind_some, if_pos (nI_le (by omega) (by omega)), show k = a 2 by omega]
  | succ m ih =>
    intro k f h1 hf
    obtain ⟨f, rfl⟩ : ∃ z, f = z + 1 := ⟨f - 1, by omega⟩
    have hk : k < a 2 := by omega
    rw [g_X9_mixLand_70, show g_X2_gos (nI (a 2)) = some (nI (a 2)) from rfl, Option.bind_some, if_neg (fun h => absurd ((e_le (by omega) (by omega)).mp h) (by omega)), s_get (by omega) hc (by omega), Option.bind_some, if_pos hk, h2 k hk, s_mix, Option.bind_some, s_get (by omega) hc (by omega), Option.bind_some, if_pos hk, h3 k hk, s_mix, Option.bind_some, s_get (by omega) hc (by omega), Option.bind_some, if_pos hk, h4 k hk, s_mix, Option.bind_some, s_get (by omega) hc (by omega), Option.bind_some, if_pos hk, h5 k hk, s_mix, Option.bind_some, z_1]
    exact ih (k + 1) f (by omega) (by omega)
def fR (a : Nat → Nat) (i j : Nat) (s : Int64) : Int64 := mx s (a (7 + (4 * i + j)))
theorem s_mixLand_14 {a : Nat → Nat} (hW : IW a) {i : Nat} (hi : i < 4) (K : Int64 → Int32 → Option Int64) (s : Int64) : ∀ (m j f : Nat), j + m = i → m < f → g_X9_mixLand_14 (nI (a 359)) K f (fo (fR a i) j s) (nI i) (nI j) = K (fo (fR a i) i s) (nI (i + 1)) := by
  intro m
  induction m with
  | zero =>
    intro j f h1 h2
    obtain ⟨f, rfl⟩ : ∃ z, f = z + 1 := ⟨f - 1, by omega⟩
    rw [g_X9_mixLand_14, if_pos (nI_le (by omega) (by omega)), show j = i by omega, z_1]
  | succ m ih =>
    intro j f h1 h2
    obtain ⟨f, rfl⟩ : ∃ z, f = z + 1 := ⟨f - 1, by omega⟩
    have ih' := ih (j + 1) f (by omega) (by omega)
    rw [fo, fR, hW.2.1 _ (by omega), tb] at ih'
    rw [g_X9_mixLand_14, if_neg (fun h => absurd ((e_le (by omega) (by omega)).mp h) (by omega)), s_hasWay hi (by omega), Option.bind_some, if10, z_1]
    cases h : (a 359).testBit (4 * i + j) with
    | true => rw [h] at ih'; exact ih'
    | false => rw [h] at ih'; exact ih'
def mW (a : Nat → Nat) : Nat → Nat → Int64 → Int64
  | 0, _, t => t
  | m + 1, i, t => mW a m (i + 1) (fo (fR a i) i t)
def mL (a : Nat → Nat) (s : Int64) : Int64 := fo (fQ a) (a 2) (fo (fP a 23 28) (a 1) (mW a 4 0 s))
theorem s_mixLand_5 {a : Nat → Nat} {f0 f1 f2 f3 f4 f5 : Nat → Int32} {N : Nat} (hN : 200 ≤ N) (hW : IW a) : ∀ (m i f : Nat) (t : Int64), i + m = 4 → m < f → g_X9_mixLand_5 N (nI (a 359)) (nI (a 2)) f5 (nI (a 2)) f3 (nI (a 1)) f1 (nI (a 2)) f2 (nI (a 1)) f0 (nI (a 2)) f4 f t (nI i) = (g_X9_mixPairs N 5 5 (nI (a 1)) f0 (nI (a 1)) f1 (mW a m i t)).bind fun u63 => g_X9_mixLand_70 (nI (a 2)) f5 (nI (a 2)) f3 (nI (a 2)) f2 (nI (a 2)) f4 N u63 0 := by
  intro m
  induction m with
  | zero =>
    intro i f t h1 h2
    obtain ⟨f, rfl⟩ : ∃ z, f = z + 1 := ⟨f - 1, by omega⟩
    rw [g_X9_mixLand_5, if_pos (show 4 ≤ nI i from nI_le (a := 4) (by omega) (by omega))]
    rfl
  | succ m ih =>
    intro i f t h1 h2
    obtain ⟨f, rfl⟩ : ∃ z, f = z + 1 := ⟨f - 1, by omega⟩
    rw [g_X9_mixLand_5, if_neg (show ¬ 4 ≤ nI i from fun h => absurd ((e_le (a := 4) (by decide) (by omega)).mp h) (by omega))]
    refine (s_mixLand_14 hW (by omega) _ t i 0 N (by omega) (by omega)).trans ?_
    exact ih (i + 1) f _ (by omega) (by omega)
theorem s_mixLand {a : Nat → Nat} {f0 f1 f2 f3 f4 f5 : Nat → Int32} {N : Nat} (hN : 200 ≤ N) (hI : IC a) (hW : IW a) (h0 : AR a 1 23 f0) (h1 : AR a 1 28 f1) (h2 : AR a 2 33 f2) (h3 : AR a 2 57 f3) (h4 : AR a 2 81 f4) (h5 : AR a 2 105 f5) (s : Int64) :
    g_X9_mixLand N (nI (a 359)) (nI (a 2)) f5 (nI (a 2)) f3 (nI (a 1)) f1 (nI (a 2)) f2 (nI (a 1)) f0 (nI (a 2)) f4 s = some (mL a s) := by
  have j1 := hI.2.1
  have j2 := hI.2.2.1
  unfold g_X9_mixLand
  refine (s_mixLand_5 hN hW 4 0 N s (by omega) (by omega)).trans ?_
  have hp : ∀ t, g_X9_mixPairs N 5 5 (nI (a 1)) f0 (nI (a 1)) f1 t = some (fo (fP a 23 28) (a 1) t) := fun t => s_mixPairs (by decide) j1 h0 h1 t (a 1) 0 N (by omega) (by omega)
  rw [hp, Option.bind_some]
  have hq : ∀ t, g_X9_mixLand_70 (nI (a 2)) f5 (nI (a 2)) f3 (nI (a 2)) f2 (nI (a 2)) f4 N t 0 = some (fo (fQ a) (a 2) t) := fun t => s_mixLand_70 j2 h2 h3 h4 h5 t (a 2) 0 N (by omega) (by omega)
  exact hq _
/-- the digest -/
def dig (a : Nat → Nat) (u v : Int32) : Int64 :=
  31 * (31 * (mx (mx (fo (fA a 349) (a 6) (fo (fA a 345) 4 (fo (fP a 337 341) (a 5) (fo (fA a 329) (a 4) (fo (fA a 129) (a 3) (mL a (mx (fo (fH a) 7 619) (a 0)))))))) (a 357)) (a 358)) + u.toInt64) + v.toInt64
theorem s_digest_6 {a : Nat → Nat} {cx : Nat → Int32} {cf : Nat → Nat → Int32} {N : Nat} {u v : Int32} (hN : 300 ≤ N) (hI : INV a) (hX : KX a cx cf 0 0) : ∀ (m k f : Nat), k + m = 7 → m < f → g_X9_digest_6 N u v (cx 0) (cx 1) (cx 2) (cx 15) (cf 11) (cx 12) (cf 8) (cx 13) (cf 9) (cx 11) (cf 7) (cx 3) (cx 9) (cf 5) (cx 7) (cf 3) (cx 5) (cf 1) (cx 6) (cf 2) (cx 4) (cf 0) (cx 8) (cf 4) (cx 14) (cf 10) (cx 10) (cf 6) f (fo (fH a) k 619) (nI k) = some (dig a u v) := by
  obtain ⟨i1, i2, i3, i4, i5, i6, i7, i8, i9, i10⟩ := hI
  obtain ⟨x1, ⟨x2, x3⟩, ⟨x4, x5, x6, x7⟩, x8, x9, ⟨x10, x11⟩, x12, x13⟩ := hX
  obtain ⟨j0, j1, j2, j3, j4, j5, j6⟩ := id i1
  obtain ⟨⟨c0, c1, c2, c3⟩, ⟨c4, c5, c6, c7, c8, c9⟩, c10, c11, c12, c13, c14, c15⟩ := x1
  simp only [Nat.zero_add] at c0 c1 c2 c3 c4 c5 c6 c7 c8 c9 c10 c11 c12 c13 c14 c15
  simp only [Nat.zero_add] at x2 x3 x4 x5 x6 x7 x8 x9 x10 x11 x12 x13
  rw [c0, c1, c2, c3, c4, c5, c6, c7, c8, c9, c10, c11, c12, c13, c14, c15]
  intro m
  induction m with
  | zero =>
    intro k f h1 h2
    obtain ⟨f, rfl⟩ : ∃ z, f = z + 1 := ⟨f - 1, by omega⟩
    have e : k = 7 := by omega
    subst e
    unfold g_X9_digest_6 g_X9_mixPairs g_X9_mixAll
    rw [if_pos (by decide), s_mix, Option.bind_some, s_mixLand (by omega) i1 i2 x2 x3 x4 x5 x6 x7, Option.bind_some]
    rw [show ∀ t, g_X9_mixAll_5 200 (nI (a 3)) (cf 6) N t 0 = some (fo (fA a 129) (a 3) t) from fun t => s_mixAll (by decide) j3 x8 t (a 3) 0 N (by omega) (by omega), Option.bind_some]
    rw [show ∀ t, g_X9_mixAll_5 8 (nI (a 4)) (cf 7) N t 0 = some (fo (fA a 329) (a 4) t) from fun t => s_mixAll (by decide) j4 x9 t (a 4) 0 N (by omega) (by omega), Option.bind_some]
    rw [show ∀ t, g_X9_mixPairs_6 4 4 (nI (a 5)) (cf 8) (nI (a 5)) (cf 9) N t 0 = some (fo (fP a 337 341) (a 5) t) from fun t => s_mixPairs (by decide) j5 x10 x11 t (a 5) 0 N (by omega) (by omega), Option.bind_some]
    rw [show ∀ t, g_X9_mixAll_5 4 (nI 4) (cf 10) N t 0 = some (fo (fA a 345) 4 t) from fun t => s_mixAllL x12 t 4 0 N (by omega) (by omega), Option.bind_some]
    rw [show ∀ t, g_X9_mixAll_5 8 (nI (a 6)) (cf 11) N t 0 = some (fo (fA a 349) (a 6) t) from fun t => s_mixAll (by decide) j6 x13 t (a 6) 0 N (by omega) (by omega), Option.bind_some]
    rfl
  | succ m ih =>
    intro k f h1 h2
    obtain ⟨f, rfl⟩ : ∃ z, f = z + 1 := ⟨f - 1, by omega⟩
    rw [g_X9_digest_6, if_neg (show ¬ 7 ≤ nI k from fun h => absurd ((e_le (a := 7) (by decide) (by omega)).mp h) (by omega)), s_howMany i2 (by omega), Option.bind_some, s_mix, Option.bind_some, z_1]
    exact ih (k + 1) f (by omega) (by omega)
theorem s_digM_329 {a : Nat → Nat} {al : Nat → Int32} {u v : Int32} (hI : IC a) (hM : KM a al 0) (s : Int64) : ∀ (m k f : Nat), k + m = (a 6) → m < f → g_X10_digest_329 u v al f (nI k) (fo (fA a 349) k s) = some (31 * (31 * (mx (mx (fo (fA a 349) (a 6) s) (a 357)) (a 358)) + u.toInt64) + v.toInt64, 31 * (31 * (mx (mx (fo (fA a 349) (a 6) s) (a 357)) (a 358)) + u.toInt64) + v.toInt64) := by
  obtain ⟨j0, j1, j2, j3, j4, j5, j6⟩ := id hI
  intro m
  induction m with
  | zero =>
    intro k f h1 h2
    obtain ⟨f, rfl⟩ : ∃ z, f = z + 1 := ⟨f - 1, by omega⟩
    rw [g_X10_digest_329, if_pos (show inb 6 1080 = true from rfl), show (6 : Int32).toNatClampNeg = 6 from rfl, hM.at (i := 6) (by decide), if_pos (nI_le (by omega) (by omega))]
    rw [show (a 6) = k by omega]
    rw [if_pos (show inb 357 1080 = true from rfl), show (357 : Int32).toNatClampNeg = 357 from rfl, hM.at (by decide), s_mixM, Option.bind_some, if_pos (show inb 358 1080 = true from rfl), show (358 : Int32).toNatClampNeg = 358 from rfl, hM.at (by decide), s_mixM, Option.bind_some]
    rfl
  | succ m ih =>
    intro k f h1 h2
    obtain ⟨f, rfl⟩ : ∃ z, f = z + 1 := ⟨f - 1, by omega⟩
    rw [g_X10_digest_329, if_pos (show inb 6 1080 = true from rfl), show (6 : Int32).toNatClampNeg = 6 from rfl, hM.at (i := 6) (by decide), if_neg (fun h => absurd ((e_le (by omega) (by omega)).mp h) (by omega)), show (349 : Int32) + nI k = nI (349 + k) from nI_add 349 k, if_pos (in_n (by omega)), nI_clamp (by omega), hM.at (by omega), s_mixM, Option.bind_some, z_1]
    exact ih (k + 1) f (by omega) (by omega)
theorem s_digM_302 {a : Nat → Nat} {al : Nat → Int32} {N : Nat} {u v : Int32} (hI : IC a) (hM : KM a al 0) (s : Int64) : ∀ (m k f : Nat), k + m = 4 → m < f → g_X10_digest_302 N u v al f (nI k) (fo (fA a 345) k s) = g_X10_digest_329 u v al N 0 (fo (fA a 345) 4 s) := by
  obtain ⟨j0, j1, j2, j3, j4, j5, j6⟩ := id hI
  intro m
  induction m with
  | zero =>
    intro k f h1 h2
    obtain ⟨f, rfl⟩ : ∃ z, f = z + 1 := ⟨f - 1, by omega⟩
    rw [g_X10_digest_302, if_pos (show (4 : Int32) ≤ nI k from nI_le (a := 4) (by omega) (by omega))]
    rw [show 4 = k by omega]
  | succ m ih =>
    intro k f h1 h2
    obtain ⟨f, rfl⟩ : ∃ z, f = z + 1 := ⟨f - 1, by omega⟩
    rw [g_X10_digest_302, if_neg (show ¬ 4 ≤ nI k from fun h => absurd ((e_le (a := 4) (by decide) (by omega)).mp h) (by omega)), show (345 : Int32) + nI k = nI (345 + k) from nI_add 345 k, if_pos (in_n (by omega)), nI_clamp (by omega), hM.at (by omega), s_mixM, Option.bind_some, z_1]
    exact ih (k + 1) f (by omega) (by omega)
theorem s_digM_256 {a : Nat → Nat} {al : Nat → Int32} {N : Nat} {u v : Int32} (hI : IC a) (hM : KM a al 0) (s : Int64) : ∀ (m k f : Nat), k + m = (a 5) → m < f → g_X10_digest_256 N u v al f (nI k) (fo (fP a 337 341) k s) = g_X10_digest_302 N u v al N 0 (fo (fP a 337 341) (a 5) s) := by
  obtain ⟨j0, j1, j2, j3, j4, j5, j6⟩ := id hI
  intro m
  induction m with
  | zero =>
    intro k f h1 h2
    obtain ⟨f, rfl⟩ : ∃ z, f = z + 1 := ⟨f - 1, by omega⟩
    rw [g_X10_digest_256, if_pos (show inb 5 1080 = true from rfl), show (5 : Int32).toNatClampNeg = 5 from rfl, hM.at (i := 5) (by decide), if_pos (nI_le (by omega) (by omega))]
    rw [show (a 5) = k by omega]
  | succ m ih =>
    intro k f h1 h2
    obtain ⟨f, rfl⟩ : ∃ z, f = z + 1 := ⟨f - 1, by omega⟩
    rw [g_X10_digest_256, if_pos (show inb 5 1080 = true from rfl), show (5 : Int32).toNatClampNeg = 5 from rfl, hM.at (i := 5) (by decide), if_neg (fun h => absurd ((e_le (by omega) (by omega)).mp h) (by omega)), show (337 : Int32) + nI k = nI (337 + k) from nI_add 337 k, if_pos (in_n (by omega)), nI_clamp (by omega), hM.at (by omega), s_mixM, Option.bind_some, show (341 : Int32) + nI k = nI (341 + k) from nI_add 341 k, if_pos (in_n (by omega)), nI_clamp (by omega), hM.at (by omega), s_mixM, Option.bind_some, z_1]
    exact ih (k + 1) f (by omega) (by omega)
theorem s_digM_224 {a : Nat → Nat} {al : Nat → Int32} {N : Nat} {u v : Int32} (hI : IC a) (hM : KM a al 0) (s : Int64) : ∀ (m k f : Nat), k + m = (a 4) → m < f → g_X10_digest_224 N u v al f (nI k) (fo (fA a 329) k s) = g_X10_digest_256 N u v al N 0 (fo (fA a 329) (a 4) s) := by
  obtain ⟨j0, j1, j2, j3, j4, j5, j6⟩ := id hI
  intro m
  induction m with
  | zero =>
    intro k f h1 h2
    obtain ⟨f, rfl⟩ : ∃ z, f = z + 1 := ⟨f - 1, by omega⟩
    rw [g_X10_digest_224, if_pos (show inb 4 1080 = true from rfl), show (4 : Int32).toNatClampNeg = 4 from rfl, hM.at (i := 4) (by decide), if_pos (nI_le (by omega) (by omega))]
    rw [show (a 4) = k by omega]
  | succ m ih =>
    intro k f h1 h2
    obtain ⟨f, rfl⟩ : ∃ z, f = z + 1 := ⟨f - 1, by omega⟩
    rw [g_X10_digest_224, if_pos (show inb 4 1080 = true from rfl), show (4 : Int32).toNatClampNeg = 4 from rfl, hM.at (i := 4) (by decide), if_neg (fun h => absurd ((e_le (by omega) (by omega)).mp h) (by omega)), show (329 : Int32) + nI k = nI (329 + k) from nI_add 329 k, if_pos (in_n (by omega)), nI_clamp (by omega), hM.at (by omega), s_mixM, Option.bind_some, z_1]
    exact ih (k + 1) f (by omega) (by omega)
theorem s_digM_192 {a : Nat → Nat} {al : Nat → Int32} {N : Nat} {u v : Int32} (hI : IC a) (hM : KM a al 0) (s : Int64) : ∀ (m k f : Nat), k + m = (a 3) → m < f → g_X10_digest_192 N u v al f (nI k) (fo (fA a 129) k s) = g_X10_digest_224 N u v al N 0 (fo (fA a 129) (a 3) s) := by
  obtain ⟨j0, j1, j2, j3, j4, j5, j6⟩ := id hI
  intro m
  induction m with
  | zero =>
    intro k f h1 h2
    obtain ⟨f, rfl⟩ : ∃ z, f = z + 1 := ⟨f - 1, by omega⟩
    rw [g_X10_digest_192, if_pos (show inb 3 1080 = true from rfl), show (3 : Int32).toNatClampNeg = 3 from rfl, hM.at (i := 3) (by decide), if_pos (nI_le (by omega) (by omega))]
    rw [show (a 3) = k by omega]
  | succ m ih =>
    intro k f h1 h2
    obtain ⟨f, rfl⟩ : ∃ z, f = z + 1 := ⟨f - 1, by omega⟩
    rw [g_X10_digest_192, if_pos (show inb 3 1080 = true from rfl), show (3 : Int32).toNatClampNeg = 3 from rfl, hM.at (i := 3) (by decide), if_neg (fun h => absurd ((e_le (by omega) (by omega)).mp h) (by omega)), show (129 : Int32) + nI k = nI (129 + k) from nI_add 129 k, if_pos (in_n (by omega)), nI_clamp (by omega), hM.at (by omega), s_mixM, Option.bind_some, z_1]
    exact ih (k + 1) f (by omega) (by omega)
theorem s_digM_122 {a : Nat → Nat} {al : Nat → Int32} {N : Nat} {u v : Int32} (hI : IC a) (hM : KM a al 0) (s : Int64) : ∀ (m k f : Nat), k + m = (a 2) → m < f → g_X10_digest_122 N u v al f (nI k) (fo (fQ a) k s) = g_X10_digest_192 N u v al N 0 (fo (fQ a) (a 2) s) := by
  obtain ⟨j0, j1, j2, j3, j4, j5, j6⟩ := id hI
  intro m
  induction m with
  | zero =>
    intro k f h1 h2
    obtain ⟨f, rfl⟩ : ∃ z, f = z + 1 := ⟨f - 1, by omega⟩
    rw [g_X10_digest_122, if_pos (show inb 2 1080 = true from rfl), show (2 : Int32).toNatClampNeg = 2 from rfl, hM.at (i := 2) (by decide), if_pos (nI_le (by omega) (by omega))]
    rw [show (a 2) = k by omega]
  | succ m ih =>
    intro k f h1 h2
    obtain ⟨f, rfl⟩ : ∃ z, f = z + 1 := ⟨f - 1, by omega⟩
    rw [g_X10_digest_122, if_pos (show inb 2 1080 = true from rfl), show (2 : Int32).toNatClampNeg = 2 from rfl, hM.at (i := 2) (by decide), if_neg (fun h => absurd ((e_le (by omega) (by omega)).mp h) (by omega)), show (33 : Int32) + nI k = nI (33 + k) from nI_add 33 k, if_pos (in_n (by omega)), nI_clamp (by omega), hM.at (by omega), s_mixM, Option.bind_some, show (57 : Int32) + nI k = nI (57 + k) from nI_add 57 k, if_pos (in_n (by omega)), nI_clamp (by omega), hM.at (by omega), s_mixM, Option.bind_some, show (81 : Int32) + nI k = nI (81 + k) from nI_add 81 k, if_pos (in_n (by omega)), nI_clamp (by omega), hM.at (by omega), s_mixM, Option.bind_some, show (105 : Int32) + nI k = nI (105 + k) from nI_add 105 k, if_pos (in_n (by omega)), nI_clamp (by omega), hM.at (by omega), s_mixM, Option.bind_some, z_1]
    exact ih (k + 1) f (by omega) (by omega)
theorem s_digM_78 {a : Nat → Nat} {al : Nat → Int32} {N : Nat} {u v : Int32} (hI : IC a) (hM : KM a al 0) (s : Int64) : ∀ (m k f : Nat), k + m = (a 1) → m < f → g_X10_digest_78 N u v al f (nI k) (fo (fP a 23 28) k s) = g_X10_digest_122 N u v al N 0 (fo (fP a 23 28) (a 1) s) := by
  obtain ⟨j0, j1, j2, j3, j4, j5, j6⟩ := id hI
  intro m
  induction m with
  | zero =>
    intro k f h1 h2
    obtain ⟨f, rfl⟩ : ∃ z, f = z + 1 := ⟨f - 1, by omega⟩
    rw [g_X10_digest_78, if_pos (show inb 1 1080 = true from rfl), show (1 : Int32).toNatClampNeg = 1 from rfl, hM.at (i := 1) (by decide), if_pos (nI_le (by omega) (by omega))]
    rw [show (a 1) = k by omega]
  | succ m ih =>
    intro k f h1 h2
    obtain ⟨f, rfl⟩ : ∃ z, f = z + 1 := ⟨f - 1, by omega⟩
    rw [g_X10_digest_78, if_pos (show inb 1 1080 = true from rfl), show (1 : Int32).toNatClampNeg = 1 from rfl, hM.at (i := 1) (by decide), if_neg (fun h => absurd ((e_le (by omega) (by omega)).mp h) (by omega)), show (23 : Int32) + nI k = nI (23 + k) from nI_add 23 k, if_pos (in_n (by omega)), nI_clamp (by omega), hM.at (by omega), s_mixM, Option.bind_some, show (28 : Int32) + nI k = nI (28 + k) from nI_add 28 k, if_pos (in_n (by omega)), nI_clamp (by omega), hM.at (by omega), s_mixM, Option.bind_some, z_1]
    exact ih (k + 1) f (by omega) (by omega)
theorem s_digM_42 {a : Nat → Nat} {al : Nat → Int32} {N : Nat} {u v : Int32} (hM : KM a al 0) (s : Int64) : ∀ (m k f : Nat), k + m = 16 → m < f → g_X10_digest_42 N u v al f (nI k) (fo (fW a) k s) = g_X10_digest_78 N u v al N 0 (fo (fW a) 16 s) := by
  intro m
  induction m with
  | zero =>
    intro k f h1 h2
    obtain ⟨f, rfl⟩ : ∃ z, f = z + 1 := ⟨f - 1, by omega⟩
    have e : k = 16 := by omega
    subst e
    rw [g_X10_digest_42, if_pos (by decide)]
  | succ m ih =>
    intro k f h1 h2
    obtain ⟨f, rfl⟩ : ∃ z, f = z + 1 := ⟨f - 1, by omega⟩
    have ih' := ih (k + 1) f (by omega) (by omega)
    rw [fo, fW] at ih'
    rw [g_X10_digest_42, if_neg (show ¬ 16 ≤ nI k from fun h => absurd ((e_le (a := 16) (by decide) (by omega)).mp h) (by omega)), show nI k - nI k / 4 * 4 = nI (k % 4) from z_rem (d := 4) (by omega) (by decide) (by decide), show nI k / 4 = nI (k / 4) from pk_div (d := 4) (by omega) (by decide) (by decide), ifi (e_le (by omega) (by omega)), show (7 : Int32) + nI k = nI (7 + k) from nI_add 7 k, if_pos (in_n (by omega)), nI_clamp (by omega), hM.at (by omega), s_mixM, Option.bind_some, z_1]
    by_cases h : k / 4 ≤ k % 4
    · rw [if_pos h] at ih' ⊢; exact ih'
    · rw [if_neg h] at ih' ⊢; exact ih'
theorem fW_16 (a : Nat → Nat) (s : Int64) : fo (fW a) 16 s = mW a 4 0 s := rfl
theorem s_digM_9 {a : Nat → Nat} {al : Nat → Int32} {N : Nat} {u v : Int32} (hN : 300 ≤ N) (hI : INV a) (hM : KM a al 0) : ∀ (m k f : Nat), k + m = 7 → m < f → g_X10_digest_9 N u v al f (nI k) (fo (fH a) k 619) = some (dig a u v, dig a u v) := by
  obtain ⟨i1, i2, -⟩ := hI
  obtain ⟨j0, j1, j2, j3, j4, j5, j6⟩ := id i1
  intro m
  induction m with
  | zero =>
    intro k f h1 h2
    obtain ⟨f, rfl⟩ : ∃ z, f = z + 1 := ⟨f - 1, by omega⟩
    have e : k = 7 := by omega
    subst e
    rw [g_X10_digest_9, if_pos (by decide), if_pos (show inb 0 1080 = true from rfl), show (0 : Int32).toNatClampNeg = 0 from rfl, hM.at (by decide), s_mixM, Option.bind_some]
    rw [show ∀ t, g_X10_digest_42 N u v al N 0 t = g_X10_digest_78 N u v al N 0 (fo (fW a) 16 t) from fun t => s_digM_42 hM t 16 0 N (by omega) (by omega), fW_16]
    rw [show ∀ t, g_X10_digest_78 N u v al N 0 t = g_X10_digest_122 N u v al N 0 (fo (fP a 23 28) (a 1) t) from fun t => s_digM_78 i1 hM t (a 1) 0 N (by omega) (by omega)]
    rw [show ∀ t, g_X10_digest_122 N u v al N 0 t = g_X10_digest_192 N u v al N 0 (fo (fQ a) (a 2) t) from fun t => s_digM_122 i1 hM t (a 2) 0 N (by omega) (by omega)]
    rw [show ∀ t, g_X10_digest_192 N u v al N 0 t = g_X10_digest_224 N u v al N 0 (fo (fA a 129) (a 3) t) from fun t => s_digM_192 i1 hM t (a 3) 0 N (by omega) (by omega)]
    rw [show ∀ t, g_X10_digest_224 N u v al N 0 t = g_X10_digest_256 N u v al N 0 (fo (fA a 329) (a 4) t) from fun t => s_digM_224 i1 hM t (a 4) 0 N (by omega) (by omega)]
    rw [show ∀ t, g_X10_digest_256 N u v al N 0 t = g_X10_digest_302 N u v al N 0 (fo (fP a 337 341) (a 5) t) from fun t => s_digM_256 i1 hM t (a 5) 0 N (by omega) (by omega)]
    rw [show ∀ t, g_X10_digest_302 N u v al N 0 t = g_X10_digest_329 u v al N 0 (fo (fA a 345) 4 t) from fun t => s_digM_302 i1 hM t 4 0 N (by omega) (by omega)]
    rw [show ∀ t, g_X10_digest_329 u v al N 0 t = some (31 * (31 * (mx (mx (fo (fA a 349) (a 6) t) (a 357)) (a 358)) + u.toInt64) + v.toInt64, 31 * (31 * (mx (mx (fo (fA a 349) (a 6) t) (a 357)) (a 358)) + u.toInt64) + v.toInt64) from fun t => s_digM_329 i1 hM t (a 6) 0 N (by omega) (by omega)]
    rfl
  | succ m ih =>
    intro k f h1 h2
    obtain ⟨f, rfl⟩ : ∃ z, f = z + 1 := ⟨f - 1, by omega⟩
    rw [g_X10_digest_9, if_neg (show ¬ 7 ≤ nI k from fun h => absurd ((e_le (a := 7) (by decide) (by omega)).mp h) (by omega)), s_countOf (by omega) i2 hM (by omega), Option.bind_some, s_mixM, Option.bind_some, z_1]
    exact ih (k + 1) f (by omega) (by omega)
theorem op_digest {WI : q_WI} {N : Nat} (hN : 300 ≤ N) : Op_digest N (Rel WI) := by
  intro cx cf key ms hR
  obtain ⟨⟨a, hI, hX, hM⟩, -⟩ := id hR
  refine ⟨dig a (cx 49) (cx 50), (dig a (cx 77) (cx 78), dig a (cx 77) (cx 78)), ?_, s_digM_9 hN hI hM 7 0 N (by omega) (by omega), ?_, Rel_ext hR rfl rfl⟩
  · exact s_digest_6 hN hI hX 7 0 N (by omega) (by omega)
  · rw [hR.2.2.1.1, hR.2.2.1.2]
