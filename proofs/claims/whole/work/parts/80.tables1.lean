/-! tables: both -/
def BN (Q : Nat → Bool) (t s g : Nat) (F : Nat → Nat) (q : Nat) : Nat := if q < 2197 ∧ seat Q t s q = true ∧ sd q ≤ g then F q + (g - sd q) else 9999
theorem s_t121 {a : Nat → Nat} {al : Nat → Int32} {N r t s g : Nat} {F : Nat → Nat} {rf : Nat → Int32} (hN : 200 ≤ N) (hI : IC a) (hM : KM a al 0) (hr : r ≤ 3) (ht : t < 100) (hs : s < 100) (hg : g ≤ 24) (hF : ∀ q, q < 2197 → F q < 9000) (K : Int32 → (Nat → Int32) → (Nat → Int32) → Option (Int32 × (Nat → Int32) × (Nat → Int32))) : ∀ (d m n : Nat) (st : Nat → Int32), m + d = 2197 → d < n → (∀ q, q < m → st q = nI (BN (fitN (a 0) r) t s g F q)) → (∀ q, m ≤ q → q < 2197 → st q = nI (F q)) → ∃ st', g_X10_tables_121 N al (nI r) (nI t) (nI s) K n (nI g) (nI m) rf st = K (nI (g + 1)) rf st' ∧ ∀ q, q < 2197 → st' q = nI (BN (fitN (a 0) r) t s g F q) := by
  intro d
  induction d with
  | zero =>
    intro m n st e1 e2 h1 h2
    obtain ⟨n, rfl⟩ : ∃ z, n = z + 1 := ⟨n - 1, by omega⟩
    exact ⟨st, by rw [g_X10_tables_121, if_pos (show 2197 ≤ nI m from nI_le (a := 2197) (by omega) (by omega)), z_1], fun q hq => h1 q (by omega)⟩
  | succ d ih =>
    intro m n st e1 e2 h1 h2
    obtain ⟨n, rfl⟩ : ∃ z, n = z + 1 := ⟨n - 1, by omega⟩
    have hm : m < 2197 := by omega
    have hFm := hF m hm
    have hsd := sd_le hm
    have hv := h2 m (Nat.le_refl _) hm
    have go : ∀ u : Int32, u = nI (BN (fitN (a 0) r) t s g F m) → ∃ st', g_X10_tables_121 N al (nI r) (nI t) (nI s) K n (nI g) (nI (m + 1)) rf (upd st m u) = K (nI (g + 1)) rf st' ∧ ∀ q, q < 2197 → st' q = nI (BN (fitN (a 0) r) t s g F q) := by
      intro u hu
      refine ih (m + 1) n _ (by omega) (by omega) (fun q hq => ?_) (fun q hq hq2 => by rw [upd_no (by omega)]; exact h2 q (by omega) hq2)
      by_cases e : q = m
      · rw [e, upd_at, hu]
      · rw [upd_no e]; exact h1 q (by omega)
    rw [g_X10_tables_121, if_neg (show ¬ 2197 ≤ nI m from fun h => absurd ((e_le (a := 2197) (by decide) (by omega)).mp h) (by omega)), if_pos (in2197 hm), nI_clamp (by omega), hv, if_neg (show ¬ 9999 ≤ nI (F m) from fun h => absurd ((e_le (a := 9999) (by decide) (by omega)).mp h) (by omega)), s_seated hm, Option.bind_some, ifi (e_lt (a := g) (b := sd m) (by omega) (by omega)), s_isSeating hN hI hM hr ht hs hm, Option.bind_some, if10]
    unfold g_X10_tables_168 g_X10_tables_169
    rw [if_pos (show (0 : Int32) = 0 from rfl), if_pos (in2197 hm), if_neg (show ¬ (1 : Int32) = 0 by decide), if_pos (in2197 hm), nI_clamp (by omega), s_seated hm, Option.bind_some, hv, z_1, nI_add]
    by_cases c : g < sd m
    · rw [if_pos c]; exact go _ (by unfold BN; rw [if_neg (by omega)]; rfl)
    · rw [if_neg c, z_sub (by omega)]
      cases hq : seat (fitN (a 0) r) t s m with
      | false => rw [if_neg (by decide)]; exact go _ (by unfold BN; rw [hq, if_neg (by simp)]; rfl)
      | true => rw [if_pos rfl]; exact go _ (by unfold BN; rw [hq, if_pos ⟨hm, rfl, by omega⟩]; congr 1; omega)
theorem s_t228 {B : Nat → Nat} {st rf : Nat → Int32} {X4 X5 : Int32} (hB : ∀ q, B q ≤ 9999) (hS : ∀ q, q < 2197 → st q = nI (B q)) : ∀ (d m n b y : Nat), m + d = 2197 → d < n → b ≤ 9999 → y ≤ 36 → (∀ q, q < m → b ≤ B q) → (b = 9999 ∨ ∃ q, q < 2197 ∧ b = B q) → (∀ q, q < m → B q < 9999 → sd q ≤ y) → (y = 0 ∨ ∃ q, q < 2197 ∧ B q < 9999 ∧ sd q = y) → ∃ b' y', g_X10_tables_228 X4 X5 n (nI b) (nI y) (nI m) rf st = (if X5 = 0 then some (nI b', rf, st) else some (X4 - nI y', rf, st)) ∧ b' ≤ 9999 ∧ y' ≤ 36 ∧ (∀ q, q < 2197 → b' ≤ B q) ∧ (b' = 9999 ∨ ∃ q, q < 2197 ∧ b' = B q) ∧ (∀ q, q < 2197 → B q < 9999 → sd q ≤ y') ∧ (y' = 0 ∨ ∃ q, q < 2197 ∧ B q < 9999 ∧ sd q = y') := by
  intro d
  induction d with
  | zero =>
    intro m n b y e1 e2 e3 e4 h1 h2 h3 h4
    obtain ⟨n, rfl⟩ : ∃ z, n = z + 1 := ⟨n - 1, by omega⟩
    exact ⟨b, y, by rw [g_X10_tables_228, if_pos (show 2197 ≤ nI m from nI_le (a := 2197) (by omega) (by omega))], e3, e4, fun q hq => h1 q (by omega), h2, fun q hq => h3 q (by omega), h4⟩
  | succ d ih =>
    intro m n b y e1 e2 e3 e4 h1 h2 h3 h4
    obtain ⟨n, rfl⟩ : ∃ z, n = z + 1 := ⟨n - 1, by omega⟩
    have hm : m < 2197 := by omega
    have hBm := hB m
    have hsd := sd_le hm
    have k260 : ∀ b2, b2 = min b (B m) → ∃ b' y', g_X10_tables_260 (g_X10_tables_228 X4 X5 n) (nI y) (nI m) (nI b2) rf st = (if X5 = 0 then some (nI b', rf, st) else some (X4 - nI y', rf, st)) ∧ b' ≤ 9999 ∧ y' ≤ 36 ∧ (∀ q, q < 2197 → b' ≤ B q) ∧ (b' = 9999 ∨ ∃ q, q < 2197 ∧ b' = B q) ∧ (∀ q, q < 2197 → B q < 9999 → sd q ≤ y') ∧ (y' = 0 ∨ ∃ q, q < 2197 ∧ B q < 9999 ∧ sd q = y') := by
      intro b2 hb2
      have g1 : ∀ q, q < m + 1 → b2 ≤ B q := fun q hq => by
        rcases (show q = m ∨ q < m by omega) with rfl | z
        · omega
        · have := h1 q z; omega
      have g2 : b2 = 9999 ∨ ∃ q, q < 2197 ∧ b2 = B q := by
        rcases (show b2 = b ∨ b2 = B m by omega) with z | z
        · rw [z]; exact h2
        · exact Or.inr ⟨m, hm, z⟩
      unfold g_X10_tables_260
      rw [if_pos (in2197 hm), nI_clamp (by omega), hS m hm, ifi (show 9999 ≤ nI (B m) ↔ 9999 ≤ B m from e_le (a := 9999) (b := B m) (by decide) (by omega)), s_seated hm, Option.bind_some, Option.bind_some, ifi (e_le (a := sd m) (b := y) (by omega) (by omega)), z_1]
      by_cases c : 9999 ≤ B m
      · rw [if_pos c]
        exact ih (m + 1) n b2 y (by omega) (by omega) (by omega) e4 g1 g2 (fun q hq hB9 => by
          rcases (show q = m ∨ q < m by omega) with rfl | z
          · omega
          · exact h3 q z hB9) h4
      · rw [if_neg c]
        by_cases c2 : sd m ≤ y
        · rw [if_pos c2]
          exact ih (m + 1) n b2 y (by omega) (by omega) (by omega) e4 g1 g2 (fun q hq hB9 => by
            rcases (show q = m ∨ q < m by omega) with rfl | z
            · exact c2
            · exact h3 q z hB9) h4
        · rw [if_neg c2]
          exact ih (m + 1) n b2 (sd m) (by omega) (by omega) (by omega) hsd g1 g2 (fun q hq hB9 => by
            rcases (show q = m ∨ q < m by omega) with rfl | z
            · exact Nat.le_refl _
            · have := h3 q z hB9; omega) (Or.inr ⟨m, hm, by omega, rfl⟩)
    rw [g_X10_tables_228, if_neg (show ¬ 2197 ≤ nI m from fun h => absurd ((e_le (a := 2197) (by decide) (by omega)).mp h) (by omega)), if_pos (in2197 hm), nI_clamp (by omega), hS m hm, ifi (e_le (a := b) (b := B m) (by omega) (by omega))]
    by_cases c : b ≤ B m
    · rw [if_pos c]; exact k260 b (by omega)
    · rw [if_neg c]; exact k260 (B m) (by omega)
/-- behind g guests -/
def TJ (Q : Nat → Bool) (t s g : Nat) (B : Nat → Nat) : Prop := (∀ q, B q ≤ 9999) ∧ (∀ q, B q < 9999 → q < 2197 ∧ seat Q t s q = true ∧ sd q ≤ g ∧ B q ≤ 24 * g) ∧ ∀ q, q < 2197 → seat Q t s q = true → sd q ≤ g → B q < 9999
def cv (x : Nat) : Nat := if x = 9999 then 1000000 else x
theorem tok_0 (Q : Nat → Bool) (s : Nat) : tok Q s 0 = true := by unfold tok; simp
theorem SZ.le {Q : Nat → Bool} {s F : Nat} {sz : Nat → Nat} (h : SZ Q s F sz) {i : Nat} (hi : i < F) : sz i ≤ s := by
  rcases h.2.2.2.1 i hi with e | ⟨e, -⟩ <;> omega
theorem SZ.tk {Q : Nat → Bool} {s F : Nat} {sz : Nat → Nat} (h : SZ Q s F sz) {i : Nat} (hi : i < F) : tok Q s (sz i) = true := by
  unfold tok
  rcases h.2.2.2.1 i hi with e | ⟨e, e'⟩
  · rw [decide_eq_true e]; rfl
  · rw [decide_eq_true e, e']; simp
theorem SZ.ex {Q : Nat → Bool} {s F : Nat} {sz : Nat → Nat} (h : SZ Q s F sz) {v : Nat} (hv : tok Q s v = true) : ∃ i, i < F ∧ sz i = v := by
  unfold tok at hv
  rw [Bool.or_eq_true, Bool.and_eq_true, decide_eq_true_eq, decide_eq_true_eq] at hv
  exact h.2.2.2.2 v hv
theorem SZ.mono {Q : Nat → Bool} {s F : Nat} {sz : Nat → Nat} (h : SZ Q s F sz) {i j : Nat} (hij : i ≤ j) (hj : j < F) : sz i ≤ sz j := by
  rcases Nat.eq_or_lt_of_le hij with e | e
  · rw [e]; exact Nat.le_refl _
  · exact Nat.le_of_lt (h.2.2.1 i j e hj)
theorem SZ.rev {Q : Nat → Bool} {s F : Nat} {sz : Nat → Nat} (h : SZ Q s F sz) {i j : Nat} (hi : i < F) (hij : sz i ≤ sz j) : i ≤ j := by
  rcases Nat.lt_or_ge j i with e | e
  · have := h.2.2.1 j i e hi; omega
  · exact e
theorem g13_dec {x y z : Nat} (hx : x < 13) (hy : y < 13) (hz : z < 13) : g13 x y z / 169 = x ∧ g13 x y z / 13 % 13 = y ∧ g13 x y z % 13 = z := by unfold g13; omega
theorem seat_in {Q : Nat → Bool} {t s F i j k : Nat} {sz : Nat → Nat} (h : SZ Q s F sz) (hs : s ≤ 12) (hi : i < F) (hj : j < nB t F) (hk : k < nC t F) : seat Q t s (g13 (sz i) (sz j) (sz k)) = true ∧ sd (g13 (sz i) (sz j) (sz k)) = sz i + sz j + sz k ∧ j < F ∧ k < F := by
  have hF := h.1
  have hjF : j < F := by unfold nB at hj; split at hj <;> omega
  have hkF : k < F := by unfold nC at hk; split at hk <;> omega
  have l1 := h.le hi
  have l2 := h.le hjF
  have l3 := h.le hkF
  obtain ⟨d1, d2, d3⟩ := g13_dec (x := sz i) (y := sz j) (z := sz k) (by omega) (by omega) (by omega)
  refine ⟨?_, by unfold sd; rw [d1, d2, d3], hjF, hkF⟩
  unfold seat
  rw [d1, d2, d3, h.tk hi]
  have t2 : tok Q (if t ≤ 1 then 0 else s) (sz j) = true := by
    by_cases c : t ≤ 1
    · unfold nB at hj
      rw [if_pos c] at hj
      rw [show j = 0 by omega, h.2.1]; exact tok_0 _ _
    · rw [if_neg c]; exact h.tk hjF
  have t3 : tok Q (if t ≤ 2 then 0 else s) (sz k) = true := by
    by_cases c : t ≤ 2
    · unfold nC at hk
      rw [if_pos c] at hk
      rw [show k = 0 by omega, h.2.1]; exact tok_0 _ _
    · rw [if_neg c]; exact h.tk hkF
  rw [t2, t3]; rfl
theorem tok_z {Q : Nat → Bool} {v : Nat} (h : tok Q 0 v = true) : v = 0 := by
  unfold tok at h
  rw [Bool.or_eq_true, Bool.and_eq_true, decide_eq_true_eq, decide_eq_true_eq] at h
  omega
theorem seat_out {Q : Nat → Bool} {t s F m : Nat} {sz : Nat → Nat} (h : SZ Q s F sz) (hm : m < 2197) (hS : seat Q t s m = true) : ∃ i j k, i < F ∧ j < nB t F ∧ k < nC t F ∧ m = g13 (sz i) (sz j) (sz k) := by
  unfold seat at hS
  rw [Bool.and_eq_true, Bool.and_eq_true] at hS
  obtain ⟨⟨a1, a2⟩, a3⟩ := hS
  obtain ⟨i, i1, i2⟩ := h.ex a1
  have hF := h.1
  have hj : ∃ j, j < nB t F ∧ sz j = m / 13 % 13 := by
    unfold nB
    by_cases c : t ≤ 1
    · rw [if_pos c] at a2 ⊢
      exact ⟨0, by omega, by rw [h.2.1, tok_z a2]⟩
    · rw [if_neg c] at a2 ⊢
      exact h.ex a2
  have hk : ∃ k, k < nC t F ∧ sz k = m % 13 := by
    unfold nC
    by_cases c : t ≤ 2
    · rw [if_pos c] at a3 ⊢
      exact ⟨0, by omega, by rw [h.2.1, tok_z a3]⟩
    · rw [if_neg c] at a3 ⊢
      exact h.ex a3
  obtain ⟨j, j1, j2⟩ := hj
  obtain ⟨k, k1, k2⟩ := hk
  exact ⟨i, j, k, i1, j1, k1, by rw [i2, j2, k2]; unfold g13; omega⟩
/-- the two leasts are the same -/
theorem PM_same {Q : Nat → Bool} {t s F g i j k v w : Nat} {sz : Nat → Nat} {B : Nat → Nat} (h : SZ Q s F sz) (hs : s ≤ 12) (hJ : TJ Q t s g B) (hi : i < F) (hj : j < nB t F) (hk : k < nC t F) (hv : PM (fun i j k => cv (B (g13 (sz i) (sz j) (sz k)))) i j k v) (hw : PM (fun x y z => B (g13 x y z)) (sz i) (sz j) (sz k) w) : v = w ∧ w ≤ 24 * g := by
  obtain ⟨-, -, hjF, hkF⟩ := seat_in h hs hi hj hk
  obtain ⟨v1, i', j', k', v2, v3, v4, v5⟩ := hv
  obtain ⟨w1, x', y', z', w2, w3, w4, w5⟩ := hw
  obtain ⟨t1, t2, t3⟩ := hJ
  have hnB : 0 < nB t F := by have := h.1; unfold nB; split <;> omega
  have hnC : 0 < nC t F := by have := h.1; unfold nC; split <;> omega
  obtain ⟨s0, s1, -, -⟩ := seat_in (t := t) (i := 0) (j := 0) (k := 0) h hs h.1 hnB hnC
  rw [h.2.1] at s0 s1
  have hz := t3 (g13 0 0 0) (by decide) s0 (by rw [s1]; omega)
  have hw0 := w1 0 0 0 (Nat.zero_le _) (Nat.zero_le _) (Nat.zero_le _)
  have hzb := (t2 _ hz).2.2.2
  have hw9 : B (g13 x' y' z') < 9999 := by
    have : w ≤ B (g13 0 0 0) := hw0
    have w5' : w = B (g13 x' y' z') := w5
    rw [← w5']; omega
  have l1 := h.le hi
  have l2 := h.le hjF
  have l3 := h.le hkF
  have hwv : w ≤ v := by
    have h1 := w1 (sz i') (sz j') (sz k') (h.mono v2 hi) (h.mono v3 hjF) (h.mono v4 hkF)
    have h2 : w ≤ B (g13 (sz i') (sz j') (sz k')) := h1
    rw [v5]
    show w ≤ cv (B (g13 (sz i') (sz j') (sz k')))
    unfold cv
    split <;> omega
  have hvw : v ≤ w := by
    obtain ⟨m1, m2, m3, m4⟩ := t2 _ hw9
    obtain ⟨i2, j2, k2, c1, c2, c3, c4⟩ := seat_out h m1 m2
    obtain ⟨-, -, hj2, hk2⟩ := seat_in (t := t) h hs c1 c2 c3
    have q1 := h.le c1
    have q2 := h.le hj2
    have q3 := h.le hk2
    obtain ⟨d1, d2, d3⟩ := g13_dec (x := x') (y := y') (z := z') (by omega) (by omega) (by omega)
    obtain ⟨f1, f2, f3⟩ := g13_dec (x := sz i2) (y := sz j2) (z := sz k2) (by omega) (by omega) (by omega)
    rw [c4] at d1 d2 d3
    have e1 : sz i2 = x' := f1.symm.trans d1
    have e2 : sz j2 = y' := f2.symm.trans d2
    have e3 : sz k2 = z' := f3.symm.trans d3
    have h1 := v1 i2 j2 k2 (h.rev c1 (by omega)) (h.rev hj2 (by omega)) (h.rev hk2 (by omega))
    have h2 : v ≤ cv (B (g13 (sz i2) (sz j2) (sz k2))) := h1
    rw [w5]
    show v ≤ B (g13 x' y' z')
    rw [e1, e2, e3] at h2
    unfold cv at h2
    rw [if_neg (by omega)] at h2
    exact h2
  have hw0' : w ≤ B (g13 0 0 0) := hw0
  exact ⟨by omega, by omega⟩
theorem TJ.next {Q : Nat → Bool} {t s g : Nat} {B G : Nat → Nat} (hJ : TJ Q t s g B) (hg : g ≤ 23) (hG : ∀ q, q < 2197 → seat Q t s q = true → G q ≤ 24 * g) : TJ Q t s (g + 1) (BN Q t s (g + 1) G) := by
  refine ⟨fun q => ?_, fun q hq => ?_, fun q h1 h2 h3 => ?_⟩
  · unfold BN
    split
    · next h => have := hG q h.1 h.2.1; omega
    · omega
  · unfold BN at hq ⊢
    split at hq
    · next h =>
      rw [if_pos h]
      have := hG q h.1 h.2.1
      exact ⟨h.1, h.2.1, h.2.2, by omega⟩
    · omega
  · unfold BN
    rw [if_pos ⟨h1, h2, h3⟩]
    have := hG q h1 h2
    omega
