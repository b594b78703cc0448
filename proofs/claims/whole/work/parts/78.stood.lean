/-! tables: class, who stands -/
/-- v is the least of f at or below x y z -/
def PM (f : Nat → Nat → Nat → Nat) (x y z v : Nat) : Prop := (∀ x' y' z', x' ≤ x → y' ≤ y → z' ≤ z → v ≤ f x' y' z') ∧ ∃ x' y' z', x' ≤ x ∧ y' ≤ y ∧ z' ≤ z ∧ v = f x' y' z'
theorem imp_same {st : Nat → Int32} {p v : Nat} (hp : p < 2197) (hs : st p = nI v) : g_X5_improve st (nI p) (nI p) = some st := by
  unfold g_X5_improve
  rw [if_neg (nI_pos (by omega)), if_neg (show ¬ 2197 ≤ nI p from fun h => absurd ((e_le (a := 2197) (by decide) (by omega)).mp h) (by omega)), if_pos (in2197 hp), if_pos (in2197 hp), nI_clamp (by omega), if_pos (Int32.le_refl _)]
theorem imp_two {st : Nat → Int32} {p q v w : Nat} (hp : p < 2197) (hq : q < 2197) (hs : st p = nI v) (ht : st q = nI w) (hv : v < 2147483648) (hw : w < 2147483648) : ∃ st', g_X5_improve st (nI p) (nI q) = some st' ∧ st' p = nI (min v w) ∧ ∀ u, u ≠ p → st' u = st u := by
  unfold g_X5_improve
  rw [if_neg (nI_pos (by omega)), if_neg (show ¬ 2197 ≤ nI p from fun h => absurd ((e_le (a := 2197) (by decide) (by omega)).mp h) (by omega)), if_pos (in2197 hq), if_pos (in2197 hp), nI_clamp (by omega), nI_clamp (by omega), hs, ht, ifi (e_le hv hw)]
  by_cases c : v ≤ w
  · rw [if_pos c]; exact ⟨st, rfl, by rw [hs, show min v w = v by omega], fun _ _ => rfl⟩
  · rw [if_neg c]; exact ⟨_, rfl, by rw [upd_at, show min v w = w by omega], fun u hu => upd_no hu⟩
/-- the states before m are done -/
def DN (A B C : Nat) (f : Nat → Nat → Nat → Nat) (m : Nat) (st : Nat → Int32) : Prop := ∀ i j k, i < A → j < B → k < C → (ix B C i j k < m → ∃ v, st (ix B C i j k) = nI v ∧ PM f i j k v) ∧ (m ≤ ix B C i j k → st (ix B C i j k) = nI (f i j k))
/-- one look down: v' is v, or less -/
theorem imp_step {A B C i j k i2 j2 k2 v : Nat} {f : Nat → Nat → Nat → Nat} {st st0 : Nat → Int32} (hA : A ≤ 13) (hB : B ≤ 13) (hC : C ≤ 13) (hf : ∀ x y z, f x y z ≤ 1500000) (hi : i < A) (hj : j < B) (hk : k < C) (hi2 : i2 ≤ i) (hj2 : j2 ≤ j) (hk2 : k2 ≤ k) (hD : DN A B C f (ix B C i j k) st0) (hlt : ix B C i2 j2 k2 < ix B C i j k) (hst : ∀ u, u ≠ ix B C i j k → st u = st0 u) (hv : st (ix B C i j k) = nI v) (hE : ∃ x' y' z', x' ≤ i ∧ y' ≤ j ∧ z' ≤ k ∧ v = f x' y' z') : ∃ st' v', g_X5_improve st (nI (ix B C i j k)) (nI (ix B C i2 j2 k2)) = some st' ∧ (∀ u, u ≠ ix B C i j k → st' u = st0 u) ∧ st' (ix B C i j k) = nI v' ∧ v' ≤ v ∧ (∃ x' y' z', x' ≤ i ∧ y' ≤ j ∧ z' ≤ k ∧ v' = f x' y' z') ∧ ∀ x' y' z', x' ≤ i2 → y' ≤ j2 → z' ≤ k2 → v' ≤ f x' y' z' := by
  have habc := abc_le hA hB hC
  have hl := ix_lt3 hi hj hk
  obtain ⟨w, w1, w2, w3⟩ := (hD i2 j2 k2 (by omega) (by omega) (by omega)).1 hlt
  obtain ⟨e1, e2, e3, e4⟩ := hE
  obtain ⟨a1, a2, a3, a4, a5, a6, a7⟩ := w3
  have hvb : v ≤ 1500000 := by rw [e4.2.2.2]; exact hf _ _ _
  have hwb : w ≤ 1500000 := by rw [a7]; exact hf _ _ _
  obtain ⟨st', s1, s2, s3⟩ := imp_two (st := st) (p := ix B C i j k) (q := ix B C i2 j2 k2) (v := v) (w := w) (by omega) (by omega) hv (by rw [hst _ (by omega)]; exact w1) (by omega) (by omega)
  refine ⟨st', min v w, s1, fun u hu => by rw [s3 u hu, hst u hu], s2, by omega, ?_, fun x' y' z' q1 q2 q3 => by have := w2 x' y' z' q1 q2 q3; omega⟩
  rcases (show min v w = v ∨ min v w = w by omega) with q | q <;> rw [q]
  · exact ⟨e1, e2, e3, e4⟩
  · exact ⟨a1, a2, a3, by omega, by omega, by omega, a7⟩
theorem s_sit_25 {A B C : Nat} {f : Nat → Nat → Nat → Nat} (hA : A ≤ 13) (hB : B ≤ 13) (hC : C ≤ 13) (hf : ∀ x y z, f x y z ≤ 1500000) (K : Int32 → Int32 → Int32 → (Nat → Int32) → Option (Nat → Int32)) {i j : Nat} (hi : i < A) (hj : j < B) : ∀ (d k n : Nat) (st : Nat → Int32), k + d = C → d < n → DN A B C f (ix B C i j k) st → ∃ st', g_X5_sitDown_25 (nI B) (nI C) K n (nI (ix B C i j k)) (nI i) (nI j) (nI k) st = K (nI (ix B C i (j + 1) 0)) (nI i) (nI (j + 1)) st' ∧ DN A B C f (ix B C i (j + 1) 0) st' := by
  have habc := abc_le hA hB hC
  intro d
  induction d with
  | zero =>
    intro k n st e1 e2 h
    obtain ⟨n, rfl⟩ : ∃ z, n = z + 1 := ⟨n - 1, by omega⟩
    have e : k = C := by omega
    rw [e, ix_j] at h
    exact ⟨st, by rw [g_X5_sitDown_25, if_pos (nI_le (by omega) (by omega)), z_1, e, ix_j], h⟩
  | succ d ih =>
    intro k n st e1 e2 h
    obtain ⟨n, rfl⟩ : ∃ z, n = z + 1 := ⟨n - 1, by omega⟩
    have hk : k < C := by omega
    have hl := ix_lt3 hi hj hk
    have h0 : st (ix B C i j k) = nI (f i j k) := (h i j k hi hj hk).2 (Nat.le_refl _)
    -- first table
    have s1 : ∃ st1 v1, (∀ X : Option (Nat → Int32) → Option (Nat → Int32), True) ∧ (if i = 0 then g_X5_improve st (nI (ix B C i j k)) (nI (ix B C i j k)) else g_X5_improve st (nI (ix B C i j k)) (nI (ix B C i j k) - nI B * nI C)) = some st1 ∧ (∀ u, u ≠ ix B C i j k → st1 u = st u) ∧ st1 (ix B C i j k) = nI v1 ∧ v1 ≤ f i j k ∧ (∃ x' y' z', x' ≤ i ∧ y' ≤ j ∧ z' ≤ k ∧ v1 = f x' y' z') ∧ (0 < i → ∀ x' y' z', x' ≤ i - 1 → y' ≤ j → z' ≤ k → v1 ≤ f x' y' z') := by
      by_cases c : i = 0
      · rw [if_pos c]
        exact ⟨st, f i j k, fun _ => trivial, imp_same (by omega) h0, fun _ _ => rfl, h0, Nat.le_refl _, ⟨i, j, k, Nat.le_refl _, Nat.le_refl _, Nat.le_refl _, rfl⟩, fun h => by omega⟩
      · rw [if_neg c]
        have hp := ix_pi B C (i - 1) j k
        rw [show i - 1 + 1 = i by omega] at hp
        have hBC : 0 < B * C := Nat.mul_pos (by omega) (by omega)
        obtain ⟨st', v', a1, a2, a3, a4, a5, a6⟩ := imp_step (i2 := i - 1) (j2 := j) (k2 := k) hA hB hC hf hi hj hk (by omega) (Nat.le_refl _) (Nat.le_refl _) h (by omega) (fun u _ => rfl) h0 ⟨i, j, k, Nat.le_refl _, Nat.le_refl _, Nat.le_refl _, rfl⟩
        refine ⟨st', v', fun _ => trivial, ?_, a2, a3, a4, a5, fun _ => a6⟩
        rw [z_mul, z_sub (by omega), show ix B C i j k - B * C = ix B C (i - 1) j k by omega]
        exact a1
    obtain ⟨st1, v1, -, s1, b1, b2, b3, b4, b5⟩ := s1
    have s2 : ∃ st2 v2, (if j = 0 then g_X5_improve st1 (nI (ix B C i j k)) (nI (ix B C i j k)) else g_X5_improve st1 (nI (ix B C i j k)) (nI (ix B C i j k) - nI C)) = some st2 ∧ (∀ u, u ≠ ix B C i j k → st2 u = st u) ∧ st2 (ix B C i j k) = nI v2 ∧ v2 ≤ v1 ∧ (∃ x' y' z', x' ≤ i ∧ y' ≤ j ∧ z' ≤ k ∧ v2 = f x' y' z') ∧ (0 < j → ∀ x' y' z', x' ≤ i → y' ≤ j - 1 → z' ≤ k → v2 ≤ f x' y' z') := by
      by_cases c : j = 0
      · rw [if_pos c]
        exact ⟨st1, v1, imp_same (by omega) b2, b1, b2, Nat.le_refl _, b4, fun h => by omega⟩
      · rw [if_neg c]
        have hp := ix_pj B C i (j - 1) k
        rw [show j - 1 + 1 = j by omega] at hp
        obtain ⟨st', v', a1, a2, a3, a4, a5, a6⟩ := imp_step (i2 := i) (j2 := j - 1) (k2 := k) hA hB hC hf hi hj hk (Nat.le_refl _) (by omega) (Nat.le_refl _) h (by omega) b1 b2 b4
        refine ⟨st', v', ?_, a2, a3, a4, a5, fun _ => a6⟩
        rw [z_sub (by omega), show ix B C i j k - C = ix B C i (j - 1) k by omega]
        exact a1
    obtain ⟨st2, v2, s2, c1, c2, c3, c4, c5⟩ := s2
    have s3 : ∃ st3 v3, (if k = 0 then g_X5_improve st2 (nI (ix B C i j k)) (nI (ix B C i j k)) else g_X5_improve st2 (nI (ix B C i j k)) (nI (ix B C i j k) - 1)) = some st3 ∧ (∀ u, u ≠ ix B C i j k → st3 u = st u) ∧ st3 (ix B C i j k) = nI v3 ∧ v3 ≤ v2 ∧ (∃ x' y' z', x' ≤ i ∧ y' ≤ j ∧ z' ≤ k ∧ v3 = f x' y' z') ∧ (0 < k → ∀ x' y' z', x' ≤ i → y' ≤ j → z' ≤ k - 1 → v3 ≤ f x' y' z') := by
      by_cases c : k = 0
      · rw [if_pos c]
        exact ⟨st2, v2, imp_same (by omega) c2, c1, c2, Nat.le_refl _, c4, fun h => by omega⟩
      · rw [if_neg c]
        have hp := ix_k B C i j (k - 1)
        rw [show k - 1 + 1 = k by omega] at hp
        obtain ⟨st', v', a1, a2, a3, a4, a5, a6⟩ := imp_step (i2 := i) (j2 := j) (k2 := k - 1) hA hB hC hf hi hj hk (Nat.le_refl _) (Nat.le_refl _) (by omega) h (by omega) c1 c2 c4
        refine ⟨st', v', ?_, a2, a3, a4, a5, fun _ => a6⟩
        rw [z_sub1 (by omega), show ix B C i j k - 1 = ix B C i j (k - 1) by omega]
        exact a1
    obtain ⟨st3, v3, s3, d1, d2, d3, d4, d5⟩ := s3
    have hPM : PM f i j k v3 := by
      refine ⟨fun x' y' z' q1 q2 q3 => ?_, d4⟩
      by_cases p1 : x' < i
      · have := b5 (by omega) x' y' z' (by omega) q2 q3; omega
      · by_cases p2 : y' < j
        · have := c5 (by omega) x' y' z' q1 (by omega) q3; omega
        · by_cases p3 : z' < k
          · exact d5 (by omega) x' y' z' q1 q2 (by omega)
          · rw [show x' = i by omega, show y' = j by omega, show z' = k by omega]; omega
    obtain ⟨st', x1, x2⟩ := ih (k + 1) n st3 (by omega) (by omega) (fun i' j' k' hi' hj' hk' => by
      by_cases q : ix B C i' j' k' = ix B C i j k
      · obtain ⟨q1, q2, q3⟩ := ix3_inj hj' hk' hj hk q
        subst q1; subst q2; subst q3
        exact ⟨fun _ => ⟨v3, d2, hPM⟩, fun hh => by have := ix_k B C i' j' k'; omega⟩
      · rw [d1 _ q]
        have := ix_k B C i j k
        exact ⟨fun hh => (h i' j' k' hi' hj' hk').1 (by omega), fun hh => (h i' j' k' hi' hj' hk').2 (by omega)⟩)
    refine ⟨st', ?_, x2⟩
    rw [← x1]
    have hfin : ∀ st2', (if k = 0 then g_X5_improve st2' (nI (ix B C i j k)) (nI (ix B C i j k)) else g_X5_improve st2' (nI (ix B C i j k)) (nI (ix B C i j k) - 1)) = some st3 → (if nI k ≤ 0 then (g_X5_improve st2' (nI (ix B C i j k)) (nI (ix B C i j k))).bind fun u91 => g_X5_sitDown_25 (nI B) (nI C) K n (nI (ix B C i j k) + 1) (nI i) (nI j) (nI k + 1) u91 else (g_X5_improve st2' (nI (ix B C i j k)) (nI (ix B C i j k) - 1)).bind fun u91 => g_X5_sitDown_25 (nI B) (nI C) K n (nI (ix B C i j k) + 1) (nI i) (nI j) (nI k + 1) u91) = g_X5_sitDown_25 (nI B) (nI C) K n (nI (ix B C i j (k + 1))) (nI i) (nI j) (nI (k + 1)) st3 := by
      intro st2' hh
      rw [ifi (show nI k ≤ 0 ↔ k = 0 from (e_le (b := 0) (by omega) (by decide)).trans (by omega)), z_1, z_1, ix_k]
      by_cases c : k = 0
      · rw [if_pos c] at hh ⊢; rw [hh, Option.bind_some]
      · rw [if_neg c] at hh ⊢; rw [hh, Option.bind_some]
    have h74 : ∀ (t2 : Int32), g_X5_improve st1 (nI (ix B C i j k)) t2 = some st2 → g_X5_sitDown_74 (g_X5_sitDown_25 (nI B) (nI C) K n) (nI (ix B C i j k)) (nI i) (nI j) (nI k) (nI (ix B C i j k)) t2 st1 = g_X5_sitDown_25 (nI B) (nI C) K n (nI (ix B C i j (k + 1))) (nI i) (nI j) (nI (k + 1)) st3 := by
      intro t2 hh
      unfold g_X5_sitDown_74
      rw [hh, Option.bind_some]
      exact hfin st2 s3
    have h55 : ∀ (t2 : Int32), g_X5_improve st (nI (ix B C i j k)) t2 = some st1 → g_X5_sitDown_55 (nI C) (g_X5_sitDown_25 (nI B) (nI C) K n) (nI (ix B C i j k)) (nI i) (nI j) (nI k) (nI (ix B C i j k)) t2 st = g_X5_sitDown_25 (nI B) (nI C) K n (nI (ix B C i j (k + 1))) (nI i) (nI j) (nI (k + 1)) st3 := by
      intro t2 hh
      unfold g_X5_sitDown_55
      rw [hh, Option.bind_some, ifi (show nI j ≤ 0 ↔ j = 0 from (e_le (b := 0) (by omega) (by decide)).trans (by omega))]
      by_cases c : j = 0
      · rw [if_pos c] at s2 ⊢; exact h74 _ s2
      · rw [if_neg c] at s2 ⊢; exact h74 _ s2
    rw [g_X5_sitDown_25, if_neg (fun h => absurd ((e_le (by omega) (by omega)).mp h) (by omega)), ifi (show nI i ≤ 0 ↔ i = 0 from (e_le (b := 0) (by omega) (by decide)).trans (by omega))]
    by_cases c : i = 0
    · rw [if_pos c] at s1 ⊢; exact h55 _ s1
    · rw [if_neg c] at s1 ⊢; exact h55 _ s1
theorem s_sit_14 {A B C N : Nat} {f : Nat → Nat → Nat → Nat} (hN : 300 ≤ N) (hA : A ≤ 13) (hB : B ≤ 13) (hC : C ≤ 13) (hf : ∀ x y z, f x y z ≤ 1500000) (K : Int32 → Int32 → (Nat → Int32) → Option (Nat → Int32)) {i : Nat} (hi : i < A) : ∀ (d j n : Nat) (st : Nat → Int32), j + d = B → d < n → DN A B C f (ix B C i j 0) st → ∃ st', g_X5_sitDown_14 N (nI B) (nI C) K n (nI (ix B C i j 0)) (nI i) (nI j) st = K (nI (ix B C (i + 1) 0 0)) (nI (i + 1)) st' ∧ DN A B C f (ix B C (i + 1) 0 0) st' := by
  intro d
  induction d with
  | zero =>
    intro j n st e1 e2 h
    obtain ⟨n, rfl⟩ : ∃ z, n = z + 1 := ⟨n - 1, by omega⟩
    have e : j = B := by omega
    rw [e, ix_i] at h
    exact ⟨st, by rw [g_X5_sitDown_14, if_pos (nI_le (by omega) (by omega)), z_1, e, ix_i], h⟩
  | succ d ih =>
    intro j n st e1 e2 h
    obtain ⟨n, rfl⟩ : ∃ z, n = z + 1 := ⟨n - 1, by omega⟩
    obtain ⟨st1, c1, c2⟩ := s_sit_25 hA hB hC hf (g_X5_sitDown_14 N (nI B) (nI C) K n) hi (show j < B by omega) C 0 N st (by omega) (by omega) h
    obtain ⟨st', d1, d2⟩ := ih (j + 1) n st1 (by omega) (by omega) c2
    refine ⟨st', ?_, d2⟩
    rw [g_X5_sitDown_14, if_neg (fun h => absurd ((e_le (by omega) (by omega)).mp h) (by omega))]
    exact c1.trans d1
theorem s_sit_4 {A B C N : Nat} {f : Nat → Nat → Nat → Nat} (hN : 300 ≤ N) (hA : A ≤ 13) (hB : B ≤ 13) (hC : C ≤ 13) (hf : ∀ x y z, f x y z ≤ 1500000) : ∀ (d i n : Nat) (st : Nat → Int32), i + d = A → d < n → DN A B C f (ix B C i 0 0) st → ∃ st', g_X5_sitDown_4 N (nI A) (nI B) (nI C) n (nI (ix B C i 0 0)) (nI i) st = some st' ∧ DN A B C f (A * B * C) st' := by
  intro d
  induction d with
  | zero =>
    intro i n st e1 e2 h
    obtain ⟨n, rfl⟩ : ∃ z, n = z + 1 := ⟨n - 1, by omega⟩
    have e : i = A := by omega
    have e3 : ix B C A 0 0 = A * B * C := by unfold ix; rfl
    rw [e, e3] at h
    exact ⟨st, by rw [g_X5_sitDown_4, if_pos (nI_le (by omega) (by omega))], h⟩
  | succ d ih =>
    intro i n st e1 e2 h
    obtain ⟨n, rfl⟩ : ∃ z, n = z + 1 := ⟨n - 1, by omega⟩
    obtain ⟨st1, c1, c2⟩ := s_sit_14 hN hA hB hC hf (g_X5_sitDown_4 N (nI A) (nI B) (nI C) n) (show i < A by omega) B 0 N st (by omega) (by omega) h
    obtain ⟨st', d1, d2⟩ := ih (i + 1) n st1 (by omega) (by omega) c2
    refine ⟨st', ?_, d2⟩
    rw [g_X5_sitDown_4, if_neg (fun h => absurd ((e_le (by omega) (by omega)).mp h) (by omega))]
    exact c1.trans d1
/-- the numbers of a row of states -/
def VS (A B C : Nat) (f : Nat → Nat → Nat → Nat) (st : Nat → Int32) : Prop := ∀ i j k, i < A → j < B → k < C → st (ix B C i j k) = nI (f i j k)
theorem s_sitDown {A B C N : Nat} {f : Nat → Nat → Nat → Nat} {st : Nat → Int32} (hN : 300 ≤ N) (hA : A ≤ 13) (hB : B ≤ 13) (hC : C ≤ 13) (hf : ∀ x y z, f x y z ≤ 1500000) (h : VS A B C f st) : ∃ st', g_X5_sitDown N (nI A) (nI B) (nI C) st = some st' ∧ ∀ i j k, i < A → j < B → k < C → ∃ v, st' (ix B C i j k) = nI v ∧ PM f i j k v := by
  have e0 : ix B C 0 0 0 = 0 := by unfold ix; rw [Nat.zero_mul, Nat.zero_add, Nat.zero_mul]
  obtain ⟨st', c1, c2⟩ := s_sit_4 (N := N) hN hA hB hC hf A 0 N st (by omega) (by omega) (fun i j k hi hj hk => ⟨fun hh => by rw [e0] at hh; omega, fun _ => h i j k hi hj hk⟩)
  rw [e0] at c1
  exact ⟨st', c1, fun i j k hi hj hk => (c2 i j k hi hj hk).1 (ix_lt3 hi hj hk)⟩
theorem ix_ex {A B C m : Nat} (h : m < A * B * C) : ∃ i j k, i < A ∧ j < B ∧ k < C ∧ m = ix B C i j k := by
  have hC : 0 < C := by
    rcases Nat.eq_zero_or_pos C with e | e
    · subst e; rw [Nat.mul_zero] at h; omega
    · exact e
  have hB : 0 < B := by
    rcases Nat.eq_zero_or_pos B with e | e
    · subst e; rw [Nat.mul_zero, Nat.zero_mul] at h; omega
    · exact e
  refine ⟨m / C / B, m / C % B, m % C, ?_, Nat.mod_lt _ hB, Nat.mod_lt _ hC, ?_⟩
  · apply Nat.div_lt_of_lt_mul
    apply Nat.div_lt_of_lt_mul
    rw [Nat.mul_comm C, Nat.mul_comm B]; exact h
  · unfold ix
    rw [Nat.mul_comm (m / C / B) B, Nat.div_add_mod, Nat.mul_comm, Nat.div_add_mod]
/-- one guest more: g so far -/
def RD (A B C : Nat) (sz : Nat → Nat) (g : Nat) (f f' : Nat → Nat → Nat → Nat) : Prop := ∀ i j k, i < A → j < B → k < C → ∃ v, PM f i j k v ∧ f' i j k = if sz i + sz j + sz k ≤ g then v + (g - (sz i + sz j + sz k)) else 1000000
theorem s_count {A B C g : Nat} {sz : Nat → Nat} {f : Nat → Nat → Nat → Nat} {seated : Nat → Int32} (hA : A ≤ 13) (hB : B ≤ 13) (hC : C ≤ 13) (hf : ∀ x y z, f x y z ≤ 1500000) (hg : g ≤ 24) (hsz : ∀ i, i < 13 → sz i ≤ 12 ∨ A ≤ i) (hsl : ∀ i j k, i < A → j < B → k < C → sz i + sz j + sz k ≤ 36) (hS : SE A B C sz (A * B * C) seated) : ∀ (d m n : Nat) (st : Nat → Int32), m + d = A * B * C → d < n → (∀ i j k, i < A → j < B → k < C → (m ≤ ix B C i j k → ∃ v, st (ix B C i j k) = nI v ∧ PM f i j k v) ∧ (ix B C i j k < m → ∃ v, PM f i j k v ∧ st (ix B C i j k) = nI (if sz i + sz j + sz k ≤ g then v + (g - (sz i + sz j + sz k)) else 1000000))) → ∃ st', g_X5_countStanding_2 (nI (A * B * C)) seated (nI g) n (nI m) st = some st' ∧ ∀ i j k, i < A → j < B → k < C → ∃ v, PM f i j k v ∧ st' (ix B C i j k) = nI (if sz i + sz j + sz k ≤ g then v + (g - (sz i + sz j + sz k)) else 1000000) := by
  have habc := abc_le hA hB hC
  intro d
  induction d with
  | zero =>
    intro m n st e1 e2 h
    obtain ⟨n, rfl⟩ : ∃ z, n = z + 1 := ⟨n - 1, by omega⟩
    exact ⟨st, by rw [g_X5_countStanding_2, if_pos (nI_le (by omega) (by omega))], fun i j k hi hj hk => (h i j k hi hj hk).2 (by have := ix_lt3 hi hj hk; omega)⟩
  | succ d ih =>
    intro m n st e1 e2 h
    obtain ⟨n, rfl⟩ : ∃ z, n = z + 1 := ⟨n - 1, by omega⟩
    obtain ⟨i, j, k, hi, hj, hk, hm⟩ := ix_ex (show m < A * B * C by omega)
    obtain ⟨v, v1, v2⟩ := (h i j k hi hj hk).1 (by omega)
    have hvb : v ≤ 1500000 := by obtain ⟨-, x1, x2, x3, -, -, -, x4⟩ := v2; rw [x4]; exact hf _ _ _
    have he := hsl i j k hi hj hk
    have hse := hS i j k hi hj hk (ix_lt3 hi hj hk)
    rw [← hm] at hse v1
    have go : ∀ u : Int32, u = nI (if sz i + sz j + sz k ≤ g then v + (g - (sz i + sz j + sz k)) else 1000000) → ∃ st', g_X5_countStanding_2 (nI (A * B * C)) seated (nI g) n (nI (m + 1)) (upd st m u) = some st' ∧ ∀ i j k, i < A → j < B → k < C → ∃ v, PM f i j k v ∧ st' (ix B C i j k) = nI (if sz i + sz j + sz k ≤ g then v + (g - (sz i + sz j + sz k)) else 1000000) := by
      intro u hu
      refine ih (m + 1) n _ (by omega) (by omega) (fun i' j' k' hi' hj' hk' => ⟨fun hh => ?_, fun hh => ?_⟩)
      · rw [upd_no (by omega)]; exact (h i' j' k' hi' hj' hk').1 (by omega)
      · by_cases q : ix B C i' j' k' = m
        · rw [hm] at q
          obtain ⟨q1, q2, q3⟩ := ix3_inj hj' hk' hj hk q
          subst q1; subst q2; subst q3
          exact ⟨v, v2, by rw [← hm, upd_at, hu]⟩
        · rw [upd_no q]; exact (h i' j' k' hi' hj' hk').2 (by omega)
    rw [g_X5_countStanding_2, if_neg (fun h => absurd ((e_le (by omega) (by omega)).mp h) (by omega)), if_pos (in2197 (by omega)), nI_clamp (by omega), hse, v1, z_1]
    by_cases c : sz i + sz j + sz k ≤ g
    · rw [z_sub c, if_pos (nI_pos' (by omega)), nI_add]
      exact go _ (by rw [if_pos c])
    · rw [if_neg (fun hh => lt_nle (pk_sneg (by omega) (show g < sz i + sz j + sz k by omega)) hh)]
      exact go _ (by rw [if_neg c]; rfl)
theorem s_min59 {A B C : Nat} {f : Nat → Nat → Nat → Nat} {st : Nat → Int32} (hA : A ≤ 13) (hB : B ≤ 13) (hC : C ≤ 13) (hf : ∀ x y z, f x y z ≤ 1500000) (h : VS A B C f st) : ∀ (d m n b : Nat), m + d = A * B * C → d < n → b ≤ 1000000 → (∀ i j k, i < A → j < B → k < C → ix B C i j k < m → b ≤ f i j k) → (b = 1000000 ∨ ∃ i j k, i < A ∧ j < B ∧ k < C ∧ b = f i j k) → ∃ b', g_X5_fewestStood_59 (nI (A * B * C)) n (nI b) (nI m) st = some (nI b', st) ∧ b' ≤ 1000000 ∧ (∀ i j k, i < A → j < B → k < C → b' ≤ f i j k) ∧ (b' = 1000000 ∨ ∃ i j k, i < A ∧ j < B ∧ k < C ∧ b' = f i j k) := by
  have habc := abc_le hA hB hC
  intro d
  induction d with
  | zero =>
    intro m n b e1 e2 e3 h1 h2
    obtain ⟨n, rfl⟩ : ∃ z, n = z + 1 := ⟨n - 1, by omega⟩
    exact ⟨b, by rw [g_X5_fewestStood_59, if_pos (nI_le (by omega) (by omega))], e3, fun i j k hi hj hk => h1 i j k hi hj hk (by have := ix_lt3 hi hj hk; omega), h2⟩
  | succ d ih =>
    intro m n b e1 e2 e3 h1 h2
    obtain ⟨n, rfl⟩ : ∃ z, n = z + 1 := ⟨n - 1, by omega⟩
    obtain ⟨i, j, k, hi, hj, hk, hm⟩ := ix_ex (show m < A * B * C by omega)
    have hv := h i j k hi hj hk
    have hfb := hf i j k
    rw [← hm] at hv
    rw [g_X5_fewestStood_59, if_neg (fun h => absurd ((e_le (by omega) (by omega)).mp h) (by omega)), if_pos (in2197 (by omega)), nI_clamp (by omega), hv, ifi (e_lt (a := f i j k) (b := b) (by omega) (by omega)), z_1]
    by_cases c : f i j k < b
    · rw [if_pos c]
      refine ih (m + 1) n (f i j k) (by omega) (by omega) (by omega) (fun i' j' k' hi' hj' hk' hh => ?_) (Or.inr ⟨i, j, k, hi, hj, hk, rfl⟩)
      by_cases q : ix B C i' j' k' = m
      · rw [hm] at q
        obtain ⟨q1, q2, q3⟩ := ix3_inj hj' hk' hj hk q
        rw [q1, q2, q3]; exact Nat.le_refl _
      · have := h1 i' j' k' hi' hj' hk' (by omega); omega
    · rw [if_neg c]
      refine ih (m + 1) n b (by omega) (by omega) e3 (fun i' j' k' hi' hj' hk' hh => ?_) h2
      by_cases q : ix B C i' j' k' = m
      · rw [hm] at q
        obtain ⟨q1, q2, q3⟩ := ix3_inj hj' hk' hj hk q
        rw [q1, q2, q3]; omega
      · exact h1 i' j' k' hi' hj' hk' (by omega)
theorem s_left4 {A B C g : Nat} {sz : Nat → Nat} {seated : Nat → Int32} (hA : A ≤ 13) (hB : B ≤ 13) (hC : C ≤ 13) (hg : g ≤ 24) (hsl : ∀ i j k, i < A → j < B → k < C → sz i + sz j + sz k ≤ 36) (hS : SE A B C sz (A * B * C) seated) : ∀ (d m n b : Nat), m + d = A * B * C → d < n → b ≤ g → (∀ i j k, i < A → j < B → k < C → ix B C i j k < m → sz i + sz j + sz k ≤ g → b ≤ g - (sz i + sz j + sz k)) → (b = g ∨ ∃ i j k, i < A ∧ j < B ∧ k < C ∧ sz i + sz j + sz k ≤ g ∧ b = g - (sz i + sz j + sz k)) → ∃ b', g_X5_fewestLeft_4 (nI (A * B * C)) seated (nI g) n (nI b) (nI m) = some (nI b') ∧ b' ≤ g ∧ (∀ i j k, i < A → j < B → k < C → sz i + sz j + sz k ≤ g → b' ≤ g - (sz i + sz j + sz k)) ∧ (b' = g ∨ ∃ i j k, i < A ∧ j < B ∧ k < C ∧ sz i + sz j + sz k ≤ g ∧ b' = g - (sz i + sz j + sz k)) := by
  have habc := abc_le hA hB hC
  intro d
  induction d with
  | zero =>
    intro m n b e1 e2 e3 h1 h2
    obtain ⟨n, rfl⟩ : ∃ z, n = z + 1 := ⟨n - 1, by omega⟩
    exact ⟨b, by rw [g_X5_fewestLeft_4, if_pos (nI_le (by omega) (by omega))], e3, fun i j k hi hj hk => h1 i j k hi hj hk (by have := ix_lt3 hi hj hk; omega), h2⟩
  | succ d ih =>
    intro m n b e1 e2 e3 h1 h2
    obtain ⟨n, rfl⟩ : ∃ z, n = z + 1 := ⟨n - 1, by omega⟩
    obtain ⟨i, j, k, hi, hj, hk, hm⟩ := ix_ex (show m < A * B * C by omega)
    have he := hsl i j k hi hj hk
    have hse := hS i j k hi hj hk (ix_lt3 hi hj hk)
    rw [← hm] at hse
    have key : ∀ b2, b2 ≤ b → (sz i + sz j + sz k ≤ g → b2 ≤ g - (sz i + sz j + sz k)) → ∀ i' j' k', i' < A → j' < B → k' < C → ix B C i' j' k' < m + 1 → sz i' + sz j' + sz k' ≤ g → b2 ≤ g - (sz i' + sz j' + sz k') := by
      intro b2 hb hx i' j' k' hi' hj' hk' hh hs
      by_cases q : ix B C i' j' k' = m
      · rw [hm] at q
        obtain ⟨q1, q2, q3⟩ := ix3_inj hj' hk' hj hk q
        subst q1; subst q2; subst q3
        exact hx hs
      · have := h1 i' j' k' hi' hj' hk' (by omega) hs; omega
    rw [g_X5_fewestLeft_4, if_neg (fun h => absurd ((e_le (by omega) (by omega)).mp h) (by omega)), if_pos (in2197 (by omega)), nI_clamp (by omega), hse, z_1]
    by_cases c : sz i + sz j + sz k ≤ g
    · rw [z_sub c, if_neg (nI_pos (by omega)), ifi (e_lt (a := g - (sz i + sz j + sz k)) (b := b) (by omega) (by omega))]
      by_cases c2 : g - (sz i + sz j + sz k) < b
      · rw [if_pos c2]
        exact ih (m + 1) n _ (by omega) (by omega) (by omega) (key _ (by omega) (fun _ => Nat.le_refl _)) (Or.inr ⟨i, j, k, hi, hj, hk, c, rfl⟩)
      · rw [if_neg c2]
        exact ih (m + 1) n b (by omega) (by omega) e3 (key b (Nat.le_refl _) (fun _ => by omega)) h2
    · rw [if_pos (pk_sneg (by omega) (show g < sz i + sz j + sz k by omega))]
      exact ih (m + 1) n b (by omega) (by omega) e3 (key b (Nat.le_refl _) (fun h => absurd h c)) h2
