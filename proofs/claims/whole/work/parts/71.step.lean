/-! walks: where they are; a step (reference) -/
/-- where p is in state s -/
def dg (P s p : Nat) : Nat := s / 2 ^ (2 * (P - 1 - p)) % 4
theorem dg_lt (P s p : Nat) : dg P s p < 4 := Nat.mod_lt _ (by decide)
/-- so many of the first p are at x in s and at y in t -/
def c2 (P s t x y : Nat) : Nat → Nat
  | 0 => 0
  | p + 1 => c2 P s t x y p + (if dg P s p = x ∧ dg P t p = y then 1 else 0)
theorem c2_le (P s t x y : Nat) : ∀ p, c2 P s t x y p ≤ p := by
  intro p
  induction p with
  | zero => exact Nat.le_refl _
  | succ p ih => rw [c2]; split <;> omega
theorem c2_mono (P s t x y : Nat) (p : Nat) : ∀ d, c2 P s t x y p ≤ c2 P s t x y (p + d) := by
  intro d
  induction d with
  | zero => exact Nat.le_refl _
  | succ d ih => rw [← Nat.add_assoc, c2]; omega
theorem c2_pos {P s t x y p n : Nat} (h : p < n) (h1 : dg P s p = x) (h2 : dg P t p = y) : 0 < c2 P s t x y n := by
  have := c2_mono P s t x y (p + 1) (n - (p + 1))
  rw [show p + 1 + (n - (p + 1)) = n by omega, c2, if_pos ⟨h1, h2⟩] at this
  omega
theorem c2_ex {P s t x y : Nat} : ∀ n, 0 < c2 P s t x y n → ∃ p, p < n ∧ dg P s p = x ∧ dg P t p = y := by
  intro n
  induction n with
  | zero => intro h; exact absurd h (Nat.lt_irrefl 0)
  | succ n ih =>
    intro h
    rw [c2] at h
    by_cases q : dg P s n = x ∧ dg P t n = y
    · exact ⟨n, by omega, q.1, q.2⟩
    · rw [if_neg q] at h
      obtain ⟨p, h1, h2⟩ := ih (by omega)
      exact ⟨p, by omega, h2⟩
theorem c2_sw (P s t x y : Nat) : ∀ n, c2 P s t x y n = c2 P t s y x n := by
  intro n
  induction n with
  | zero => rfl
  | succ n ih =>
    rw [c2, c2, ih]
    by_cases q : dg P s n = x ∧ dg P t n = y
    · rw [if_pos q, if_pos ⟨q.2, q.1⟩]
    · rw [if_neg q, if_neg (fun h => q ⟨h.2, h.1⟩)]
/-- one hour: all who go, go ways, as companies that fit -/
def ST (w ft P s t : Nat) : Prop := ∀ x y, x < 4 → y < 4 → x ≠ y → 0 < c2 P s t x y P → w.testBit (4 * x + y) = true ∧ ft.testBit (c2 P s t x y P) = true
theorem z_and3 {n : Nat} (h : n < 4294967296) : nI n &&& 3 = nI (n % 4) := pk_andN (n := n) h (m := 3) 2 (by decide)
theorem z_dg {P s p : Nat} (hP : P ≤ 5) (hs : s < 2147483648) (hp : p < P) : (nI s >>> ((2 * ((nI P - 1) - nI p)) &&& 31)) &&& 3 = nI (dg P s p) := by
  rw [z_sub1 (by omega), z_sub (by omega), show (2 : Int32) * nI (P - 1 - p) = nI (2 * (P - 1 - p)) from pk_mul 2 _, z_shr hs (by omega), z_and3 (Nat.lt_of_le_of_lt (Nat.div_le_self _ _) (by omega))]
  rfl
theorem s_whereIn {a : Nat → Nat} {al : Nat → Int32} (hI : IC a) (hM : KM a al 0) {s p : Nat} (hs : s < 2147483648) (hp : p < a 1) : g_X10_whereIn al (nI s) (nI p) = some (nI (dg (a 1) s p)) := by
  unfold g_X10_whereIn
  rw [if_pos in1, show (1 : Int32).toNatClampNeg = 1 from rfl, hM.at (by decide), z_dg hI.2.1 hs hp]
theorem in16 {x : Nat} (h : x < 16) : inb (nI x) 16 = true := by rw [inb_nI (by omega)]; simpa using h
/-- which sizes fit, as bits -/
def FB (a : Nat → Nat) (r ft : Nat) : Prop := ∀ n, 1 ≤ n → n ≤ 5 → ft.testBit n = fitN (a 0) r n
theorem s_isStep_101 {a : Nat → Nat} {al gone : Nat → Int32} {N r : Nat} {G : Nat → Nat} (hN : 200 ≤ N) (hI : IC a) (hM : KM a al 0) (hr : r ≤ 3) (hG : ∀ k, k < 16 → gone k = nI (G k) ∧ G k ≤ 5) : ∀ (m k n : Nat), k + m = 16 → m < n → (∀ j, j < k → 0 < G j → fitN (a 0) r (G j) = true) → ∃ b : Bool, g_X10_isStep_101 N al (nI r) n (nI k) gone = some (if b then 1 else 0, gone) ∧ (b = true ↔ ∀ j, j < 16 → 0 < G j → fitN (a 0) r (G j) = true) := by
  intro m
  induction m with
  | zero =>
    intro k n e1 e2 h
    obtain ⟨n, rfl⟩ : ∃ z, n = z + 1 := ⟨n - 1, by omega⟩
    have e : k = 16 := by omega
    subst e
    exact ⟨true, by rw [g_X10_isStep_101, if_pos (by decide)]; rfl, ⟨fun _ => h, fun _ => rfl⟩⟩
  | succ m ih =>
    intro k n e1 e2 h
    obtain ⟨n, rfl⟩ : ∃ z, n = z + 1 := ⟨n - 1, by omega⟩
    obtain ⟨g1, g2⟩ := hG k (by omega)
    rw [g_X10_isStep_101, if_neg (show ¬ 16 ≤ nI k from fun h => absurd ((e_le (a := 16) (by decide) (by omega)).mp h) (by omega)), if_pos (in16 (by omega)), nI_clamp (by omega), g1, ifi (show nI (G k) ≤ 0 ↔ G k ≤ 0 from e_le (b := 0) (by omega) (by decide)), s_may (hM.at (i := 0) (by decide)) hI.1 hr (by omega) hN, Option.bind_some, if10, z_1]
    by_cases c : G k ≤ 0
    · rw [if_pos c]
      exact ih (k + 1) n (by omega) (by omega) (fun j hj h0 => by
        rcases (show j = k ∨ j < k by omega) with rfl | hh
        · omega
        · exact h j hh h0)
    · rw [if_neg c]
      cases hq : fitN (a 0) r (G k) with
      | false =>
        rw [if_neg (by decide)]
        exact ⟨false, rfl, ⟨fun h => absurd h (by decide), fun h => by have := h k (by omega) (by omega); rw [hq] at this; exact this⟩⟩
      | true =>
        rw [if_pos rfl]
        exact ih (k + 1) n (by omega) (by omega) (fun j hj h0 => by
          rcases (show j = k ∨ j < k by omega) with rfl | hh
          · exact hq
          · exact h j hh h0)
def cG (P s t p k : Nat) : Nat := if k / 4 = k % 4 then 0 else c2 P s t (k / 4) (k % 4) p
theorem s_isStep_27 {a : Nat → Nat} {al : Nat → Int32} {N r ft s t : Nat} (hN : 200 ≤ N) (hI : IC a) (hW : IW a) (hM : KM a al 0) (hr : r ≤ 3) (hft : FB a r ft) (hs : s < 2147483648) (ht : t < 2147483648) : ∀ (m p n : Nat) (gone : Nat → Int32), p + m = a 1 → m < n → (∀ k, k < 16 → gone k = nI (cG (a 1) s t p k)) → (∀ q, q < p → dg (a 1) s q ≠ dg (a 1) t q → (a 359).testBit (4 * dg (a 1) s q + dg (a 1) t q) = true) → ∃ (b : Bool) (gone' : Nat → Int32), g_X10_isStep_27 N al (nI r) (nI s) (nI t) n (nI p) gone = some (if b then 1 else 0, gone') ∧ (b = true ↔ ST (a 359) ft (a 1) s t) := by
  have j1 := hI.2.1
  intro m
  induction m with
  | zero =>
    intro p n gone e1 e2 hg hw
    obtain ⟨n, rfl⟩ : ∃ z, n = z + 1 := ⟨n - 1, by omega⟩
    have e : p = a 1 := by omega
    subst e
    have hcl := fun x y => c2_le (a 1) s t x y (a 1)
    have hcG : ∀ k, cG (a 1) s t (a 1) k ≤ 5 := by
      intro k
      unfold cG
      split
      · omega
      · have := hcl (k / 4) (k % 4); omega
    obtain ⟨b, b1, b2⟩ := s_isStep_101 (r := r) hN hI hM hr (fun k hk => ⟨hg k hk, hcG k⟩) 16 0 N (by omega) (by omega) (fun j hj => absurd hj (by omega))
    refine ⟨b, gone, ?_, ?_⟩
    · rw [g_X10_isStep_27, if_pos in1, show (1 : Int32).toNatClampNeg = 1 from rfl, hM.at (by decide), if_pos (nI_le (by omega) (by omega))]
      exact b1
    · rw [b2]
      constructor
      · intro h x y hx hy hxy h0
        obtain ⟨q, q1, q2, q3⟩ := c2_ex _ h0
        have hc : cG (a 1) s t (a 1) (4 * x + y) = c2 (a 1) s t x y (a 1) := by
          unfold cG
          rw [show (4 * x + y) / 4 = x by omega, show (4 * x + y) % 4 = y by omega, if_neg hxy]
        have h1 := h (4 * x + y) (by omega) (by rw [hc]; exact h0)
        rw [hc] at h1
        refine ⟨by rw [← q2, ← q3]; exact hw q q1 (by rw [q2, q3]; exact hxy), ?_⟩
        have := hcl x y
        rw [hft _ (by omega) (by omega)]; exact h1
      · intro h k hk h0
        unfold cG at h0 ⊢
        by_cases q : k / 4 = k % 4
        · rw [if_pos q] at h0; omega
        · rw [if_neg q] at h0 ⊢
          have := hcl (k / 4) (k % 4)
          rw [← hft _ (by omega) (by omega)]
          exact (h (k / 4) (k % 4) (by omega) (by omega) q h0).2
  | succ m ih =>
    intro p n gone e1 e2 hg hw
    obtain ⟨n, rfl⟩ : ∃ z, n = z + 1 := ⟨n - 1, by omega⟩
    have d1 := dg_lt (a 1) s p
    have d2 := dg_lt (a 1) t p
    have hx : (4 : Int32) * nI (dg (a 1) s p) + nI (dg (a 1) t p) = nI (4 * dg (a 1) s p + dg (a 1) t p) := by
      rw [show (4 : Int32) * nI (dg (a 1) s p) = nI (4 * dg (a 1) s p) from pk_mul 4 _, nI_add]
    rw [g_X10_isStep_27, if_pos in1, show (1 : Int32).toNatClampNeg = 1 from rfl, hM.at (by decide), if_neg (fun h => absurd ((e_le (by omega) (by omega)).mp h) (by omega)), s_whereIn hI hM hs (by omega), s_whereIn hI hM ht (by omega), Option.bind_some, Option.bind_some, ifi (e_eq (by omega) (by omega)), s_hasWayM hM hW d1 d2, Option.bind_some, if10, hx, if_pos (in16 (by omega)), nI_clamp (by omega), hg _ (by omega), z_1, z_1]
    by_cases c : dg (a 1) s p = dg (a 1) t p
    · rw [if_pos c]
      refine ih (p + 1) n gone (by omega) (by omega) (fun k hk => ?_) (fun q hq hne => ?_)
      · rw [hg k hk]
        unfold cG
        by_cases q : k / 4 = k % 4
        · rw [if_pos q, if_pos q]
        · rw [if_neg q, if_neg q, c2, if_neg (by omega)]; rfl
      · rcases (show q = p ∨ q < p by omega) with rfl | hh
        · exact absurd c hne
        · exact hw q hh hne
    · rw [if_neg c]
      cases hwb : (a 359).testBit (4 * dg (a 1) s p + dg (a 1) t p) with
      | false =>
        rw [if_neg (by decide)]
        refine ⟨false, gone, rfl, ⟨fun h => absurd h (by decide), fun h => ?_⟩⟩
        have := (h _ _ d1 d2 c (c2_pos (show p < a 1 by omega) rfl rfl)).1
        rw [hwb] at this; exact this
      | true =>
        rw [if_pos rfl]
        refine ih (p + 1) n _ (by omega) (by omega) (fun k hk => ?_) (fun q hq hne => ?_)
        · by_cases q : k = 4 * dg (a 1) s p + dg (a 1) t p
          · rw [q, upd_at]
            unfold cG
            rw [show (4 * dg (a 1) s p + dg (a 1) t p) / 4 = dg (a 1) s p by omega, show (4 * dg (a 1) s p + dg (a 1) t p) % 4 = dg (a 1) t p by omega, if_neg c, if_neg c, c2, if_pos ⟨rfl, rfl⟩]
          · rw [upd_no q, hg k hk]
            unfold cG
            by_cases q' : k / 4 = k % 4
            · rw [if_pos q', if_pos q']
            · rw [if_neg q', if_neg q', c2, if_neg (by omega)]; rfl
        · rcases (show q = p ∨ q < p by omega) with rfl | hh
          · exact hwb
          · exact hw q hh hne
theorem s_isStep_3 {al : Nat → Int32} {N : Nat} {R X Y : Int32} : ∀ (m k n : Nat) (gone : Nat → Int32), k + m = 16 → m < n → (∀ j, j < k → gone j = 0) → ∃ gone', (∀ j, j < 16 → gone' j = 0) ∧ g_X10_isStep_3 N al R X Y n (nI k) gone = g_X10_isStep_27 N al R X Y N 0 gone' := by
  intro m
  induction m with
  | zero =>
    intro k n gone e1 e2 h
    obtain ⟨n, rfl⟩ : ∃ z, n = z + 1 := ⟨n - 1, by omega⟩
    have e : k = 16 := by omega
    subst e
    exact ⟨gone, h, by rw [g_X10_isStep_3, if_pos (by decide)]⟩
  | succ m ih =>
    intro k n gone e1 e2 h
    obtain ⟨n, rfl⟩ : ∃ z, n = z + 1 := ⟨n - 1, by omega⟩
    obtain ⟨gone', g1, g2⟩ := ih (k + 1) n (upd gone k 0) (by omega) (by omega) (fun j hj => by
      rcases (show j = k ∨ j < k by omega) with rfl | hh
      · exact upd_at
      · rw [upd_no (by omega)]; exact h j hh)
    refine ⟨gone', g1, ?_⟩
    rw [g_X10_isStep_3, if_neg (show ¬ 16 ≤ nI k from fun h => absurd ((e_le (a := 16) (by decide) (by omega)).mp h) (by omega)), if_pos (in16 (by omega)), nI_clamp (by omega), z_1]
    exact g2
theorem s_isStep {a : Nat → Nat} {al : Nat → Int32} {N r ft s t : Nat} (hN : 200 ≤ N) (hI : IC a) (hW : IW a) (hM : KM a al 0) (hr : r ≤ 3) (hft : FB a r ft) (hs : s < 2147483648) (ht : t < 2147483648) (gone : Nat → Int32) : ∃ (b : Bool) (gone' : Nat → Int32), g_X10_isStep N al gone (nI r) (nI s) (nI t) = some (if b then 1 else 0, gone') ∧ (b = true ↔ ST (a 359) ft (a 1) s t) := by
  have j1 := hI.2.1
  obtain ⟨gone1, g1, g2⟩ := s_isStep_3 (al := al) (N := N) (R := nI r) (X := nI s) (Y := nI t) 16 0 N gone (by omega) (by omega) (fun j hj => absurd hj (by omega))
  obtain ⟨b, gone', b1, b2⟩ := s_isStep_27 hN hI hW hM hr hft hs ht (a 1) 0 N gone1 (by omega) (by omega) (fun k hk => by
    rw [g1 k hk]
    unfold cG
    split <;> rfl) (fun q hq => absurd hq (by omega))
  exact ⟨b, gone', g2.trans b1, b2⟩
theorem ST_sym {w ft P s t : Nat} (hw : ∀ i j, i < 4 → j < 4 → w.testBit (4 * i + j) = w.testBit (4 * j + i)) (h : ST w ft P s t) : ST w ft P t s := by
  intro x y hx hy hxy h0
  rw [c2_sw] at h0 ⊢
  have := h y x hy hx (Ne.symm hxy) h0
  rw [hw x y hx hy]
  exact this
