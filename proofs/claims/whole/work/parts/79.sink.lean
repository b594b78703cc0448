/-! tables: reference -/
def g13 (x y z : Nat) : Nat := 169 * x + 13 * y + z
theorem g13_lt {x y z : Nat} (hx : x < 13) (hy : y < 13) (hz : z < 13) : g13 x y z < 2197 := by unfold g13; omega
theorem s_sink_2 {S : Nat} {F : Nat → Nat} (hS : 1 ≤ S) (hS2 : S < 2197) (hF : ∀ m, F m ≤ 9999) : ∀ (d m n : Nat) (G : Nat → Nat) (st : Nat → Int32), m + d = 2197 → d < n → S ≤ m → (∀ q, q < m → st q = nI (G q) ∧ G q ≤ 9999 ∧ G q = if q / S % 13 = 0 then F q else min (F q) (G (q - S))) → (∀ q, m ≤ q → q < 2197 → st q = nI (F q)) → ∃ (st' : Nat → Int32) (G' : Nat → Nat), g_X10_sink_2 (nI S) n (nI m) st = some st' ∧ ∀ q, q < 2197 → st' q = nI (G' q) ∧ G' q ≤ 9999 ∧ G' q = if q / S % 13 = 0 then F q else min (F q) (G' (q - S)) := by
  intro d
  induction d with
  | zero =>
    intro m n G st e1 e2 e3 h1 h2
    obtain ⟨n, rfl⟩ : ∃ z, n = z + 1 := ⟨n - 1, by omega⟩
    exact ⟨st, G, by rw [g_X10_sink_2, if_pos (show 2197 ≤ nI m from nI_le (a := 2197) (by omega) (by omega))], fun q hq => h1 q (by omega)⟩
  | succ d ih =>
    intro m n G st e1 e2 e3 h1 h2
    obtain ⟨n, rfl⟩ : ∃ z, n = z + 1 := ⟨n - 1, by omega⟩
    have hFm := hF m
    have hm := h2 m (Nat.le_refl _) (by omega)
    have hdiv : m / S ≤ m := Nat.div_le_self _ _
    have go : ∀ (u : Int32) (v : Nat), u = nI v → v ≤ 9999 → v = (if m / S % 13 = 0 then F m else min (F m) (G (m - S))) → ∃ (st' : Nat → Int32) (G' : Nat → Nat), g_X10_sink_2 (nI S) n (nI (m + 1)) (upd st m u) = some st' ∧ ∀ q, q < 2197 → st' q = nI (G' q) ∧ G' q ≤ 9999 ∧ G' q = if q / S % 13 = 0 then F q else min (F q) (G' (q - S)) := by
      intro u v hu hv hw
      refine ih (m + 1) n (va_up G m v) _ (by omega) (by omega) (by omega) (fun q hq => ?_) (fun q hq hq2 => by rw [upd_no (by omega)]; exact h2 q (by omega) hq2)
      rw [va_up_no G v (show q - S ≠ m by omega)]
      by_cases e : q = m
      · rw [e, upd_at, va_up_at]; exact ⟨hu, hv, hw⟩
      · rw [upd_no e, va_up_no _ _ e]; exact h1 q (by omega)
    rw [g_X10_sink_2, if_neg (show ¬ 2197 ≤ nI m from fun h => absurd ((e_le (a := 2197) (by decide) (by omega)).mp h) (by omega)), if_pos (nI_ne0 (by omega) (by omega)), show nI m / nI S = nI (m / S) from pk_div (by omega) (by omega) (by omega), show nI (m / S) - nI (m / S) / 13 * 13 = nI (m / S % 13) from z_rem (d := 13) (by omega) (by decide) (by decide), ifi (show nI (m / S % 13) ≤ 0 ↔ m / S % 13 = 0 from (e_le (b := 0) (by omega) (by decide)).trans (by omega))]
    unfold g_X10_sink_23
    rw [if_pos (show (0 : Int32) = 0 from rfl), if_neg (show ¬ (1 : Int32) = 0 by decide), if_pos (in2197 (by omega)), if_pos (in2197 (by omega)), nI_clamp (by omega), z_sub e3, if_pos (in2197 (by omega)), nI_clamp (by omega), hm, z_1]
    by_cases c : m / S % 13 = 0
    · rw [if_pos c]; exact go _ (F m) rfl hFm (by rw [if_pos c])
    · obtain ⟨g1, g2, g3⟩ := h1 (m - S) (by omega)
      rw [if_neg c, g1, ifi (e_le (a := F m) (b := G (m - S)) (by omega) (by omega))]
      by_cases c2 : F m ≤ G (m - S)
      · rw [if_pos c2]; exact go _ (F m) rfl hFm (by rw [if_neg c]; omega)
      · rw [if_neg c2]; exact go _ (G (m - S)) rfl g2 (by rw [if_neg c]; omega)
theorem s_sink {S N : Nat} {F : Nat → Nat} {st : Nat → Int32} (hN : 3000 ≤ N) (hS : 1 ≤ S) (hS2 : S < 2197) (hF : ∀ m, F m ≤ 9999) (h : ∀ q, q < 2197 → st q = nI (F q)) : ∃ (st' : Nat → Int32) (G : Nat → Nat), g_X10_sink N st (nI S) = some st' ∧ ∀ q, q < 2197 → st' q = nI (G q) ∧ G q ≤ 9999 ∧ G q = if q / S % 13 = 0 then F q else min (F q) (G (q - S)) := by
  unfold g_X10_sink
  exact s_sink_2 hS hS2 hF (2197 - S) S N F st (by omega) (by omega) (Nat.le_refl _) (fun q hq => ⟨h q (by omega), hF q, by rw [Nat.div_eq_of_lt hq]; rfl⟩) (fun q _ hq => h q hq)
/-- after the three sinks: the least at or below -/
theorem sink3 {F G1 G2 G3 : Nat → Nat} (h1 : ∀ q, q < 2197 → G1 q = if q / 1 % 13 = 0 then F q else min (F q) (G1 (q - 1))) (h2 : ∀ q, q < 2197 → G2 q = if q / 13 % 13 = 0 then G1 q else min (G1 q) (G2 (q - 13))) (h3 : ∀ q, q < 2197 → G3 q = if q / 169 % 13 = 0 then G2 q else min (G2 q) (G3 (q - 169))) {x y z : Nat} (hx : x < 13) (hy : y < 13) (hz : z < 13) : PM (fun x y z => F (g13 x y z)) x y z (G3 (g13 x y z)) := by
  have p1 : ∀ x y, x < 13 → y < 13 → ∀ z, z < 13 → (∀ z', z' ≤ z → G1 (g13 x y z) ≤ F (g13 x y z')) ∧ ∃ z', z' ≤ z ∧ G1 (g13 x y z) = F (g13 x y z') := by
    intro x y hx hy z
    induction z with
    | zero =>
      intro hz
      have e := h1 (g13 x y 0) (g13_lt hx hy hz)
      rw [if_pos (by unfold g13; omega)] at e
      exact ⟨fun z' hz' => by rw [show z' = 0 by omega, e]; exact Nat.le_refl _, 0, Nat.le_refl _, e⟩
    | succ z ih =>
      intro hz
      obtain ⟨a1, z', a2, a3⟩ := ih (by omega)
      have e := h1 (g13 x y (z + 1)) (g13_lt hx hy hz)
      rw [if_neg (by unfold g13; omega), show g13 x y (z + 1) - 1 = g13 x y z by unfold g13; omega] at e
      refine ⟨fun w hw => ?_, ?_⟩
      · rcases (show w = z + 1 ∨ w ≤ z by omega) with rfl | q
        · omega
        · have := a1 w q; omega
      · rcases (show G1 (g13 x y (z + 1)) = F (g13 x y (z + 1)) ∨ G1 (g13 x y (z + 1)) = G1 (g13 x y z) by omega) with q | q
        · exact ⟨z + 1, Nat.le_refl _, q⟩
        · exact ⟨z', by omega, by rw [q, a3]⟩
  have p2 : ∀ x z, x < 13 → z < 13 → ∀ y, y < 13 → (∀ y', y' ≤ y → G2 (g13 x y z) ≤ G1 (g13 x y' z)) ∧ ∃ y', y' ≤ y ∧ G2 (g13 x y z) = G1 (g13 x y' z) := by
    intro x z hx hz y
    induction y with
    | zero =>
      intro hy
      have e := h2 (g13 x 0 z) (g13_lt hx hy hz)
      rw [if_pos (by unfold g13; omega)] at e
      exact ⟨fun y' hy' => by rw [show y' = 0 by omega, e]; exact Nat.le_refl _, 0, Nat.le_refl _, e⟩
    | succ y ih =>
      intro hy
      obtain ⟨a1, y', a2, a3⟩ := ih (by omega)
      have e := h2 (g13 x (y + 1) z) (g13_lt hx hy hz)
      rw [if_neg (by unfold g13; omega), show g13 x (y + 1) z - 13 = g13 x y z by unfold g13; omega] at e
      refine ⟨fun w hw => ?_, ?_⟩
      · rcases (show w = y + 1 ∨ w ≤ y by omega) with rfl | q
        · omega
        · have := a1 w q; omega
      · rcases (show G2 (g13 x (y + 1) z) = G1 (g13 x (y + 1) z) ∨ G2 (g13 x (y + 1) z) = G2 (g13 x y z) by omega) with q | q
        · exact ⟨y + 1, Nat.le_refl _, q⟩
        · exact ⟨y', by omega, by rw [q, a3]⟩
  have p3 : ∀ y z, y < 13 → z < 13 → ∀ x, x < 13 → (∀ x', x' ≤ x → G3 (g13 x y z) ≤ G2 (g13 x' y z)) ∧ ∃ x', x' ≤ x ∧ G3 (g13 x y z) = G2 (g13 x' y z) := by
    intro y z hy hz x
    induction x with
    | zero =>
      intro hx
      have e := h3 (g13 0 y z) (g13_lt hx hy hz)
      rw [if_pos (by unfold g13; omega)] at e
      exact ⟨fun x' hx' => by rw [show x' = 0 by omega, e]; exact Nat.le_refl _, 0, Nat.le_refl _, e⟩
    | succ x ih =>
      intro hx
      obtain ⟨a1, x', a2, a3⟩ := ih (by omega)
      have e := h3 (g13 (x + 1) y z) (g13_lt hx hy hz)
      rw [if_neg (by unfold g13; omega), show g13 (x + 1) y z - 169 = g13 x y z by unfold g13; omega] at e
      refine ⟨fun w hw => ?_, ?_⟩
      · rcases (show w = x + 1 ∨ w ≤ x by omega) with rfl | q
        · omega
        · have := a1 w q; omega
      · rcases (show G3 (g13 (x + 1) y z) = G2 (g13 (x + 1) y z) ∨ G3 (g13 (x + 1) y z) = G3 (g13 x y z) by omega) with q | q
        · exact ⟨x + 1, Nat.le_refl _, q⟩
        · exact ⟨x', by omega, by rw [q, a3]⟩
  obtain ⟨a1, x', a2, a3⟩ := p3 y z hy hz x hx
  obtain ⟨b1, y', b2, b3⟩ := p2 x' z (by omega) hz y hy
  obtain ⟨c1, z', c2, c3⟩ := p1 x' y' (by omega) (by omega) z hz
  refine ⟨fun u v w hu hv hw => ?_, x', y', z', a2, b2, c2, by rw [a3, b3, c3]⟩
  have d1 := a1 u hu
  have d2 := (p2 u z (by omega) hz y hy).1 v hv
  have d3 := (p1 u v (by omega) (by omega) z hz).1 w hw
  show G3 (g13 x y z) ≤ F (g13 u v w)
  omega
/-- v may sit at a table of s seats -/
def tok (Q : Nat → Bool) (s v : Nat) : Bool := decide (v = 0) || (decide (v ≤ s) && Q v)
def seat (Q : Nat → Bool) (t s m : Nat) : Bool := tok Q s (m / 169) && tok Q (if t ≤ 1 then 0 else s) (m / 13 % 13) && tok Q (if t ≤ 2 then 0 else s) (m % 13)
def sd (m : Nat) : Nat := m / 169 + m / 13 % 13 + m % 13
theorem sd_le {m : Nat} (h : m < 2197) : sd m ≤ 36 := by unfold sd; omega
theorem s_seated {m : Nat} (h : m < 2197) : g_X10_seated (nI m) = some (nI (sd m)) := by
  unfold g_X10_seated
  rw [show nI m / 169 = nI (m / 169) from pk_div (d := 169) (by omega) (by decide) (by decide), show nI m - nI m / 13 * 13 = nI (m % 13) from z_rem (d := 13) (by omega) (by decide) (by decide), show nI m / 13 = nI (m / 13) from pk_div (d := 13) (by omega) (by decide) (by decide), show nI (m / 13) - nI (m / 13) / 13 * 13 = nI (m / 13 % 13) from z_rem (d := 13) (by omega) (by decide) (by decide), nI_add, nI_add]
  rfl
theorem s_isTable {a : Nat → Nat} {al : Nat → Int32} {N r s v : Nat} (hN : 200 ≤ N) (hI : IC a) (hM : KM a al 0) (hr : r ≤ 3) (hs : s < 100) (hv : v ≤ 99) : g_X10_isTable N al (nI r) (nI s) (nI v) = some (if tok (fitN (a 0) r) s v then 1 else 0) := by
  unfold g_X10_isTable tok
  rw [ifi (e_eq0 (a := v) (by omega)), ifi (e_lt (a := s) (b := v) (by omega) (by omega)), s_may (hM.at (i := 0) (by decide)) hI.1 hr hv hN, Option.bind_some, if10]
  by_cases c : v = 0
  · rw [if_pos c, decide_eq_true c]; rfl
  · rw [if_neg c, decide_eq_false c]
    by_cases d : s < v
    · rw [if_pos d, decide_eq_false (by omega)]; rfl
    · rw [if_neg d, decide_eq_true (by omega)]
      cases fitN (a 0) r v <;> rfl
theorem s_isSeating {a : Nat → Nat} {al : Nat → Int32} {N r t s m : Nat} (hN : 200 ≤ N) (hI : IC a) (hM : KM a al 0) (hr : r ≤ 3) (ht : t < 100) (hs : s < 100) (hm : m < 2197) : g_X10_isSeating N al (nI r) (nI t) (nI s) (nI m) = some (if seat (fitN (a 0) r) t s m then 1 else 0) := by
  unfold g_X10_isSeating g_X10_isSeating_27
  rw [show nI m / 169 = nI (m / 169) from pk_div (d := 169) (by omega) (by decide) (by decide), show nI m - nI m / 13 * 13 = nI (m % 13) from z_rem (d := 13) (by omega) (by decide) (by decide), show nI m / 13 = nI (m / 13) from pk_div (d := 13) (by omega) (by decide) (by decide), show nI (m / 13) - nI (m / 13) / 13 * 13 = nI (m / 13 % 13) from z_rem (d := 13) (by omega) (by decide) (by decide), show (0 : Int32) = nI 0 from rfl, s_isTable hN hI hM hr hs (by omega), s_isTable hN hI hM hr hs (by omega), s_isTable hN hI hM hr hs (by omega), s_isTable hN hI hM hr (show 0 < 100 by omega) (by omega), s_isTable hN hI hM hr (show 0 < 100 by omega) (by omega), Option.bind_some, Option.bind_some, Option.bind_some, Option.bind_some, Option.bind_some, ifi (show nI t ≤ 1 ↔ t ≤ 1 from e_le (b := 1) (by omega) (by decide)), ifi (show nI t ≤ 2 ↔ t ≤ 2 from e_le (b := 2) (by omega) (by decide))]
  unfold seat
  by_cases c1 : t ≤ 1
  · rw [if_pos c1, if_pos c1, if_pos (show t ≤ 2 by omega), if_pos (show t ≤ 2 by omega)]
    cases tok (fitN (a 0) r) s (m / 169) <;> cases tok (fitN (a 0) r) 0 (m / 13 % 13) <;> cases tok (fitN (a 0) r) 0 (m % 13) <;> rfl
  · rw [if_neg c1, if_neg c1]
    by_cases c2 : t ≤ 2
    · rw [if_pos c2, if_pos c2]
      cases tok (fitN (a 0) r) s (m / 169) <;> cases tok (fitN (a 0) r) s (m / 13 % 13) <;> cases tok (fitN (a 0) r) 0 (m % 13) <;> rfl
    · rw [if_neg c2, if_neg c2]
      cases tok (fitN (a 0) r) s (m / 169) <;> cases tok (fitN (a 0) r) s (m / 13 % 13) <;> cases tok (fitN (a 0) r) s (m % 13) <;> rfl
