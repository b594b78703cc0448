/-! walks: all that are an hour away (class) -/
theorem dg_tb (P s p b : Nat) : (dg P s p).testBit b = (decide (b < 2) && s.testBit (2 * (P - 1 - p) + b)) := by
  unfold dg
  rw [show (4 : Nat) = 2 ^ 2 from rfl, Nat.testBit_mod_two_pow, Nat.testBit_div_two_pow, Nat.add_comm]
theorem dg_ext {P s t : Nat} (hs : s < 2 ^ (2 * P)) (ht : t < 2 ^ (2 * P)) (h : ∀ p, p < P → dg P s p = dg P t p) : s = t := by
  apply Nat.eq_of_testBit_eq
  intro i
  rcases Nat.lt_or_ge i (2 * P) with q | q
  · have h1 := h (P - 1 - i / 2) (by omega)
    have h2 := dg_tb P s (P - 1 - i / 2) (i % 2)
    have h3 := dg_tb P t (P - 1 - i / 2) (i % 2)
    rw [h1, h3] at h2
    rw [show 2 * (P - 1 - (P - 1 - i / 2)) + i % 2 = i by omega, show decide (i % 2 < 2) = true from decide_eq_true (by omega), Bool.true_and, Bool.true_and] at h2
    exact h2.symm
  · rw [Nat.testBit_lt_two_pow (Nat.lt_of_lt_of_le hs (Nat.pow_le_pow_right (by decide) q)), Nat.testBit_lt_two_pow (Nat.lt_of_lt_of_le ht (Nat.pow_le_pow_right (by decide) q))]
theorem dg_or (P u v p : Nat) : dg P (u ||| v) p = dg P u p ||| dg P v p := by
  apply Nat.eq_of_testBit_eq
  intro b
  rw [dg_tb, Nat.testBit_or, Nat.testBit_or, dg_tb, dg_tb]
  cases decide (b < 2) <;> simp
theorem lt4_tb {d b : Nat} (hd : d < 4) (hb : 2 ≤ b) : d.testBit b = false := Nat.testBit_lt_two_pow (Nat.lt_of_lt_of_le hd (show 2 ^ 2 ≤ 2 ^ b from Nat.pow_le_pow_right (by decide) hb))
theorem dg_one {P d p p0 : Nat} (hd : d < 4) (hp : p < P) (hp0 : p0 < P) : dg P (d * 2 ^ (2 * (P - 1 - p0))) p = if p = p0 then d else 0 := by
  apply Nat.eq_of_testBit_eq
  intro b
  rw [dg_tb, ← Nat.shiftLeft_eq, Nat.testBit_shiftLeft]
  by_cases e : p = p0
  · subst e
    rw [if_pos rfl]
    by_cases hb : b < 2
    · rw [decide_eq_true hb, decide_eq_true (by omega), Nat.add_sub_cancel_left]; rfl
    · rw [decide_eq_false hb, Bool.false_and, lt4_tb hd (by omega)]
  · rw [if_neg e, Nat.zero_testBit]
    by_cases hb : b < 2
    · rw [decide_eq_true hb]
      by_cases hc : 2 * (P - 1 - p0) ≤ 2 * (P - 1 - p) + b
      · rw [decide_eq_true hc, lt4_tb hd (by omega)]; rfl
      · rw [decide_eq_false hc]; rfl
    · rw [decide_eq_false hb]; rfl
theorem dg_0 (P p : Nat) : dg P 0 p = 0 := by unfold dg; rw [Nat.zero_div]
/-- a state with these digits -/
theorem asm_ex {P : Nat} {d : Nat → Nat} (hd : ∀ p, d p < 4) : ∃ u, u < 2 ^ (2 * P) ∧ ∀ p, p < P → dg P u p = d p := by
  have h : ∀ n, n ≤ P → ∃ u, u < 2 ^ (2 * P) ∧ ∀ p, p < P → dg P u p = if p < n then d p else 0 := by
    intro n
    induction n with
    | zero => intro _; exact ⟨0, Nat.two_pow_pos _, fun p _ => by rw [dg_0, if_neg (by omega)]⟩
    | succ n ih =>
      intro hn
      obtain ⟨u, u1, u2⟩ := ih (by omega)
      refine ⟨u ||| d n * 2 ^ (2 * (P - 1 - n)), Nat.or_lt_two_pow u1 ?_, fun p hp => ?_⟩
      · have h1 := hd n
        have h2 : d n * 2 ^ (2 * (P - 1 - n)) < 4 * 2 ^ (2 * (P - 1 - n)) := Nat.mul_lt_mul_of_pos_right h1 (Nat.two_pow_pos _)
        have h3 : 4 * 2 ^ (2 * (P - 1 - n)) = 2 ^ (2 * (P - 1 - n) + 2) := by rw [Nat.pow_add, Nat.mul_comm]
        have h4 : 2 ^ (2 * (P - 1 - n) + 2) ≤ 2 ^ (2 * P) := Nat.pow_le_pow_right (by decide) (by omega)
        omega
      · rw [dg_or, u2 p hp, dg_one (hd n) hp (by omega)]
        by_cases e : p = n
        · rw [if_pos e, if_neg (by omega), if_pos (by omega), Nat.zero_or, e]
        · rw [if_neg e, Nat.or_zero]
          by_cases f : p < n
          · rw [if_pos f, if_pos (by omega)]
          · rw [if_neg f, if_neg (by omega)]
  obtain ⟨u, u1, u2⟩ := h P (Nat.le_refl _)
  exact ⟨u, u1, fun p hp => by rw [u2 p hp, if_pos hp]⟩
/-- how many of the first p are at c -/
def gi (P s c : Nat) : Nat → Nat
  | 0 => 0
  | p + 1 => gi P s c p + (if dg P s p = c then 1 else 0)
theorem gi_le (P s c : Nat) : ∀ p, gi P s c p ≤ p := by
  intro p
  induction p with
  | zero => exact Nat.le_refl _
  | succ p ih => rw [gi]; split <;> omega
theorem gi_mono (P s c p : Nat) : ∀ d, gi P s c p ≤ gi P s c (p + d) := by
  intro d
  induction d with
  | zero => exact Nat.le_refl _
  | succ d ih => rw [← Nat.add_assoc, gi]; omega
theorem gi_lt {P s c p q : Nat} (h : p < q) (hp : dg P s p = c) : gi P s c p < gi P s c q := by
  have := gi_mono P s c (p + 1) (q - (p + 1))
  rw [show p + 1 + (q - (p + 1)) = q by omega, gi, if_pos hp] at this
  omega
theorem gi_inj {P s c p q : Nat} (hp : dg P s p = c) (hq : dg P s q = c) (h : gi P s c p = gi P s c q) : p = q := by
  rcases Nat.lt_trichotomy p q with e | e | e
  · have := gi_lt e hp; omega
  · exact e
  · have := gi_lt e hq; omega
theorem gi_ex {P s c j : Nat} : ∀ n, j < gi P s c n → ∃ p, p < n ∧ dg P s p = c ∧ gi P s c p = j := by
  intro n
  induction n with
  | zero => intro h; exact absurd h (Nat.not_lt_zero _)
  | succ n ih =>
    intro h
    rw [gi] at h
    by_cases e : dg P s n = c
    · rw [if_pos e] at h
      rcases (show j = gi P s c n ∨ j < gi P s c n by omega) with q | q
      · exact ⟨n, by omega, e, q.symm⟩
      · obtain ⟨p, p1, p2⟩ := ih q
        exact ⟨p, by omega, p2⟩
    · rw [if_neg e] at h
      obtain ⟨p, p1, p2⟩ := ih h
      exact ⟨p, by omega, p2⟩
theorem in5' {x : Nat} (h : x < 5) : inb (nI x) 5 = true := by rw [inb_nI (by omega)]; simpa using h
theorem in4' {x : Nat} (h : x < 4) : inb (nI x) 4 = true := by rw [inb_nI (by omega)]; simpa using h
theorem in1024 {x : Nat} (h : x < 1024) : inb (nI x) 1024 = true := by rw [inb_nI (by omega)]; simpa using h
theorem s_shift {P p : Nat} (hp : p < P) : g_X8_shift (nI P) (nI p) = some (nI (2 * (P - 1 - p))) := by
  unfold g_X8_shift
  rw [z_sub1 (by omega), z_sub (by omega), show (2 : Int32) * nI (P - 1 - p) = nI (2 * (P - 1 - p)) from pk_mul 2 _]
def GR (P s c : Nat) (n : Nat) (g : Nat → Int32) : Prop := ∀ p, p < n → dg P s p = c → g (gi P s c p) = nI (2 * (P - 1 - p))
theorem z_dg' {P s p : Nat} (hP : P ≤ 5) (hs : s < 2147483648) : (nI s >>> (nI (2 * (P - 1 - p)) &&& 31)) &&& 3 = nI (dg P s p) := by
  rw [z_shr hs (by omega), z_and3 (Nat.lt_of_le_of_lt (Nat.div_le_self _ _) (by omega))]
  rfl
theorem s_gather_5 {P s c : Nat} (hP : P ≤ 5) (hs : s < 2147483648) (hc : c < 4) : ∀ (m p n : Nat) (g : Nat → Int32), p + m = P → m < n → GR P s c p g → ∃ g', g_X8_gather_5 (nI P) (nI s) (nI c) n (nI (gi P s c p)) (nI p) g = some (nI (gi P s c P), g') ∧ GR P s c P g' := by
  intro m
  induction m with
  | zero =>
    intro p n g e1 e2 h
    obtain ⟨n, rfl⟩ : ∃ z, n = z + 1 := ⟨n - 1, by omega⟩
    have e : p = P := by omega
    subst e
    exact ⟨g, by rw [g_X8_gather_5, if_pos (nI_le (by omega) (by omega))], h⟩
  | succ m ih =>
    intro p n g e1 e2 h
    obtain ⟨n, rfl⟩ : ∃ z, n = z + 1 := ⟨n - 1, by omega⟩
    have d1 := dg_lt P s p
    have hg := gi_le P s c p
    have hstep : gi P s c (p + 1) = gi P s c p + (if dg P s p = c then 1 else 0) := rfl
    rw [g_X8_gather_5, if_neg (fun h => absurd ((e_le (by omega) (by omega)).mp h) (by omega)), s_shift (by omega), Option.bind_some, z_dg' hP hs, ifi (e_eq (by omega) (by omega)), if_neg (show ¬ 5 ≤ nI (gi P s c p) from fun h => absurd ((e_le (a := 5) (by decide) (by omega)).mp h) (by omega)), if_pos (in5' (by omega)), nI_clamp (by omega), z_1, z_1]
    by_cases e : dg P s p = c
    · rw [if_pos e]
      rw [if_pos e] at hstep
      rw [← hstep]
      refine ih (p + 1) n _ (by omega) (by omega) (fun q hq hd => ?_)
      rcases (show q = p ∨ q < p by omega) with rfl | hh
      · rw [upd_at]
      · rw [upd_no (by have := gi_lt hh hd; omega)]; exact h q hh hd
    · rw [if_neg e]
      rw [if_neg e] at hstep
      rw [show nI (gi P s c p) = nI (gi P s c (p + 1)) by rw [hstep]; rfl]
      refine ih (p + 1) n _ (by omega) (by omega) (fun q hq hd => ?_)
      rcases (show q = p ∨ q < p by omega) with rfl | hh
      · exact absurd hd e
      · exact h q hh hd
/-- the digits that choice X gives those at c -/
def dX (P s c X p : Nat) : Nat := if dg P s p = c then X / 2 ^ (2 * gi P s c p) % 4 else 0
theorem dX_lt (P s c X p : Nat) : dX P s c X p < 4 := by unfold dX; split <;> omega
/-- so many of the first n at c, before the j-th, go to y -/
def cj (P s c X j y : Nat) : Nat → Nat
  | 0 => 0
  | p + 1 => cj P s c X j y p + (if dg P s p = c ∧ gi P s c p < j ∧ dX P s c X p = y then 1 else 0)
theorem cj_le (P s c X j y : Nat) : ∀ p, cj P s c X j y p ≤ p := by
  intro p
  induction p with
  | zero => exact Nat.le_refl _
  | succ p ih => rw [cj]; split <;> omega
theorem cj_0 (P s c X y : Nat) : ∀ p, cj P s c X 0 y p = 0 := by
  intro p
  induction p with
  | zero => rfl
  | succ p ih => rw [cj, ih, if_neg (fun h => absurd h.2.1 (Nat.not_lt_zero _))]
theorem cj_step {P s c X j y p0 : Nat} (h1 : dg P s p0 = c) (h2 : gi P s c p0 = j) : ∀ n, cj P s c X (j + 1) y n = cj P s c X j y n + (if p0 < n ∧ dX P s c X p0 = y then 1 else 0) := by
  intro n
  induction n with
  | zero => rw [if_neg (fun h => absurd h.1 (Nat.not_lt_zero _))]; rfl
  | succ n ih =>
    rw [cj, cj, ih]
    by_cases e : n = p0
    · subst e
      rw [if_neg (c := n < n ∧ _) (fun h => absurd h.1 (Nat.lt_irrefl _)), if_neg (c := dg P s n = c ∧ gi P s c n < j ∧ _) (fun h => by omega)]
      by_cases f : dX P s c X n = y
      · rw [if_pos ⟨h1, by omega, f⟩, if_pos ⟨by omega, f⟩]
      · rw [if_neg (fun h => f h.2.2), if_neg (fun h => f h.2)]
    · have hiff : (dg P s n = c ∧ gi P s c n < j + 1 ∧ dX P s c X n = y) ↔ (dg P s n = c ∧ gi P s c n < j ∧ dX P s c X n = y) := by
        constructor
        · rintro ⟨a1, a2, a3⟩
          refine ⟨a1, ?_, a3⟩
          rcases (show gi P s c n = j ∨ gi P s c n < j by omega) with q | q
          · exact absurd (gi_inj a1 h1 (by omega)) e
          · exact q
        · rintro ⟨a1, a2, a3⟩; exact ⟨a1, by omega, a3⟩
      have hif2 : (p0 < n ∧ dX P s c X p0 = y) ↔ (p0 < n + 1 ∧ dX P s c X p0 = y) := by
        constructor
        · rintro ⟨a1, a2⟩; exact ⟨by omega, a2⟩
        · rintro ⟨a1, a2⟩; exact ⟨by omega, a2⟩
      rw [ifi hiff, ifi hif2]
      omega
theorem cj_all {P s c X V y : Nat} (hV : ∀ p, p < P → dg P V p = dX P s c X p) : ∀ n, n ≤ P → cj P s c X (gi P s c P) y n = c2 P s V c y n := by
  intro n
  induction n with
  | zero => intro _; rfl
  | succ n ih =>
    intro hn
    rw [cj, c2, ih (by omega), hV n (by omega)]
    congr 1
    refine ifi ⟨fun h => ⟨h.1, h.2.2⟩, fun h => ⟨h.1, gi_lt (by omega) h.1, h.2⟩⟩
/-- those at c go as they may -/
def okc (w ft P s c V : Nat) : Prop := ∀ y, y < 4 → y ≠ c → 0 < c2 P s V c y P → w.testBit (4 * c + y) = true ∧ ft.testBit (c2 P s V c y P) = true
theorem s_chosen_80 {w ft P s c V : Nat} {goers : Nat → Int32} (hw : w < 65536) (hft : ft < 64) (hP : P ≤ 5) (hc : c < 4) (hg : ∀ y, y < 4 → goers y = nI (c2 P s V c y P)) : ∀ (m y n : Nat), y + m = 4 → m < n → (∀ z, z < y → z ≠ c → 0 < c2 P s V c z P → w.testBit (4 * c + z) = true ∧ ft.testBit (c2 P s V c z P) = true) → ∃ b : Bool, g_X8_chosen_80 (nI w) (nI ft) (nI c) n (nI V) (nI y) goers = some (if b then nI V else -1, goers) ∧ (b = true ↔ okc w ft P s c V) := by
  intro m
  induction m with
  | zero =>
    intro y n e1 e2 h
    obtain ⟨n, rfl⟩ : ∃ z, n = z + 1 := ⟨n - 1, by omega⟩
    have e : y = 4 := by omega
    subst e
    exact ⟨true, by rw [g_X8_chosen_80, if_pos (by decide)]; rfl, ⟨fun _ => h, fun _ => rfl⟩⟩
  | succ m ih =>
    intro y n e1 e2 h
    obtain ⟨n, rfl⟩ : ∃ z, n = z + 1 := ⟨n - 1, by omega⟩
    have hcl := c2_le P s V c y P
    have next : (y ≠ c → 0 < c2 P s V c y P → w.testBit (4 * c + y) = true ∧ ft.testBit (c2 P s V c y P) = true) → ∃ b : Bool, g_X8_chosen_80 (nI w) (nI ft) (nI c) n (nI V) (nI (y + 1)) goers = some (if b then nI V else -1, goers) ∧ (b = true ↔ okc w ft P s c V) := by
      intro hy
      refine ih (y + 1) n (by omega) (by omega) (fun z hz h1 h2 => ?_)
      rcases (show z = y ∨ z < y by omega) with rfl | hh
      · exact hy h1 h2
      · exact h z hh h1 h2
    have stop : y ≠ c → 0 < c2 P s V c y P → ¬ (w.testBit (4 * c + y) = true ∧ ft.testBit (c2 P s V c y P) = true) → ∃ b : Bool, (some ((-1 : Int32), goers) : Option (Int32 × (Nat → Int32))) = some (if b then nI V else -1, goers) ∧ (b = true ↔ okc w ft P s c V) := by
      intro h1 h2 h3
      exact ⟨false, rfl, ⟨fun h => absurd h (by decide), fun h => absurd (h y (by omega) h1 h2) h3⟩⟩
    rw [g_X8_chosen_80, if_neg (show ¬ 4 ≤ nI y from fun h => absurd ((e_le (a := 4) (by decide) (by omega)).mp h) (by omega)), show (4 : Int32) * nI c = nI (4 * c) from pk_mul 4 c, nI_add, ifi (z_tb (by omega) (by omega))]
    unfold g_X8_chosen_108
    rw [if_neg (show ¬ (1 : Int32) = 0 by decide), if_pos (show (0 : Int32) = 0 from rfl), if_pos (in4' (by omega)), if_pos (in4' (by omega)), nI_clamp (by omega), hg y (by omega), z_1]
    simp only [propext (e_eq (a := y) (b := c) (by omega) (by omega)), propext (show nI (c2 P s V c y P) ≤ 0 ↔ c2 P s V c y P ≤ 0 from e_le (b := 0) (by omega) (by decide)), propext (z_tb (v := ft) (p := c2 P s V c y P) (by omega) (by omega))]
    by_cases q1 : w.testBit (4 * c + y) = true
    · rw [if_pos q1]
      by_cases q2 : ft.testBit (c2 P s V c y P) = true
      · rw [if_pos q2]
        have hn := next (fun _ _ => ⟨q1, q2⟩)
        by_cases q3 : y = c
        · rw [if_pos q3]; exact hn
        · rw [if_neg q3]
          by_cases q4 : c2 P s V c y P ≤ 0
          · rw [if_pos q4]; exact hn
          · rw [if_neg q4]; exact hn
      · rw [if_neg q2]
        by_cases q3 : y = c
        · rw [if_pos q3]; exact next (fun h => absurd q3 h)
        · rw [if_neg q3]
          by_cases q4 : c2 P s V c y P ≤ 0
          · rw [if_pos q4]; exact next (fun _ h => by omega)
          · rw [if_neg q4]; exact stop q3 (by omega) (fun h => q2 h.2)
    · rw [if_neg q1]
      by_cases q3 : y = c
      · rw [if_pos q3]; exact next (fun h => absurd q3 h)
      · rw [if_neg q3]
        by_cases q4 : c2 P s V c y P ≤ 0
        · rw [if_pos q4]; exact next (fun _ h => by omega)
        · rw [if_neg q4]; exact stop q3 (by omega) (fun h => q1 h.1)
theorem or_pw {P V d p0 : Nat} (hV : V < 2 ^ (2 * P)) (hd : d < 4) (hp : p0 < P) : V ||| d * 2 ^ (2 * (P - 1 - p0)) < 2 ^ (2 * P) := by
  refine Nat.or_lt_two_pow hV ?_
  have h2 : d * 2 ^ (2 * (P - 1 - p0)) < 4 * 2 ^ (2 * (P - 1 - p0)) := Nat.mul_lt_mul_of_pos_right hd (Nat.two_pow_pos _)
  have h3 : 4 * 2 ^ (2 * (P - 1 - p0)) = 2 ^ (2 * (P - 1 - p0) + 2) := by rw [Nat.pow_add, Nat.mul_comm]
  have h4 : 2 ^ (2 * (P - 1 - p0) + 2) ≤ 2 ^ (2 * P) := Nat.pow_le_pow_right (by decide) (by omega)
  omega
theorem p2P {P : Nat} (hP : P ≤ 5) : 2 ^ (2 * P) ≤ 1024 := Nat.pow_le_pow_right (n := 2) (by decide) (show 2 * P ≤ 10 by omega)
theorem s_chosen_29 {w ft P s c X N : Nat} {group : Nat → Int32} (hN : 200 ≤ N) (hw : w < 65536) (hft : ft < 64) (hP : P ≤ 5) (hc : c < 4) (hX : X < 2147483648) (hG : GR P s c P group) : ∀ (m j n V : Nat) (goers : Nat → Int32), j + m = gi P s c P → m < n → V < 2 ^ (2 * P) → (∀ p, p < P → dg P V p = if dg P s p = c ∧ gi P s c p < j then dX P s c X p else 0) → (∀ y, y < 4 → goers y = nI (cj P s c X j y P)) → ∃ (V' : Nat) (b : Bool) (goers' : Nat → Int32), g_X8_chosen_29 N (nI w) (nI ft) group (nI X) (nI c) (nI (gi P s c P)) n (nI V) (nI j) goers = some (if b then nI V' else -1, goers') ∧ (b = true ↔ okc w ft P s c V') ∧ V' < 2 ^ (2 * P) ∧ ∀ p, p < P → dg P V' p = dX P s c X p := by
  have hgl := gi_le P s c P
  have hp2 := p2P hP
  intro m
  induction m with
  | zero =>
    intro j n V goers e1 e2 hV hd hg
    obtain ⟨n, rfl⟩ : ∃ z, n = z + 1 := ⟨n - 1, by omega⟩
    have e : j = gi P s c P := by omega
    have hd' : ∀ p, p < P → dg P V p = dX P s c X p := by
      intro p hp
      rw [hd p hp]
      by_cases q : dg P s p = c
      · rw [if_pos ⟨q, by rw [e]; exact gi_lt hp q⟩]
      · rw [if_neg (fun h => q h.1)]
        unfold dX
        rw [if_neg q]
    obtain ⟨b, b1, b2⟩ := s_chosen_80 (V := V) (goers := goers) hw hft hP hc (fun y hy => by rw [hg y hy, e, cj_all hd' P (Nat.le_refl _)]) 4 0 N (by omega) (by omega) (fun z hz => absurd hz (by omega))
    refine ⟨V, b, goers, ?_, b2, hV, hd'⟩
    rw [g_X8_chosen_29, if_pos (nI_le (by omega) (by omega))]
    exact b1
  | succ m ih =>
    intro j n V goers e1 e2 hV hd hg
    obtain ⟨n, rfl⟩ : ∃ z, n = z + 1 := ⟨n - 1, by omega⟩
    obtain ⟨p0, k1, k2, k3⟩ := gi_ex P (show j < gi P s c P by omega)
    have hdx : dX P s c X p0 = X / 2 ^ (2 * j) % 4 := by unfold dX; rw [if_pos k2, k3]
    have hdl := dX_lt P s c X p0
    have hsh : dX P s c X p0 * 2 ^ (2 * (P - 1 - p0)) < 4294967296 := by
      have h := or_pw (V := 0) (Nat.two_pow_pos _) hdl k1
      rw [Nat.zero_or] at h
      omega
    rw [g_X8_chosen_29, if_neg (fun h => absurd ((e_le (by omega) (by omega)).mp h) (by omega)), show (2 : Int32) * nI j = nI (2 * j) from pk_mul 2 j, z_shr hX (by omega), z_and3 (Nat.lt_of_le_of_lt (Nat.div_le_self _ _) (by omega)), ← hdx, if_pos (in4' hdl), if_pos (in5' (by omega)), nI_clamp (by omega), nI_clamp (by omega), show group j = nI (2 * (P - 1 - p0)) by rw [← k3]; exact hG p0 k1 k2, z_shl (by omega) hsh, z_or, hg _ hdl, z_1, z_1]
    refine ih (j + 1) n _ _ (by omega) (by omega) (or_pw hV hdl k1) (fun p hp => ?_) (fun y hy => ?_)
    · rw [dg_or, hd p hp, dg_one hdl hp k1]
      by_cases e : p = p0
      · subst e
        rw [if_pos rfl, if_neg (fun h => by omega), if_pos ⟨k2, by omega⟩, Nat.zero_or]
      · rw [if_neg e, Nat.or_zero]
        refine ifi ⟨fun h => ⟨h.1, by omega⟩, fun h => ⟨h.1, ?_⟩⟩
        rcases (show gi P s c p = j ∨ gi P s c p < j by omega) with q | q
        · exact absurd (gi_inj h.1 k2 (by omega)) e
        · exact q
    · rw [cj_step k2 k3]
      by_cases e : y = dX P s c X p0
      · rw [e, upd_at, if_pos ⟨k1, rfl⟩]
      · rw [upd_no e, hg y hy, if_neg (fun h => e h.2.symm)]; rfl
theorem s_chosen_3 {w ft P s c X N : Nat} {group : Nat → Int32} (hN : 200 ≤ N) (hw : w < 65536) (hft : ft < 64) (hP : P ≤ 5) (hc : c < 4) (hX : X < 2147483648) (hG : GR P s c P group) : ∀ (m k n : Nat) (goers : Nat → Int32), k + m = 4 → m < n → (∀ y, y < k → goers y = 0) → ∃ (V' : Nat) (b : Bool) (goers' : Nat → Int32), g_X8_chosen_3 N (nI w) (nI ft) group (nI X) (nI c) (nI (gi P s c P)) n (nI k) goers = some (if b then nI V' else -1, goers') ∧ (b = true ↔ okc w ft P s c V') ∧ V' < 2 ^ (2 * P) ∧ ∀ p, p < P → dg P V' p = dX P s c X p := by
  have hgl := gi_le P s c P
  intro m
  induction m with
  | zero =>
    intro k n goers e1 e2 h
    obtain ⟨n, rfl⟩ : ∃ z, n = z + 1 := ⟨n - 1, by omega⟩
    have e : k = 4 := by omega
    subst e
    rw [g_X8_chosen_3, if_pos (by decide)]
    exact s_chosen_29 hN hw hft hP hc hX hG (gi P s c P) 0 N 0 goers (by omega) (by omega) (Nat.two_pow_pos _) (fun p hp => by rw [dg_0, if_neg (fun h => absurd h.2 (Nat.not_lt_zero _))]) (fun y hy => by rw [h y hy, cj_0]; rfl)
  | succ m ih =>
    intro k n goers e1 e2 h
    obtain ⟨n, rfl⟩ : ∃ z, n = z + 1 := ⟨n - 1, by omega⟩
    rw [g_X8_chosen_3, if_neg (show ¬ 4 ≤ nI k from fun h => absurd ((e_le (a := 4) (by decide) (by omega)).mp h) (by omega)), if_pos (in4' (by omega)), nI_clamp (by omega), z_1]
    exact ih (k + 1) n _ (by omega) (by omega) (fun y hy => by
      rcases (show y = k ∨ y < k by omega) with rfl | hh
      · exact upd_at
      · rw [upd_no (by omega)]; exact h y hh)
/-- n numbers in f, all of S -/
def LIST (n : Nat) (f : Nat → Int32) (S : Nat → Prop) : Prop := (∀ i, i < n → ∃ u, f i = nI u ∧ S u) ∧ ∀ u, S u → ∃ i, i < n ∧ f i = nI u
def gen (w ft P s c X V : Nat) : Prop := V < 2 ^ (2 * P) ∧ (∀ p, p < P → dg P V p = dX P s c X p) ∧ okc w ft P s c V
theorem s_findChoices_7 {w ft P s c N : Nat} {group : Nat → Int32} (hN : 2000 ≤ N) (hw : w < 65536) (hft : ft < 64) (hP : P ≤ 5) (hc : c < 4) (hG : GR P s c P group) : ∀ (m X n cnt : Nat) (ch goers : Nat → Int32), X + m = 2 ^ (2 * gi P s c P) → m < n → cnt ≤ X → LIST cnt ch (fun V => ∃ Y, Y < X ∧ gen w ft P s c Y V) → ∃ cnt' ch' goers', g_X8_findChoices_7 N (nI w) (nI ft) group (nI c) (nI (gi P s c P)) n (nI X) (nI cnt) ch goers = some (nI cnt', ch', goers') ∧ cnt' ≤ 2 ^ (2 * gi P s c P) ∧ LIST cnt' ch' (fun V => ∃ Y, Y < 2 ^ (2 * gi P s c P) ∧ gen w ft P s c Y V) := by
  have hgl := gi_le P s c P
  have hp2 := p2P hP
  have hp3 : 2 ^ (2 * gi P s c P) ≤ 1024 := p2P (by omega)
  have hpw : (1 : Int32) <<< ((2 * nI (gi P s c P)) &&& 31) = nI (2 ^ (2 * gi P s c P)) := by
    rw [show (2 : Int32) * nI (gi P s c P) = nI (2 * gi P s c P) from pk_mul 2 _, z_pow (by omega)]
  intro m
  induction m with
  | zero =>
    intro X n cnt ch goers e1 e2 e3 hL
    obtain ⟨n, rfl⟩ : ∃ z, n = z + 1 := ⟨n - 1, by omega⟩
    have e : X = 2 ^ (2 * gi P s c P) := by omega
    rw [e] at hL
    exact ⟨cnt, ch, goers, by rw [g_X8_findChoices_7, hpw, if_pos (nI_le (by omega) (by omega))], by omega, hL⟩
  | succ m ih =>
    intro X n cnt ch goers e1 e2 e3 hL
    obtain ⟨n, rfl⟩ : ∃ z, n = z + 1 := ⟨n - 1, by omega⟩
    obtain ⟨V, b, goers1, c1, c2', c3, c4⟩ := s_chosen_3 (N := N) (by omega) hw hft hP hc (show X < 2147483648 by omega) hG 4 0 N goers (by omega) (by omega) (fun y hy => absurd hy (by omega))
    rw [g_X8_findChoices_7, hpw, if_neg (fun h => absurd ((e_le (by omega) (by omega)).mp h) (by omega))]
    unfold g_X8_chosen
    rw [show g_X8_chosen_3 N (nI w) (nI ft) group (nI X) (nI c) (nI (gi P s c P)) N 0 goers = some (if b then nI V else -1, goers1) from c1, Option.bind_some, if_neg (show ¬ 1024 ≤ nI cnt from fun h => absurd ((e_le (a := 1024) (by decide) (by omega)).mp h) (by omega)), if_pos (in1024 (by omega)), nI_clamp (by omega), z_1, z_1]
    cases b with
    | false =>
      rw [if_pos (show ((if false = true then nI V else -1 : Int32), goers1).1 = -1 from rfl)]
      refine ih (X + 1) n cnt ch goers1 (by omega) (by omega) (by omega) ⟨fun i hi => ?_, fun u ⟨Y, hY, hg⟩ => ?_⟩
      · obtain ⟨u, u1, Y, hY, hg⟩ := hL.1 i hi
        exact ⟨u, u1, Y, by omega, hg⟩
      · rcases (show Y = X ∨ Y < X by omega) with rfl | hh
        · have huV : u = V := dg_ext hg.1 c3 (fun p hp => by rw [hg.2.1 p hp, c4 p hp])
          rw [huV] at hg
          exact absurd (c2'.mpr hg.2.2) (by decide)
        · exact hL.2 u ⟨Y, hh, hg⟩
    | true =>
      rw [if_neg (show ¬ ((if true = true then nI V else -1 : Int32), goers1).1 = -1 from nI_nm1 (by omega))]
      refine ih (X + 1) n (cnt + 1) _ goers1 (by omega) (by omega) (by omega) ⟨fun i hi => ?_, fun u ⟨Y, hY, hg⟩ => ?_⟩
      · rcases (show i = cnt ∨ i < cnt by omega) with rfl | hh
        · exact ⟨V, upd_at, X, by omega, c3, c4, c2'.mp rfl⟩
        · obtain ⟨u, u1, Y, hY, hg⟩ := hL.1 i hh
          exact ⟨u, by rw [upd_no (by omega)]; exact u1, Y, by omega, hg⟩
      · rcases (show Y = X ∨ Y < X by omega) with rfl | hh
        · have huV : u = V := dg_ext hg.1 c3 (fun p hp => by rw [hg.2.1 p hp, c4 p hp])
          exact ⟨cnt, by omega, by rw [upd_at, huV]; rfl⟩
        · obtain ⟨i, i1, i2⟩ := hL.2 u ⟨Y, hh, hg⟩
          exact ⟨i, by omega, by rw [upd_no (by omega)]; exact i2⟩
/-- the choice that gives V -/
def enc (P s c V : Nat) : Nat → Nat
  | 0 => 0
  | p + 1 => enc P s c V p + (if dg P s p = c then dg P V p * 2 ^ (2 * gi P s c p) else 0)
theorem enc_lt (P s c V : Nat) : ∀ n, enc P s c V n < 2 ^ (2 * gi P s c n) := by
  intro n
  induction n with
  | zero => exact Nat.two_pow_pos _
  | succ n ih =>
    rw [enc, gi]
    have d := dg_lt P V n
    by_cases e : dg P s n = c
    · rw [if_pos e, if_pos e, show 2 * (gi P s c n + 1) = 2 * gi P s c n + 2 by omega, Nat.pow_add]
      have : dg P V n * 2 ^ (2 * gi P s c n) ≤ 3 * 2 ^ (2 * gi P s c n) := Nat.mul_le_mul_right _ (by omega)
      omega
    · rw [if_neg e, if_neg e]; exact ih
theorem enc_at (P s c V : Nat) : ∀ n p, p < n → dg P s p = c → enc P s c V n / 2 ^ (2 * gi P s c p) % 4 = dg P V p := by
  intro n
  induction n with
  | zero => intro p h; omega
  | succ n ih =>
    intro p h hp
    rw [enc]
    by_cases e : dg P s n = c
    · rw [if_pos e]
      rcases (show p = n ∨ p < n by omega) with rfl | hh
      · rw [Nat.add_mul_div_right _ _ (Nat.two_pow_pos _), Nat.div_eq_of_lt (enc_lt P s c V p), Nat.zero_add]
        have := dg_lt P V p
        omega
      · have hg := gi_lt hh hp
        have e1 : dg P V n * 2 ^ (2 * gi P s c n) = 2 ^ (2 * gi P s c p) * (4 * (dg P V n * 2 ^ (2 * (gi P s c n - gi P s c p - 1)))) := by
          have : 2 ^ (2 * gi P s c n) = 2 ^ (2 * gi P s c p) * (4 * 2 ^ (2 * (gi P s c n - gi P s c p - 1))) := by
            rw [show (4 : Nat) = 2 ^ 2 from rfl, ← Nat.pow_add, ← Nat.pow_add]
            congr 1
            omega
          rw [this]
          simp only [Nat.mul_comm, Nat.mul_left_comm]
        rw [e1, Nat.add_mul_div_left _ _ (Nat.two_pow_pos _), Nat.add_mul_mod_self_left]
        exact ih p hh hp
    · rw [if_neg e, Nat.add_zero]
      rcases (show p = n ∨ p < n by omega) with rfl | hh
      · exact absurd hp e
      · exact ih p hh hp
/-- what those at c may do, the rest at 0 -/
def CHO (w ft P s c V : Nat) : Prop := V < 2 ^ (2 * P) ∧ (∀ p, p < P → dg P s p ≠ c → dg P V p = 0) ∧ okc w ft P s c V
theorem CHO_iff {w ft P s c V : Nat} : CHO w ft P s c V ↔ ∃ Y, Y < 2 ^ (2 * gi P s c P) ∧ gen w ft P s c Y V := by
  constructor
  · rintro ⟨h1, h2, h3⟩
    refine ⟨enc P s c V P, enc_lt P s c V P, h1, fun p hp => ?_, h3⟩
    unfold dX
    by_cases e : dg P s p = c
    · rw [if_pos e, enc_at P s c V P p hp e]
    · rw [if_neg e]; exact h2 p hp e
  · rintro ⟨Y, hY, h1, h2, h3⟩
    refine ⟨h1, fun p hp hne => ?_, h3⟩
    rw [h2 p hp]
    unfold dX
    rw [if_neg hne]
theorem s_findChoices {w ft P s c N : Nat} {group : Nat → Int32} (hN : 2000 ≤ N) (hw : w < 65536) (hft : ft < 64) (hP : P ≤ 5) (hc : c < 4) (hG : GR P s c P group) (ch goers : Nat → Int32) : ∃ cnt' ch' goers', g_X8_findChoices N (nI w) (nI ft) ch goers group (nI c) (nI (gi P s c P)) = some (nI cnt', ch', goers') ∧ cnt' ≤ 2 ^ (2 * gi P s c P) ∧ LIST cnt' ch' (CHO w ft P s c) := by
  have hgl := gi_le P s c P
  have hp3 : 2 ^ (2 * gi P s c P) ≤ 1024 := p2P (by omega)
  obtain ⟨cnt', ch', goers', h1, h2, h3, h4⟩ := s_findChoices_7 hN hw hft hP hc hG (2 ^ (2 * gi P s c P)) 0 N 0 ch goers (by omega) (by omega) (Nat.le_refl _) ⟨fun i hi => absurd hi (by omega), fun u ⟨Y, hY, _⟩ => absurd hY (by omega)⟩
  refine ⟨cnt', ch', goers', h1, h2, fun i hi => ?_, fun u hu => h4 u (CHO_iff.mp hu)⟩
  obtain ⟨u, u1, u2⟩ := h3 i hi
  exact ⟨u, u1, CHO_iff.mpr u2⟩
