/-! numbers; which companies are allowed -/
theorem z_sl : ∀ n, n < 32 → ((nI n &&& 31).toBitVec.smod 32).toNat = n := by decide
theorem z_shr {s j : Nat} (hs : s < 2147483648) (hj : j < 32) : nI s >>> (nI j &&& 31) = nI (s / 2 ^ j) := pk_shrN hs _ j (z_sl j hj)
theorem z_shl {s j : Nat} (hj : j < 32) (h : s * 2 ^ j < 4294967296) : nI s <<< (nI j &&& 31) = nI (s * 2 ^ j) := pk_shlN _ j (z_sl j hj) h
theorem z_and1 {x : Nat} (h : x < 4294967296) : nI x &&& 1 = nI (x % 2) := by
  have := pk_andN (n := x) h (m := 1) 1 (by decide)
  simpa using this
theorem z_sub {a b : Nat} (h : b ≤ a) : nI a - nI b = nI (a - b) := pk_sub h
theorem z_sub1 {a : Nat} (h : 1 ≤ a) : nI a - 1 = nI (a - 1) := pk_sub (a := a) (b := 1) h
theorem z_rem {a d : Nat} (ha : a < 2147483648) (h0 : 0 < d) (hd : d < 2147483648) : nI a - nI a / nI d * nI d = nI (a % d) := pk_rem ha h0 hd
theorem z_eq {a b : Nat} (ha : a < 2147483648) (hb : b < 2147483648) : (nI a = nI b) = (a = b) := propext (nI_eq ha hb)
theorem z_eq0 {a : Nat} (ha : a < 2147483648) : (nI a = 0) = (a = 0) := propext (nI_eq (b := 0) ha (by decide))
theorem z_eq1 {a : Nat} (ha : a < 2147483648) : (nI a = 1) = (a = 1) := propext (nI_eq (b := 1) ha (by decide))
theorem z_lt {a b : Nat} (ha : a < 2147483648) (hb : b < 2147483648) : (nI a < nI b) = (a < b) := propext (nI_ltI ha hb)
theorem z_le {a b : Nat} (ha : a < 2147483648) (hb : b < 2147483648) : (nI a ≤ nI b) = (a ≤ b) := propext (nI_leI ha hb)
theorem z_mul (a b : Nat) : nI a * nI b = nI (a * b) := pk_mul a b
theorem z_1 (a : Nat) : nI a + 1 = nI (a + 1) := nI_1 a
theorem ifi {p q : Prop} {_ : Decidable p} [Decidable q] {α : Type} {A B : α} (h : p ↔ q) : (if p then A else B) = if q then A else B := by
  by_cases hq : q
  · rw [if_pos hq, if_pos (h.mpr hq)]
  · rw [if_neg hq, if_neg (fun hp => hq (h.mp hp))]
theorem e_eq {a b : Nat} (ha : a < 2147483648) (hb : b < 2147483648) : nI a = nI b ↔ a = b := nI_eq ha hb
theorem e_eq0 {a : Nat} (ha : a < 2147483648) : nI a = 0 ↔ a = 0 := nI_eq (b := 0) ha (by decide)
theorem e_eq1 {a : Nat} (ha : a < 2147483648) : nI a = 1 ↔ a = 1 := nI_eq (b := 1) ha (by decide)
theorem e_lt {a b : Nat} (ha : a < 2147483648) (hb : b < 2147483648) : nI a < nI b ↔ a < b := nI_ltI ha hb
theorem e_le {a b : Nat} (ha : a < 2147483648) (hb : b < 2147483648) : nI a ≤ nI b ↔ a ≤ b := nI_leI ha hb
/-- a prime -/
def pr (n : Nat) : Bool := decide (1 < n ∧ ∀ d, d < n → 2 ≤ d → n % d ≠ 0)
/-- a square -/
def sq (n : Nat) : Bool := (List.range 10).any (fun d => decide (1 ≤ d ∧ d * d = n))
theorem sq_iff (n : Nat) : sq n = true ↔ ∃ d, d < 10 ∧ 1 ≤ d ∧ d * d = n := by
  unfold sq
  rw [List.any_eq_true]
  constructor
  · rintro ⟨d, h1, h2⟩; exact ⟨d, List.mem_range.mp h1, by simpa using h2⟩
  · rintro ⟨d, h1, h2, h3⟩; exact ⟨d, List.mem_range.mpr h1, by simp [h2, h3]⟩
theorem sq_no {n : Nat} (h : ¬ ∃ d, d < 10 ∧ 1 ≤ d ∧ d * d = n) : sq n = false := by
  cases hs : sq n with
  | false => rfl
  | true => exact absurd ((sq_iff n).mp hs) h
def fitN (s rule n : Nat) : Bool := decide (1 ≤ n ∧ n ≤ 99) && (if rule = 0 then pr n else if rule = 1 then sq n else if rule = 2 then decide (n % 2 = 0) else decide (n ≤ 20 ∧ s / 2 ^ (n - 1) % 2 = 1))
theorem s_isPrime_2 {n : Nat} (hn : n < 100) : ∀ (m d f : Nat), n ≤ d + m → m < f → 2 ≤ d → d ≤ 100 → (∀ e, e < d → 2 ≤ e → e < n → n % e ≠ 0) → g_X1_isPrime_2 (nI n) f (nI d) = some (if pr n then 1 else 0) := by
  intro m
  induction m with
  | zero =>
    intro d f h1 h2 h3 h4 h5
    obtain ⟨f, rfl⟩ : ∃ g, f = g + 1 := ⟨f - 1, by omega⟩
    rw [g_X1_isPrime_2, if_pos (nI_le (by omega) (by omega))]
    by_cases hc : n ≤ 1
    · rw [if_pos (show nI n ≤ 1 from nI_le (b := 1) hc (by decide)), show pr n = false by unfold pr; simp; omega]; rfl
    · rw [if_neg (show ¬ nI n ≤ 1 from fun h => hc ((nI_leI (b := 1) (by omega) (by decide)).mp h)), show pr n = true by unfold pr; rw [decide_eq_true_eq]; exact ⟨by omega, fun e he h2 => h5 e (by omega) h2 he⟩]; rfl
  | succ m ih =>
    intro d f h1 h2 h3 h4 h5
    obtain ⟨f, rfl⟩ : ∃ g, f = g + 1 := ⟨f - 1, by omega⟩
    by_cases hd : n ≤ d
    · rw [g_X1_isPrime_2, if_pos (nI_le hd (by omega))]
      by_cases hc : n ≤ 1
      · rw [if_pos (show nI n ≤ 1 from nI_le (b := 1) hc (by decide)), show pr n = false by unfold pr; simp; omega]; rfl
      · rw [if_neg (show ¬ nI n ≤ 1 from fun h => hc ((nI_leI (b := 1) (by omega) (by decide)).mp h)), show pr n = true by unfold pr; rw [decide_eq_true_eq]; exact ⟨by omega, fun e he h2 => h5 e (by omega) h2 he⟩]; rfl
    · rw [g_X1_isPrime_2, if_neg (fun h => hd ((nI_leI (by omega) (by omega)).mp h)), if_pos (nI_ne0 (by omega) (by omega)), z_rem (by omega) (by omega) (by omega), ifi (e_eq0 (Nat.lt_of_le_of_lt (Nat.mod_le _ _) (by omega)))]
      by_cases hz : n % d = 0
      · rw [if_pos hz, show pr n = false by unfold pr; rw [decide_eq_false_iff_not]; exact fun h => h.2 d (by omega) h3 hz]; rfl
      · rw [if_neg hz, z_1]
        refine ih (d + 1) f (by omega) (by omega) (by omega) (by omega) (fun e he h2 h6 => ?_)
        rcases Nat.lt_or_ge e d with q | q
        · exact h5 e q h2 h6
        · rw [show e = d by omega]; exact hz
theorem s_isPrimeM_13 {n : Nat} (hn : n < 100) : ∀ (m d f : Nat) (b : Bool), n ≤ d + m → m < f → 2 ≤ d → d ≤ 100 → (b = decide (1 < n ∧ ∀ e, e < n → 2 ≤ e → e < d → n % e ≠ 0)) → g_X10_isPrime_13 (nI n) f (if b then 1 else 0) (nI d) = some (if pr n then 1 else 0) := by
  intro m
  induction m with
  | zero =>
    intro d f b h1 h2 h3 h4 h5
    obtain ⟨f, rfl⟩ : ∃ g, f = g + 1 := ⟨f - 1, by omega⟩
    rw [g_X10_isPrime_13, if_pos (nI_le (by omega) (by omega)), if_pos (zb_if b)]
    have : b = pr n := by
      rw [h5]; unfold pr; apply decide_eq_decide.mpr
      exact ⟨fun h => ⟨h.1, fun e he h2 => h.2 e he h2 (by omega)⟩, fun h => ⟨h.1, fun e he h2 _ => h.2 e he h2⟩⟩
    rw [this]
  | succ m ih =>
    intro d f b h1 h2 h3 h4 h5
    obtain ⟨f, rfl⟩ : ∃ g, f = g + 1 := ⟨f - 1, by omega⟩
    by_cases hd : n ≤ d
    · rw [g_X10_isPrime_13, if_pos (nI_le (by omega) (by omega)), if_pos (zb_if b)]
      have : b = pr n := by
        rw [h5]; unfold pr; apply decide_eq_decide.mpr
        exact ⟨fun h => ⟨h.1, fun e he h2 => h.2 e he h2 (by omega)⟩, fun h => ⟨h.1, fun e he h2 _ => h.2 e he h2⟩⟩
      rw [this]
    · rw [g_X10_isPrime_13, if_neg (fun h => hd ((nI_leI (by omega) (by omega)).mp h)), if10, if_pos (nI_ne0 (by omega) (by omega)), z_rem (by omega) (by omega) (by omega), ifi (e_eq0 (Nat.lt_of_le_of_lt (Nat.mod_le _ _) (by omega))), z_1]
      have hstep : ∀ b' : Bool, b' = (b && decide (n % d ≠ 0)) → g_X10_isPrime_13 (nI n) f (if b' then 1 else 0) (nI (d + 1)) = some (if pr n then 1 else 0) := by
        intro b' hb'
        refine ih (d + 1) f b' (by omega) (by omega) (by omega) (by omega) ?_
        rw [hb', h5, ← Bool.decide_and]
        apply decide_eq_decide.mpr
        constructor
        · intro h
          refine ⟨h.1.1, fun e he h2 h6 => ?_⟩
          rcases Nat.lt_or_ge e d with q | q
          · exact h.1.2 e he h2 q
          · rw [show e = d by omega]; exact h.2
        · intro h
          exact ⟨⟨h.1, fun e he h2 h6 => h.2 e he h2 (by omega)⟩, h.2 d (by omega) h3 (by omega)⟩
      cases b with
      | false => rw [if_neg (by decide)]; exact hstep false rfl
      | true =>
        rw [if_pos rfl]
        by_cases hz : n % d = 0
        · rw [if_pos hz]; exact hstep false (by simp [hz])
        · rw [if_neg hz]; exact hstep true (by simp [hz])
theorem s_isPrime {n N : Nat} (hn : n < 100) (hN : 200 ≤ N) : g_X1_isPrime N (nI n) = some (if pr n then 1 else 0) := s_isPrime_2 hn 100 2 N (by omega) (by omega) (by omega) (by omega) (fun e h1 h2 => absurd h1 (by omega))
theorem s_isPrimeM {n N : Nat} (hn : n < 100) (hN : 200 ≤ N) : g_X10_isPrime N (nI n) = some (if pr n then 1 else 0) := by
  unfold g_X10_isPrime
  by_cases hc : n ≤ 1
  · rw [if_pos (show nI n ≤ 1 from nI_le (b := 1) hc (by decide))]
    exact s_isPrimeM_13 hn 100 2 N false (by omega) (by omega) (by omega) (by omega) (by symm; rw [decide_eq_false_iff_not]; omega)
  · rw [if_neg (show ¬ nI n ≤ 1 from fun h => hc ((nI_leI (b := 1) (by omega) (by decide)).mp h))]
    exact s_isPrimeM_13 hn 100 2 N true (by omega) (by omega) (by omega) (by omega) (by symm; rw [decide_eq_true_eq]; exact ⟨by omega, fun e _ h2 h3 => absurd h3 (by omega)⟩)
theorem s_isSquare_2 {n : Nat} (hn : n < 100) : ∀ (m d f : Nat), 101 ≤ d + m → m < f → 1 ≤ d → d ≤ 101 → (∀ e, e < d → 1 ≤ e → e * e ≠ n) → g_X1_isSquare_2 (nI n) f (nI d) = some (if sq n then 1 else 0) := by
  intro m
  induction m with
  | zero =>
    intro d f h1 h2 h3 h4 h5
    obtain ⟨f, rfl⟩ : ∃ g, f = g + 1 := ⟨f - 1, by omega⟩
    rw [g_X1_isSquare_2, if_pos (nI_lt (by omega) (by omega)), sq_no (fun ⟨e, he, h1, h2⟩ => h5 e (by omega) h1 h2)]; rfl
  | succ m ih =>
    intro d f h1 h2 h3 h4 h5
    obtain ⟨f, rfl⟩ : ∃ g, f = g + 1 := ⟨f - 1, by omega⟩
    by_cases hd : n < d
    · rw [g_X1_isSquare_2, if_pos (nI_lt (by omega) (by omega)), sq_no (by
        rintro ⟨e, he, h1, h2⟩
        rcases Nat.lt_or_ge e d with q | q
        · exact h5 e q h1 h2
        · have : e * 1 ≤ e * e := Nat.mul_le_mul_left e h1
          omega)]; rfl
    · have hdd : d * d < 2147483648 := Nat.lt_of_le_of_lt (Nat.mul_le_mul h4 h4) (by decide)
      rw [g_X1_isSquare_2, if_neg (fun h => hd ((nI_ltI (by omega) (by omega)).mp h)), z_mul, ifi (e_eq hdd (by omega))]
      by_cases hz : d * d = n
      · rw [if_pos hz, (sq_iff n).mpr (by
          refine ⟨d, ?_, h3, hz⟩
          rcases Nat.lt_or_ge d 10 with q | q
          · exact q
          · have := Nat.mul_le_mul q q
            omega)]; rfl
      · rw [if_neg hz, z_1]
        refine ih (d + 1) f (by omega) (by omega) (by omega) (by omega) (fun e he h2 => ?_)
        rcases Nat.lt_or_ge e d with q | q
        · exact h5 e q h2
        · rw [show e = d by omega]; exact hz
theorem s_isSquare {n N : Nat} (hn : n < 100) (hN : 200 ≤ N) : g_X1_isSquare N (nI n) = some (if sq n then 1 else 0) := s_isSquare_2 hn 100 1 N (by omega) (by omega) (by omega) (by omega) (fun e h1 h2 => absurd h1 (by omega))
theorem s_isSquareM_4 {n : Nat} (hn : n < 100) : ∀ (m d f : Nat) (b : Bool), 10 = d + m → m < f → 1 ≤ d → (b = true ↔ ∃ e, e < d ∧ 1 ≤ e ∧ e * e = n) → g_X10_isSquare_4 (nI n) f (if b then 1 else 0) (nI d) = some (if sq n then 1 else 0) := by
  intro m
  induction m with
  | zero =>
    intro d f b h1 h2 h3 h5
    obtain ⟨f, rfl⟩ : ∃ g, f = g + 1 := ⟨f - 1, by omega⟩
    have hd : d = 10 := by omega
    subst hd
    rw [g_X10_isSquare_4, if_pos (by decide), if_pos (zb_if b), show b = sq n from Bool.eq_iff_iff.mpr (h5.trans (sq_iff n).symm)]
  | succ m ih =>
    intro d f b h1 h2 h3 h5
    obtain ⟨f, rfl⟩ : ∃ g, f = g + 1 := ⟨f - 1, by omega⟩
    have hdd : d * d < 2147483648 := Nat.lt_of_le_of_lt (Nat.mul_le_mul (show d ≤ 10 by omega) (show d ≤ 10 by omega)) (by decide)
    rw [g_X10_isSquare_4, if_neg (show ¬ 10 ≤ nI d from fun h => absurd ((nI_leI (a := 10) (by decide) (by omega)).mp h) (by omega)), if10, z_mul, ifi (e_eq hdd (by omega)), z_1]
    have hstep : ∀ b' : Bool, b' = (b || decide (d * d = n)) → g_X10_isSquare_4 (nI n) f (if b' then 1 else 0) (nI (d + 1)) = some (if sq n then 1 else 0) := by
      intro b' hb'
      refine ih (d + 1) f b' (by omega) (by omega) (by omega) ?_
      rw [hb', Bool.or_eq_true, h5, decide_eq_true_eq]
      constructor
      · rintro (⟨e, he, h1, h2⟩ | h)
        · exact ⟨e, by omega, h1, h2⟩
        · exact ⟨d, by omega, h3, h⟩
      · rintro ⟨e, he, h1, h2⟩
        rcases Nat.lt_or_ge e d with q | q
        · exact Or.inl ⟨e, q, h1, h2⟩
        · right; rw [show d = e by omega]; exact h2
    cases b with
    | true => rw [if_pos rfl]; exact hstep true rfl
    | false =>
      rw [if_neg (by decide)]
      by_cases hz : d * d = n
      · rw [if_pos hz]; exact hstep true (by simp [hz])
      · rw [if_neg hz]; exact hstep false (by simp [hz])
theorem s_isSquareM {n N : Nat} (hn : n < 100) (hN : 200 ≤ N) : g_X10_isSquare N (nI n) = some (if sq n then 1 else 0) := s_isSquareM_4 hn 9 1 N false (by omega) (by omega) (by omega) ⟨fun h => absurd h (by decide), fun ⟨e, h1, h2, _⟩ => absurd h1 (by omega)⟩
theorem fitN_out {s rule n : Nat} (h : ¬ (1 ≤ n ∧ n ≤ 99)) : fitN s rule n = false := by unfold fitN; simp [h]
theorem fitN_in {s rule n : Nat} (h : 1 ≤ n ∧ n ≤ 99) : fitN s rule n = (if rule = 0 then pr n else if rule = 1 then sq n else if rule = 2 then decide (n % 2 = 0) else decide (n ≤ 20 ∧ s / 2 ^ (n - 1) % 2 = 1)) := by unfold fitN; simp [h]
theorem z_bit {s n : Nat} (hs : s < 1048576) (h1 : 1 ≤ n) (h2 : n ≤ 20) : ((nI s >>> ((nI n - 1) &&& 31)) &&& 1 = 1) ↔ (s / 2 ^ (n - 1) % 2 = 1) := by
  rw [z_sub1 h1, z_shr (by omega) (by omega), z_and1 (Nat.lt_of_le_of_lt (Nat.div_le_self _ _) (by omega)), e_eq1 (by omega)]
theorem if_dec (c : Prop) [Decidable c] {α : Type} (A B : α) : (if c then A else B) = if decide c then A else B := by
  by_cases h : c
  · rw [if_pos h, if_pos (by simpa using h)]
  · rw [if_neg h, if_neg (by simpa using h)]
theorem some_if (c : Prop) [Decidable c] {α : Type} (A B : α) : (if c then some A else some B) = some (if c then A else B) := by
  split <;> rfl
theorem fitN0 {s n : Nat} (h : 1 ≤ n ∧ n ≤ 99) : fitN s 0 n = pr n := by rw [fitN_in h]; rfl
theorem fitN1 {s n : Nat} (h : 1 ≤ n ∧ n ≤ 99) : fitN s 1 n = sq n := by rw [fitN_in h]; rfl
theorem fitN2 {s n : Nat} (h : 1 ≤ n ∧ n ≤ 99) : fitN s 2 n = decide (n % 2 = 0) := by rw [fitN_in h]; rfl
theorem fitN3 {s n : Nat} (h : 1 ≤ n ∧ n ≤ 99) : fitN s 3 n = decide (n ≤ 20 ∧ s / 2 ^ (n - 1) % 2 = 1) := by rw [fitN_in h]; rfl
theorem s_even {n : Nat} (hn : n < 2147483648) : (if nI n - nI n / 2 * 2 = 0 then some (1 : Int32) else some 0) = some (if decide (n % 2 = 0) then 1 else 0) := by
  rw [show nI n - nI n / 2 * 2 = nI (n % 2) from z_rem (d := 2) hn (by decide) (by decide), ifi (e_eq0 (a := n % 2) (by omega))]
  by_cases hz : n % 2 = 0 <;> simp [hz]
theorem s_toldbit {s n : Nat} (hs : s < 1048576) (h1 : 1 ≤ n) (h2 : n ≤ 20) : (if (nI s >>> ((nI n - 1) &&& 31)) &&& 1 = 1 then some (1 : Int32) else some 0) = some (if decide (n ≤ 20 ∧ s / 2 ^ (n - 1) % 2 = 1) then 1 else 0) := by
  rw [ifi (z_bit hs h1 h2)]
  by_cases hz : s / 2 ^ (n - 1) % 2 = 1 <;> simp [hz, h2]
theorem s_fits {s rule n N : Nat} (hs : s < 1048576) (hr : rule ≤ 3) (hn : n < 2147483648) (hN : 200 ≤ N) : g_X1_fits N (nI s) (nI rule) (nI n) = some (if fitN s rule n then 1 else 0) := by
  unfold g_X1_fits
  rw [s_isWithin, show wi (nI n) 1 99 = (decide (1 ≤ n) && decide (n ≤ 99)) from wi_of (lo := 1) (hi := 99) hn (by decide) (by decide), Option.bind_some, if10]
  by_cases h : 1 ≤ n ∧ n ≤ 99
  · rw [if_pos (by simp [h])]
    rcases (show rule = 0 ∨ rule = 1 ∨ rule = 2 ∨ rule = 3 by omega) with rfl | rfl | rfl | rfl
    · rw [if_pos rfl, s_isPrime (by omega) hN, Option.bind_some, if_pos (zb_if _), fitN0 h]
    · rw [if_neg (by decide), if_pos rfl, s_isSquare (by omega) hN, Option.bind_some, if_pos (zb_if _), fitN1 h]
    · rw [if_neg (by decide), if_neg (by decide), if_pos rfl, s_even hn, fitN2 h]
    · rw [if_neg (by decide), if_neg (by decide), if_neg (by decide), if_pos rfl, fitN3 h]
      by_cases h20 : n ≤ 20
      · rw [if_neg (show ¬ 20 < nI n from fun hh => absurd ((nI_ltI (a := 20) (by decide) hn).mp hh) (by omega)), s_toldbit hs h.1 h20]
      · rw [if_pos (show 20 < nI n from nI_lt (a := 20) (by omega) hn)]
        simp [h20]
  · rw [if_neg (by simpa using h), fitN_out h]; rfl
theorem s_may {al : Nat → Int32} {s rule n N : Nat} (h0 : al 0 = nI s) (hs : s < 1048576) (hr : rule ≤ 3) (hn : n ≤ 99) (hN : 200 ≤ N) : g_X10_may N al (nI rule) (nI n) = some (if fitN s rule n then 1 else 0) := by
  unfold g_X10_may
  by_cases h : 1 ≤ n ∧ n ≤ 99
  · rcases (show rule = 0 ∨ rule = 1 ∨ rule = 2 ∨ rule = 3 by omega) with rfl | rfl | rfl | rfl
    · rw [if_pos rfl, s_isPrimeM (by omega) hN, Option.bind_some, if_pos (zb_if _), fitN0 h]
    · rw [if_neg (by decide), if_pos rfl, s_isSquareM (by omega) hN, Option.bind_some, if_pos (zb_if _), fitN1 h]
    · rw [if_neg (by decide), if_neg (by decide), if_pos rfl, if_neg (show ¬ nI n ≤ 0 from fun hh => absurd ((nI_leI (b := 0) (by omega) (by decide)).mp hh) (by omega)), s_even (by omega), fitN2 h]
    · rw [if_neg (by decide), if_neg (by decide), if_neg (by decide), s_in, show wi (nI n) 1 20 = (decide (1 ≤ n) && decide (n ≤ 20)) from wi_of (lo := 1) (hi := 20) (by omega) (by decide) (by decide), Option.bind_some, if10, fitN3 h]
      by_cases h20 : n ≤ 20
      · rw [if_pos (by simp [h, h20]), if_pos (by decide), show (0 : Int32).toNatClampNeg = 0 from rfl, h0, s_toldbit hs h.1 h20]
      · rw [if_neg (by simp [h20])]
        simp [h20]
  · have e : n = 0 := by omega
    subst e
    rw [fitN_out h]
    rcases (show rule = 0 ∨ rule = 1 ∨ rule = 2 ∨ rule = 3 by omega) with rfl | rfl | rfl | rfl
    · rw [if_pos rfl, s_isPrimeM (by omega) hN, Option.bind_some, if_pos (zb_if _)]; rfl
    · rw [if_neg (by decide), if_pos rfl, s_isSquareM (by omega) hN, Option.bind_some, if_pos (zb_if _)]; rfl
    · rw [if_neg (by decide), if_neg (by decide), if_pos rfl, if_pos (by decide)]; rfl
    · rw [if_neg (by decide), if_neg (by decide), if_neg (by decide), s_in, Option.bind_some]; rfl
