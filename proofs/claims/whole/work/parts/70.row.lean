/-! row -/
def gS (Q : Nat → Bool) (s v : Nat) : Nat := if Q s = true ∧ s ≤ v then rn Q s (v - s) else 0
/-- size k of the i-th row of sizes s or more, v in all, from place p on -/
def rwA (Q : Nat → Bool) (k : Nat) : Nat → Nat → Nat → Nat → Nat → Int32
  | 0, _, _, _, _ => -5
  | f + 1, v, s, i, p => if v < s then -5 else if i < gS Q s v then (if p = k then nI s else rwA Q k f (v - s) s i (p + 1)) else rwA Q k f v (s + 1) (i - gS Q s v) p
theorem s_numNeg {num : Nat → Int32} {s v : Nat} (h1 : 1 ≤ s) (h2 : s ≤ 31) (h : v < s) : g_X4_numberFrom num (nI s) (nI v - nI s) = some 0 := by
  unfold g_X4_numberFrom g_X4_numberFrom_24 g_X4_numberFrom_25
  rw [s_isWithin, s_isWithin, Option.bind_some, Option.bind_some, if10, if10, if_pos (show wi (nI s) 1 31 = true from by
    rw [show wi (nI s) 1 31 = (decide (1 ≤ s) && decide (s ≤ 31)) from wi_of (lo := 1) (hi := 31) (by omega) (by decide) (by decide)]; simp; omega), if_neg (show ¬ wi (nI v - nI s) 0 30 = true from fun hh => by
    have h3 := pk_sneg (a := v) (b := s) (by omega) h
    unfold wi at hh
    rw [Bool.and_eq_true, decide_eq_true_eq] at hh
    exact lt_nle h3 hh.1), if_pos rfl]
theorem s_has {Q : Nat → Bool} {fits num : Nat → Int32} (hf : FT Q fits) (hT : NT Q 1 num) {s v i : Nat} (h1 : 1 ≤ s) (h2 : s ≤ 30) (hv : v ≤ 30) (hi : i < 2147483648) : g_X4_has fits num (nI s) (nI v) (nI i) = some (if i < gS Q s v then 1 else 0) := by
  unfold g_X4_has gS
  rw [if_neg (show ¬ 31 ≤ nI s from fun h => absurd ((e_le (a := 31) (by decide) (by omega)).mp h) (by omega)), if_pos (in31 (by omega)), nI_clamp (by omega), hf s (by omega), if10]
  cases hq : Q s with
  | false => rw [if_neg (by decide), if_neg (show ¬ (false = true ∧ s ≤ v) from fun h => absurd h.1 (by decide)), if_neg (by omega)]
  | true =>
    rw [if_pos rfl]
    by_cases c : s ≤ v
    · have hlt := rn_lt (Q := Q) (s := s) (v := v - s) h1 (by omega)
      rw [z_sub c, s_numFrom hT h1 (by omega) (by omega), Option.bind_some, ifi (e_le hlt hi), if_pos (show true = true ∧ s ≤ v from ⟨rfl, c⟩)]
      by_cases d : rn Q s (v - s) ≤ i
      · rw [if_pos d, if_neg (by omega)]
      · rw [if_neg d, if_pos (by omega)]
    · rw [s_numNeg h1 (by omega) (by omega), Option.bind_some, if_pos (show (0 : Int32) ≤ nI i from nI_pos' hi), if_neg (show ¬ (true = true ∧ s ≤ v) from fun h => c h.2), if_neg (by omega)]
theorem s_79 {Q : Nat → Bool} {fits num : Nat → Int32} (hf : FT Q fits) (hT : NT Q 1 num) (K : Int32 → Int32 → Int32 → Int32 → Option Int32) {s v i p : Nat} (h1 : 1 ≤ s) (h2 : s ≤ 30) (hv : v ≤ 30) (hi : gS Q s v ≤ i) : g_X4_size_79 fits num K (nI v) (nI i) (nI p) (nI s) = K (nI v) (nI (i - gS Q s v)) (nI p) (nI (s + 1)) := by
  unfold g_X4_size_79 gS
  unfold gS at hi
  rw [if_neg (show ¬ 31 ≤ nI s from fun h => absurd ((e_le (a := 31) (by decide) (by omega)).mp h) (by omega)), if_pos (in31 (by omega)), nI_clamp (by omega), hf s (by omega), if10, z_1]
  cases hq : Q s with
  | false => rw [if_neg (by decide), if_neg (show ¬ (false = true ∧ s ≤ v) from fun h => absurd h.1 (by decide))]; rfl
  | true =>
    rw [if_pos rfl]
    rw [hq] at hi
    by_cases c : s ≤ v
    · rw [if_pos (show true = true ∧ s ≤ v from ⟨rfl, c⟩)] at hi
      rw [z_sub c, s_numFrom hT h1 (by omega) (by omega), Option.bind_some, if_pos (show true = true ∧ s ≤ v from ⟨rfl, c⟩), z_sub hi]
    · rw [s_numNeg h1 (by omega) (by omega), Option.bind_some, if_neg (show ¬ (true = true ∧ s ≤ v) from fun h => c h.2), show nI i - 0 = nI (i - 0) from z_sub (b := 0) (by omega)]
theorem s_sizeA {Q : Nat → Bool} {fits num : Nat → Int32} {N k f : Nat} (hB : ∀ (v s i p c n n2 : Nat), 1 ≤ s → s ≤ 30 → v ≤ 30 → c + v ≤ 30 → i < 2147483648 → p ≤ 40 → 34 ≤ n + s + 1 → 34 ≤ n2 + c → 2 * v + 2 ≤ f + s → p + v ≤ 31 → g_X4_size_34 fits num (nI k) (g_X4_size_24 N fits num (nI k) n) n2 (nI v) (nI i) (nI p) (nI s) (nI c) = some (rwA Q k f v s i p)) (hN : 200 ≤ N) : ∀ (v s i p n : Nat), 1 ≤ s → s ≤ 31 → v ≤ 30 → i < 2147483648 → p ≤ 40 → 34 ≤ n + s → 2 * v + 2 ≤ f + s → p + v ≤ 31 → g_X4_size_24 N fits num (nI k) n (nI v) (nI i) (nI p) (nI s) = some (rwA Q k f v s i p) := by
  intro v s i p n h1 h2 h3 h4 h5 h6 h7 h8
  obtain ⟨n, rfl⟩ : ∃ z, n = z + 1 := ⟨n - 1, by omega⟩
  rw [g_X4_size_24, ifi (e_lt (by omega) (by omega))]
  by_cases c : v < s
  · rw [if_pos c]
    cases f with
    | zero => rfl
    | succ f => rw [rwA, if_pos c]
  · rw [if_neg c]
    exact hB v s i p 0 n N h1 (by omega) h3 (by omega) h4 h5 (by omega) (by omega) h7 h8
theorem s_sizeB {Q : Nat → Bool} {fits num : Nat → Int32} {N k : Nat} (hN : 200 ≤ N) (hk : k < 2147483648) (hf : FT Q fits) (hT : NT Q 1 num) : ∀ (f v s i p c n n2 : Nat), 1 ≤ s → s ≤ 30 → v ≤ 30 → c + v ≤ 30 → i < 2147483648 → p ≤ 40 → 34 ≤ n + s + 1 → 34 ≤ n2 + c → 2 * v + 2 ≤ f + s → p + v ≤ 31 → g_X4_size_34 fits num (nI k) (g_X4_size_24 N fits num (nI k) n) n2 (nI v) (nI i) (nI p) (nI s) (nI c) = some (rwA Q k f v s i p) := by
  have low : ∀ (f v s i p c n n2 : Nat), 1 ≤ s → s ≤ 30 → v < s → c + v ≤ 30 → i < 2147483648 → p ≤ 40 → 34 ≤ n + s + 1 → 34 ≤ n2 + c → g_X4_size_34 fits num (nI k) (g_X4_size_24 N fits num (nI k) n) n2 (nI v) (nI i) (nI p) (nI s) (nI c) = some (-5) := by
    intro f v s i p c n n2 h1 h2 h3 h4 h5 h6 h7 h8
    obtain ⟨n2, rfl⟩ : ∃ z, n2 = z + 1 := ⟨n2 - 1, by omega⟩
    obtain ⟨n, rfl⟩ : ∃ z, n = z + 1 := ⟨n - 1, by omega⟩
    have hg : gS Q s v = 0 := if_neg (by omega)
    rw [g_X4_size_34, if_neg (show ¬ 31 ≤ nI c from fun h => absurd ((e_le (a := 31) (by decide) (by omega)).mp h) (by omega)), s_has hf hT h1 h2 (by omega) h5, Option.bind_some, hg, if_neg (show ¬ i < 0 by omega), if_pos rfl, s_79 hf hT _ h1 h2 (by omega) (by omega), g_X4_size_24, if_pos (nI_lt (by omega) (by omega))]
  intro f
  induction f with
  | zero =>
    intro v s i p c n n2 h1 h2 h3 h4 h5 h6 h7 h8 h9 h10
    exact low 0 v s i p c n n2 h1 h2 (by omega) h4 h5 h6 h7 h8
  | succ f ih =>
    intro v s i p c n n2 h1 h2 h3 h4 h5 h6 h7 h8 h9 h10
    by_cases hvs : v < s
    · rw [rwA, if_pos hvs]; exact low 0 v s i p c n n2 h1 h2 hvs h4 h5 h6 h7 h8
    · obtain ⟨n2, rfl⟩ : ∃ z, n2 = z + 1 := ⟨n2 - 1, by omega⟩
      rw [rwA, if_neg hvs, g_X4_size_34, if_neg (show ¬ 31 ≤ nI c from fun h => absurd ((e_le (a := 31) (by decide) (by omega)).mp h) (by omega)), s_has hf hT h1 h2 (by omega) h5, Option.bind_some]
      by_cases d : i < gS Q s v
      · rw [if_pos d, if_pos d, if_neg (by decide), ifi (e_eq (a := p) (b := k) (by omega) hk), z_sub (by omega), z_1, z_1]
        by_cases e : p = k
        · rw [if_pos e, if_pos e]
        · rw [if_neg e, if_neg e]
          exact ih (v - s) s i (p + 1) (c + 1) n n2 h1 h2 (by omega) (by omega) h5 (by omega) h7 (by omega) (by omega) (by omega)
      · rw [if_neg d, if_neg d, if_pos rfl, s_79 hf hT _ h1 h2 (by omega) (by omega)]
        exact s_sizeA ih hN v (s + 1) (i - gS Q s v) p n (by omega) (by omega) (by omega) (by omega) (by omega) (by omega) (by omega) (by omega)
theorem s_rsize {Q : Nat → Bool} {fits num : Nat → Int32} {N k n i : Nat} (hN : 200 ≤ N) (hk : k < 2147483648) (hf : FT Q fits) (hT : NT Q 1 num) (hn : n ≤ 30) (hi : i < 2147483648) : g_X4_size N fits num (nI n) (nI i) (nI k) = some (if i < rn Q 1 n then rwA Q k 100 n 1 i 0 else -5) := by
  have hlt := rn_lt (Q := Q) (s := 1) (v := n) (by omega) hn
  unfold g_X4_size g_X4_number
  rw [show g_X4_numberFrom num 1 (nI n) = some (nI (rn Q 1 n)) from s_numFrom hT (s := 1) (by omega) (by omega) hn, Option.bind_some, Option.bind_some, ifi (e_lt hi hlt)]
  by_cases c : i < rn Q 1 n
  · rw [if_pos c, if_pos c]
    exact s_sizeA (s_sizeB hN hk hf hT 100) hN n 1 i 0 N (by omega) (by omega) hn hi (by omega) (by omega) (by omega) (by omega)
  · rw [if_neg c, if_neg c]
/-! reference -/
theorem s_row125 {a : Nat → Nat} {al few most rf rows : Nat → Int32} {N r k nn n : Nat} (hN : 200 ≤ N) (hI : IC a) (hM : KM a al 0) (hr : r ≤ 3) (hn : nn ≤ 30) (hk : k < 2147483648) (hC : ∀ t w, 1 ≤ t → t ≤ nn + 1 → w ≤ nn → rows (33 * w + t) = nI (rn (fitN (a 0) r) t w)) (hn0 : 0 < n) : ∀ (f : Nat), (∀ g, g < f → ∀ (v s i p : Nat), 1 ≤ s → v ≤ nn → s ≤ nn → i < rn (fitN (a 0) r) s v → p ≤ k → p + v ≤ 31 → v < n → 2 * v + 2 ≤ g + s → g_X10_row_71 N al (nI r) (nI k) n (nI v) (nI s) (nI i) (nI p) few most rf rows = some (rwA (fitN (a 0) r) k g v s i p, few, most, rf, rows)) → ∀ (v s i p n2 : Nat), 1 ≤ s → v ≤ nn → s ≤ v → i < rn (fitN (a 0) r) s v → p ≤ k → p + v ≤ 31 → v ≤ n → v < n2 + s → 2 * v + 2 ≤ f + s → g_X10_row_125 N al (nI r) (g_X10_row_71 N al (nI r) (nI k) n) n2 (nI v) (nI s) (nI i) (nI p) (nI (gS (fitN (a 0) r) s v)) few most rf rows = some (rwA (fitN (a 0) r) k f v s i p, few, most, rf, rows) := by
  intro f
  induction f with
  | zero => intro _ v s i p n2 h1 h2 h3; intros; omega
  | succ f ih =>
    intro h71 v s i p n2 h1 h2 h3 h4 h5 h6 h7 h8 h9
    obtain ⟨n2, rfl⟩ : ∃ z, n2 = z + 1 := ⟨n2 - 1, by omega⟩
    have hil := rn_lt (Q := fitN (a 0) r) (s := s) (v := v) h1 (by omega)
    have he : rn (fitN (a 0) r) s v = rn (fitN (a 0) r) (s + 1) v + gS (fitN (a 0) r) s v := rn_eq h1 (by omega)
    rw [g_X10_row_125, rwA, if_neg (show ¬ v < s by omega), ifi (e_lt (a := i) (b := gS (fitN (a 0) r) s v) (by omega) (by omega)), z_1, z_1]
    by_cases d : i < gS (fitN (a 0) r) s v
    · have hg : gS (fitN (a 0) r) s v = rn (fitN (a 0) r) s (v - s) := by
        unfold gS at d ⊢
        by_cases q : fitN (a 0) r s = true ∧ s ≤ v
        · rw [if_pos q]
        · rw [if_neg q] at d; omega
      rw [if_pos d, if_pos d, z_sub h3]
      by_cases e : p = k
      · obtain ⟨n, rfl⟩ : ∃ z, n = z + 1 := ⟨n - 1, by omega⟩
        rw [if_pos e, g_X10_row_71, if_pos (nI_lt (by omega) (by omega))]
      · rw [if_neg e]
        exact h71 f (by omega) (v - s) s i (p + 1) h1 (by omega) (by omega) (by omega) (by omega) (by omega) (by omega) (by omega)
    · have hpos : s + 1 ≤ v := by
        rcases Nat.lt_or_ge v (s + 1) with q | q
        · have := rn_no (Q := fitN (a 0) r) q (by omega); omega
        · exact q
      rw [if_neg d, if_neg d, s_may (hM.at (i := 0) (by decide)) hI.1 hr (by omega) hN, Option.bind_some, if10, ifi (e_lt (a := v) (b := s + 1) (by omega) (by omega)), if_neg (show ¬ v < s + 1 by omega), z_sub hpos, m33, nI_add, if_pos (in1056 (by omega)), nI_clamp (by omega), hC (s + 1) (v - (s + 1)) (by omega) (by omega) (by omega), z_sub (show gS (fitN (a 0) r) s v ≤ i by omega)]
      have go := ih (fun g hg => h71 g (by omega)) v (s + 1) (i - gS (fitN (a 0) r) s v) p n2 (by omega) h2 hpos (by omega) h5 h6 h7 (by omega) (by omega)
      cases hq : fitN (a 0) r (s + 1) with
      | false =>
        rw [show gS (fitN (a 0) r) (s + 1) v = 0 from if_neg (by rw [hq]; simp)] at go
        rw [if_neg (by decide)]; exact go
      | true =>
        rw [show gS (fitN (a 0) r) (s + 1) v = rn (fitN (a 0) r) (s + 1) (v - (s + 1)) from if_pos ⟨hq, hpos⟩] at go
        rw [if_pos rfl]; exact go
theorem s_row71 {a : Nat → Nat} {al few most rf rows : Nat → Int32} {N r k nn : Nat} (hN : 200 ≤ N) (hI : IC a) (hM : KM a al 0) (hr : r ≤ 3) (hn : nn ≤ 30) (hk : k < 2147483648) (hC : ∀ t w, 1 ≤ t → t ≤ nn + 1 → w ≤ nn → rows (33 * w + t) = nI (rn (fitN (a 0) r) t w)) : ∀ (n f : Nat) (v s i p : Nat), 1 ≤ s → v ≤ nn → (v ≠ 0 → s ≤ nn) → i < rn (fitN (a 0) r) s v → p ≤ k → p + v ≤ 31 → v < n → 2 * v + 2 ≤ f + s → g_X10_row_71 N al (nI r) (nI k) n (nI v) (nI s) (nI i) (nI p) few most rf rows = some (rwA (fitN (a 0) r) k f v s i p, few, most, rf, rows) := by
  intro n
  induction n with
  | zero => intro f v s i p; intros; omega
  | succ n ih =>
    intro f v s i p h1 h2 h3 h4 h5 h6 h7 h8
    rw [g_X10_row_71, if_neg (fun h => absurd ((e_lt hk (by omega)).mp h) (by omega)), ifi (e_eq0 (a := v) (by omega))]
    by_cases e : v = 0
    · rw [if_pos e]
      cases f with
      | zero => rfl
      | succ f => rw [rwA, if_pos (by omega)]
    · have hsv : s ≤ v := by
        rcases Nat.lt_or_ge v s with q | q
        · have := rn_no (Q := fitN (a 0) r) q (by omega); omega
        · exact q
      rw [if_neg e, s_may (hM.at (i := 0) (by decide)) hI.1 hr (by omega) hN, Option.bind_some, if10, ifi (e_lt (a := v) (b := s) (by omega) (by omega)), if_neg (show ¬ v < s by omega), z_sub hsv, m33, nI_add, if_pos (in1056 (by omega)), nI_clamp (by omega), hC s (v - s) h1 (by omega) (by omega)]
      have go := s_row125 (few := few) (most := most) (rf := rf) (n := n) hN hI hM hr hn hk hC (by omega) f (fun g _ v s i p b1 b2 b3 b4 b5 b6 b7 b8 => ih g v s i p b1 b2 (fun _ => b3) b4 b5 b6 b7 b8) v s i p N h1 h2 hsv h4 h5 h6 (by omega) (by omega) h8
      cases hq : fitN (a 0) r s with
      | false =>
        rw [show gS (fitN (a 0) r) s v = 0 from if_neg (by rw [hq]; simp)] at go
        rw [if_neg (by decide)]; exact go
      | true =>
        rw [show gS (fitN (a 0) r) s v = rn (fitN (a 0) r) s (v - s) from if_pos ⟨hq, hsv⟩] at go
        rw [if_pos rfl]; exact go
set_option maxHeartbeats 1000000 in
theorem op_row {WI : q_WI} {N : Nat} (hN : 200 ≤ N) : Op_row N (Rel WI) := by
  intro cx cf key ms y1 y2 y3 y4 hR
  unfold g_X9_row g_X10_row
  have hrf : ∀ x : Int32, g_X9_refuse (cf 36) (-2) x = some (x, rfd (cf 36) 0) := fun x => rfl
  rw [s_isRule, s_isRuleM, Option.bind_some, Option.bind_some, if10, if10]
  by_cases hv : wi y1 0 3 = true
  · rw [if_pos hv, if_pos hv, s_isWithin, s_in, Option.bind_some, Option.bind_some, if10, if10]
    by_cases hw : wi y2 0 30 = true
    · rw [if_pos hw, if_pos hw]
      by_cases h3 : y3 < 0
      · rw [if_pos h3, if_pos h3, s_refAB, hrf]
        exact ⟨_, _, rfl, rfl, rfl, Rel_ext (Rel_rfd 0 hR) rfl rfl⟩
      · rw [if_neg h3, if_neg h3]
        by_cases h4 : 0 ≤ y4
        · rw [if_pos h4, if_pos h4]
          obtain ⟨r, -, hr, rfl⟩ := wi_nI (lo := 0) (hi := 3) (by decide) (by decide) hv
          obtain ⟨n, -, hn, rfl⟩ := wi_nI (lo := 0) (hi := 30) (by decide) (by decide) hw
          obtain ⟨i, hi, rfl⟩ := nI_of h3
          obtain ⟨k, hk, rfl⟩ := nI_of (show ¬ y4 < 0 from fun h => lt_nle h h4)
          obtain ⟨⟨a, hI, hX, hM⟩, -⟩ := id hR
          obtain ⟨i1, i2, i3, i4, i5, i6, i7, i8, i9, i10⟩ := hI
          obtain ⟨x1, ⟨x2, x3⟩, ⟨x4, x5, x6, x7⟩, x8, x9, ⟨x10, x11⟩, x12, x13⟩ := hX
          obtain ⟨j0, j1, j2, j3, j4, j5, j6⟩ := id i1
          rw [show cx 0 = nI (a 0) from x1.1.1]
          obtain ⟨fits', few', most', num', q1, q2, q3, q4⟩ := s_fill hN i1 hr (cf 38) (cf 40) (cf 39) (cf 37)
          obtain ⟨fewM, mostM, rowsM, r1, r2⟩ := s_findRows hN i1 hM hr hn (cf 78) (cf 79) (cf 77)
          have hlt := rn_lt (Q := fitN (a 0) r) (s := 1) (v := n) (by omega) hn
          have d1 := (r2 1 n (by omega) (by omega) (Nat.le_refl _)).1
          rw [q1, Option.bind_some, r1, Option.bind_some, m33, show nI (33 * n) + 1 = nI (33 * n + 1) from nI_add _ 1, if_pos (in1056 (by omega)), nI_clamp (by omega)]
          dsimp only
          rw [s_rsize hN hk q2 q3 hn hi, Option.bind_some, ifi (show nI i < rowsM (33 * n + 1) ↔ i < rn (fitN (a 0) r) 1 n from by rw [d1]; exact e_lt hi hlt)]
          by_cases c : i < rn (fitN (a 0) r) 1 n
          · rw [if_pos c, if_pos c]
            have go := s_row71 (few := fewM) (most := mostM) (rf := cf 67) hN i1 hM hr hn hk (fun t w b1 b2 b3 => (r2 t w b1 b2 b3).1) N 100 n 1 i 0 (by omega) (by omega) (by omega) c (by omega) (by omega) (by omega) (by omega)
            rw [show g_X10_row_71 N (cf 65) (nI r) (nI k) N (nI n) 1 (nI i) 0 fewM mostM (cf 67) rowsM = some (rwA (fitN (a 0) r) k 100 n 1 i 0, fewM, mostM, cf 67, rowsM) from go]
            exact ⟨_, _, rfl, rfl, rfl, Rel_ext hR rfl rfl⟩
          · rw [if_neg c, if_neg c]
            exact ⟨_, _, rfl, rfl, rfl, Rel_ext hR rfl rfl⟩
        · rw [if_neg h4, if_neg h4, s_refAB, hrf]
          exact ⟨_, _, rfl, rfl, rfl, Rel_ext (Rel_rfd 0 hR) rfl rfl⟩
    · rw [if_neg hw, if_neg hw, s_refAB, hrf]
      exact ⟨_, _, rfl, rfl, rfl, Rel_ext (Rel_rfd 0 hR) rfl rfl⟩
  · rw [if_neg hv, if_neg hv, s_refAB, hrf]
    exact ⟨_, _, rfl, rfl, rfl, Rel_ext (Rel_rfd 0 hR) rfl rfl⟩
