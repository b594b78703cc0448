/-! read: words and numbers of the text -/
def TX (n : Nat) (T : Nat → Nat) (v al : Nat → Int32) : Prop := n ≤ 200 ∧ (∀ k, k < n → v k = nI (T k) ∧ T k < 256 ∧ al (129 + k) = nI (T k)) ∧ al 3 = nI n
/-- e ends the run of ok ones that begins at p -/
def RUN (n : Nat) (T : Nat → Nat) (lo hi p e : Nat) : Prop := p ≤ e ∧ e ≤ n ∧ (∀ q, p ≤ q → q < e → lo ≤ T q ∧ T q ≤ hi) ∧ (e < n → ¬ (lo ≤ T e ∧ T e ≤ hi))
theorem RUN_ex {n : Nat} {T : Nat → Nat} {lo hi : Nat} : ∀ d p, p + d = n → ∃ e, RUN n T lo hi p e := by
  intro d
  induction d with
  | zero => intro p h; exact ⟨p, Nat.le_refl _, by omega, fun q h1 h2 => by omega, fun h => by omega⟩
  | succ d ih =>
    intro p h
    by_cases c : lo ≤ T p ∧ T p ≤ hi
    · obtain ⟨e, h1, h2, h3, h4⟩ := ih (p + 1) (by omega)
      refine ⟨e, by omega, h2, fun q q1 q2 => ?_, h4⟩
      rcases (show q = p ∨ p + 1 ≤ q by omega) with rfl | z
      · exact c
      · exact h3 q z q2
    · exact ⟨p, Nat.le_refl _, by omega, fun q h1 h2 => by omega, fun _ => c⟩
theorem RUN.next {n : Nat} {T : Nat → Nat} {lo hi p e : Nat} (h : RUN n T lo hi p e) (hp : p < e) : RUN n T lo hi (p + 1) e := ⟨hp, h.2.1, fun q h1 h2 => h.2.2.1 q (by omega) h2, h.2.2.2⟩
theorem wiN {x lo hi : Nat} (hx : x < 2147483648) (hl : lo < 2147483648) (hh : hi < 2147483648) : wi (nI x) (nI lo) (nI hi) = decide (lo ≤ x ∧ x ≤ hi) := by
  rw [wi_of hx hl hh, Bool.decide_and]
theorem s_tget {n : Nat} {T : Nat → Nat} {v al : Nat → Int32} (hT : TX n T v al) {p : Nat} (hp : p < n) : g_X7_get 200 (nI n) v (nI p) = some (nI (T p)) := by
  have := hT.1
  rw [s_get (by decide) hT.1 (by omega), if_pos hp, (hT.2.1 p hp).1]
theorem s_runEnd {n : Nat} {T : Nat → Nat} {v al : Nat → Int32} (hT : TX n T v al) {lo hi : Nat} (hl : lo < 256) (hh : hi < 256) : ∀ d p e fu, p + d = e → d < fu → RUN n T lo hi p e → g_X3_runEnd_3 200 (nI n) v (nI lo) (nI hi) fu (nI p) = some (nI e) := by
  have hn := hT.1
  intro d
  induction d with
  | zero =>
    intro p e fu e1 e2 h
    obtain ⟨fu, rfl⟩ : ∃ z, fu = z + 1 := ⟨fu - 1, by omega⟩
    have e3 : p = e := by omega
    subst e3
    have h2 := h.2.1
    rw [g_X3_runEnd_3, s_size, Option.bind_some, Option.bind_some, ifi (e_le (a := n) (b := p) (by omega) (by omega))]
    by_cases c : n ≤ p
    · rw [if_pos c, show n = p by omega]
    · have hb := (hT.2.1 p (by omega)).2.1
      have hno := h.2.2.2 (by omega)
      rw [if_neg c, s_tget hT (by omega), Option.bind_some, s_isWithin, wiN (by omega) (by omega) (by omega), decide_eq_false hno, Option.bind_some]; rfl
  | succ d ih =>
    intro p e fu e1 e2 h
    obtain ⟨fu, rfl⟩ : ∃ z, fu = z + 1 := ⟨fu - 1, by omega⟩
    have h2 := h.2.1
    have hb := (hT.2.1 p (by omega)).2.1
    have hok := h.2.2.1 p (Nat.le_refl _) (by omega)
    rw [g_X3_runEnd_3, s_size, Option.bind_some, if_neg (fun h => absurd ((e_le (by omega) (by omega)).mp h) (by omega)), s_tget hT (by omega), Option.bind_some, s_isWithin, wiN (by omega) (by omega) (by omega), decide_eq_true hok, Option.bind_some, if_pos rfl, if_neg (show ¬ (1 : Int32) = 0 by decide), z_1]
    exact ih (p + 1) e fu (by omega) (by omega) (h.next (by omega))
theorem s_isFrom {n : Nat} {T : Nat → Nat} {v al : Nat → Int32} (hT : TX n T v al) {p lo hi : Nat} (hp : p < n) (hl : lo < 256) (hh : hi < 256) : g_X3_isFrom 200 (nI p) (nI n) v (nI lo) (nI hi) = some (if decide (lo ≤ T p ∧ T p ≤ hi) then 1 else 0) := by
  have hb := (hT.2.1 p hp).2.1
  unfold g_X3_isFrom
  rw [s_tget hT hp, Option.bind_some, s_isWithin, wiN (by omega) (by omega) (by omega), Option.bind_some, if_pos (zb_if _)]
theorem s_isWord_20 {n : Nat} {T : Nat → Nat} {v al : Nat → Int32} (hT : TX n T v al) {w L q : Nat} {W : Nat → Nat} (hL : q_len.getD w 0 = L) (hL9 : L ≤ 9) (hW : ∀ i, i < L → q_ch w (nI i) = nI (W i) ∧ W i < 256) (hq : q + L ≤ n) : ∀ d i fu, i + d = L → d < fu → (∀ j, j < i → T (q + j) = W j) → ∃ b : Bool, g_X3_isWord_20 200 w (nI q) (nI n) v fu (nI i) = some (if b then 1 else 0) ∧ (b = true ↔ ∀ j, j < L → T (q + j) = W j) := by
  have hn := hT.1
  intro d
  induction d with
  | zero =>
    intro i fu e1 e2 h
    obtain ⟨fu, rfl⟩ : ∃ z, fu = z + 1 := ⟨fu - 1, by omega⟩
    have e : i = L := by omega
    rw [e] at h
    exact ⟨true, by rw [g_X3_isWord_20, hL, if_pos (nI_le (by omega) (by omega))]; rfl, ⟨fun _ => h, fun _ => rfl⟩⟩
  | succ d ih =>
    intro i fu e1 e2 h
    obtain ⟨fu, rfl⟩ : ∃ z, fu = z + 1 := ⟨fu - 1, by omega⟩
    obtain ⟨w1, w2⟩ := hW i (by omega)
    have hb := (hT.2.1 (q + i) (by omega)).2.1
    rw [g_X3_isWord_20, hL, if_neg (fun h => absurd ((e_le (by omega) (by omega)).mp h) (by omega)), nI_add, s_tget hT (by omega), Option.bind_some, if_pos (show inb (nI i) L = true by rw [inb_nI (by omega)]; simpa using (show i < L by omega)), w1, ifi (e_eq (by omega) (by omega)), z_1]
    by_cases c : T (q + i) = W i
    · rw [if_pos c]
      exact ih (i + 1) fu (by omega) (by omega) (fun j hj => by
        rcases (show j = i ∨ j < i by omega) with rfl | z
        · exact c
        · exact h j z)
    · rw [if_neg c]
      exact ⟨false, rfl, ⟨fun h => absurd h (by decide), fun h => absurd (h i (by omega)) c⟩⟩
theorem s_isWord {n N : Nat} {T : Nat → Nat} {v al : Nat → Int32} (hN : 300 ≤ N) (hT : TX n T v al) {w L q e : Nat} {W : Nat → Nat} (hL : q_len.getD w 0 = L) (hL9 : L ≤ 9) (hW : ∀ i, i < L → q_ch w (nI i) = nI (W i) ∧ W i < 256) (hq : q ≤ e) (he : e ≤ n) : ∃ b : Bool, g_X3_isWord N 200 w (nI q) (nI e) (nI n) v = some (if b then 1 else 0) ∧ (b = true ↔ e = q + L ∧ ∀ j, j < L → T (q + j) = W j) := by
  have hn := hT.1
  unfold g_X3_isWord
  rw [hL, z_sub hq, ifi (e_eq (a := L) (b := e - q) (by omega) (by omega))]
  by_cases c : L = e - q
  · rw [if_pos c]
    obtain ⟨b, b1, b2⟩ := s_isWord_20 hT (q := q) hL hL9 hW (by omega) L 0 N (by omega) (by omega) (fun j hj => absurd hj (by omega))
    exact ⟨b, b1, b2.trans ⟨fun h => ⟨by omega, h⟩, fun h => h.2⟩⟩
  · rw [if_neg c]
    exact ⟨false, rfl, ⟨fun h => absurd h (by decide), fun h => absurd h.1 (by omega)⟩⟩
/-- a number, by its first two digits -/
def vl (T : Nat → Nat) (q e : Nat) : Nat := if e = q + 1 then T q - 48 else 10 * (T q - 48) + (T (q + 1) - 48)
theorem z_dig {x c : Nat} (hc : 48 ≤ c) : 10 * nI x + nI c - 48 = nI (10 * x + (c - 48)) := by
  rw [show (10 : Int32) * nI x = nI (10 * x) from pk_mul 10 x, nI_add, show nI (10 * x + c) - 48 = nI (10 * x + c - 48) from z_sub (b := 48) (by omega)]
  congr 1
  omega
theorem s_value {n N : Nat} {T : Nat → Nat} {v al : Nat → Int32} (hN : 300 ≤ N) (hT : TX n T v al) {q e : Nat} (hq : q < e) (he : e ≤ n) (hd : ∀ p, q ≤ p → p < e → 48 ≤ T p ∧ T p ≤ 57) : g_X3_value N 200 (nI q) (nI e) (nI n) v = some (nI (vl T q e)) := by
  have hn := hT.1
  obtain ⟨M, hM⟩ : ∃ M, N = M + 3 := ⟨N - 3, by omega⟩
  have h0 := hd q (Nat.le_refl _) hq
  unfold g_X3_value
  have e2 : nI q + 2 = nI (q + 2) := nI_add q 2
  have s1 : ∀ (f : Nat) (x y : Int32), g_X3_value_7 200 (nI q) (nI e) (nI n) v (f + 1) x y = if nI e ≤ y then some x else if nI (q + 2) ≤ y then some x else (g_X7_get 200 (nI n) v y).bind fun u34 => g_X3_value_7 200 (nI q) (nI e) (nI n) v f (((10 * x) + u34) - 48) (y + 1) := by
    intro f x y
    rw [g_X3_value_7, e2]
  have a1 : g_X3_value_7 200 (nI q) (nI e) (nI n) v (M + 3) 0 (nI q) = g_X3_value_7 200 (nI q) (nI e) (nI n) v (M + 2) (nI (T q - 48)) (nI (q + 1)) := by
    rw [s1 (M + 2), if_neg (fun h => absurd ((e_le (by omega) (by omega)).mp h) (by omega)), if_neg (fun h => absurd ((e_le (by omega) (by omega)).mp h) (by omega)), s_tget hT (by omega), Option.bind_some, z_1, show (0 : Int32) = nI 0 from rfl, z_dig h0.1]
    congr 2
    omega
  rw [hM, a1]
  unfold vl
  by_cases c : e = q + 1
  · rw [if_pos c, s1 (M + 1), if_pos (nI_le (by omega) (by omega))]
  · have h1 := hd (q + 1) (by omega) (by omega)
    rw [if_neg c, s1 (M + 1), if_neg (fun h => absurd ((e_le (by omega) (by omega)).mp h) (by omega)), if_neg (fun h => absurd ((e_le (by omega) (by omega)).mp h) (by omega)), s_tget hT (by omega), Option.bind_some, z_1, z_dig h1.1, s1 M]
    by_cases c2 : e ≤ q + 2
    · rw [if_pos (nI_le (by omega) (by omega))]
    · rw [if_neg (fun h => absurd ((e_le (by omega) (by omega)).mp h) (by omega)), if_pos (nI_le (by omega) (by omega))]
/-! the reference -/
theorem s_here {n : Nat} {T : Nat → Nat} {v al : Nat → Int32} (hT : TX n T v al) {p : Nat} (hp : p ≤ n) : g_X10_here (nI p) al = some (if p < n then nI (T p) else -1) := by
  have hn := hT.1
  unfold g_X10_here
  rw [if_pos in3, show (3 : Int32).toNatClampNeg = 3 from rfl, hT.2.2, ifi (e_le (a := n) (b := p) (by omega) (by omega))]
  by_cases c : p < n
  · rw [if_pos c, if_neg (by omega), show (129 : Int32) + nI p = nI (129 + p) from nI_add 129 p, if_pos (in_n (by omega)), nI_clamp (by omega), (hT.2.1 p c).2.2]
  · rw [if_neg c, if_pos (by omega)]
theorem wi_m1 {lo hi : Nat} (hl : lo < 2147483648) : wi (-1) (nI lo) (nI hi) = false := by
  unfold wi
  rw [decide_eq_false (show ¬ nI lo ≤ -1 from fun h => by
    rw [Int32.le_iff_toInt_le, nI_toInt hl, show (-1 : Int32).toInt = -1 from rfl] at h
    omega)]
  rfl
theorem s_in' {n : Nat} {T : Nat → Nat} {v al : Nat → Int32} (hT : TX n T v al) {p lo hi : Nat} (hp : p ≤ n) (hl : lo < 256) (hh : hi < 256) : g_X10_in (if p < n then nI (T p) else -1) (nI lo) (nI hi) = some (if decide (p < n ∧ lo ≤ T p ∧ T p ≤ hi) then 1 else 0) := by
  rw [s_in]
  by_cases c : p < n
  · have hb := (hT.2.1 p c).2.1
    rw [if_pos c, wiN (by omega) (by omega) (by omega)]
    congr 2
    simp [c]
  · rw [if_neg c, wi_m1 (by omega)]
    congr 2
    simp [c]
theorem s_inD {n : Nat} {T : Nat → Nat} {v al : Nat → Int32} (hT : TX n T v al) {p : Nat} (hp : p ≤ n) : g_X10_in (if p < n then nI (T p) else -1) 48 57 = some (if decide (p < n ∧ 48 ≤ T p ∧ T p ≤ 57) then 1 else 0) := s_in' hT (lo := 48) (hi := 57) hp (by omega) (by omega)
theorem s_inL {n : Nat} {T : Nat → Nat} {v al : Nat → Int32} (hT : TX n T v al) {p : Nat} (hp : p ≤ n) : g_X10_in (if p < n then nI (T p) else -1) 97 122 = some (if decide (p < n ∧ 97 ≤ T p ∧ T p ≤ 122) then 1 else 0) := s_in' hT (lo := 97) (hi := 122) hp (by omega) (by omega)
theorem s_next_175 {n : Nat} {T : Nat → Nat} {v al : Nat → Int32} (hT : TX n T v al) {q e : Nat} (hq : q < e) (hR : RUN n T 48 57 q e) (so : Int32) : ∀ d p fu, p + d = e → d < fu → q ≤ p → ∀ x : Int32, x = nI (if p = q then 0 else vl T q p) → g_X10_next_175 al fu (nI p) so (nI q) x = some (nI e, if e ≤ q + 2 then 4 else 6, nI q, nI (vl T q e)) := by
  have hn := hT.1
  obtain ⟨r1, r2, r3, r4⟩ := hR
  intro d
  induction d with
  | zero =>
    intro p fu e1 e2 e3 x hx
    obtain ⟨fu, rfl⟩ : ∃ z, fu = z + 1 := ⟨fu - 1, by omega⟩
    have e : p = e := by omega
    subst e
    rw [if_neg (by omega)] at hx
    rw [g_X10_next_175, s_here hT r2, Option.bind_some, s_inD hT r2, Option.bind_some, if10, decide_eq_false (fun h => r4 h.1 h.2), if_neg (by decide), z_sub (by omega), ifi (show nI (p - q) ≤ 2 ↔ p ≤ q + 2 from (e_le (b := 2) (by omega) (by decide)).trans (by omega)), hx]
    split <;> rfl
  | succ d ih =>
    intro p fu e1 e2 e3 x hx
    obtain ⟨fu, rfl⟩ : ∃ z, fu = z + 1 := ⟨fu - 1, by omega⟩
    have hok := r3 p e3 (by omega)
    rw [g_X10_next_175, s_here hT (by omega), Option.bind_some, s_inD hT (show p ≤ n by omega), Option.bind_some, if10, decide_eq_true (show p < n ∧ 48 ≤ T p ∧ T p ≤ 57 from ⟨by omega, hok⟩), if_pos rfl, z_sub e3, ifi (show 2 ≤ nI (p - q) ↔ q + 2 ≤ p from (e_le (a := 2) (by decide) (by omega)).trans (by omega)), Option.bind_some, if_pos (show p < n by omega), z_1]
    by_cases c : q + 2 ≤ p
    · rw [if_pos c]
      refine ih (p + 1) fu (by omega) (by omega) (by omega) _ ?_
      rw [hx, if_neg (by omega), if_neg (by omega)]
      unfold vl
      rw [if_neg (by omega), if_neg (by omega)]
    · rw [if_neg c, hx, z_dig hok.1]
      refine ih (p + 1) fu (by omega) (by omega) (by omega) _ ?_
      rw [if_neg (show ¬ p + 1 = q by omega)]
      congr 1
      unfold vl
      rcases (show p = q ∨ p = q + 1 by omega) with rfl | rfl
      · rw [if_pos rfl, if_pos rfl]; omega
      · rw [if_neg (by omega), if_pos rfl, if_neg (by omega)]
/-- the sum of a word's letters -/
def hs (T : Nat → Nat) (q p : Nat) : Int32 := if p = q then 0 else if p = q + 1 then nI (T q - 96) else if p = q + 2 then nI (27 * (T q - 96) + (T (q + 1) - 96)) else if p = q + 3 then nI (27 * (27 * (T q - 96) + (T (q + 1) - 96)) + (T (q + 2) - 96)) else -1
theorem z_let {x c : Nat} (hc : 96 ≤ c) : 27 * nI x + nI c - 96 = nI (27 * x + (c - 96)) := by
  rw [show (27 : Int32) * nI x = nI (27 * x) from pk_mul 27 x, nI_add, show nI (27 * x + c) - 96 = nI (27 * x + c - 96) from z_sub (b := 96) (by omega)]
  congr 1
  omega
theorem hs_step {T : Nat → Nat} {q p : Nat} (h : q ≤ p) (hl : ∀ i, q ≤ i → i ≤ p → 97 ≤ T i ∧ T i ≤ 122) : hs T q (p + 1) = if q + 3 ≤ p then -1 else 27 * hs T q p + nI (T p) - 96 := by
  by_cases c : q + 3 ≤ p
  · rw [if_pos c]
    unfold hs
    rw [if_neg (by omega), if_neg (by omega), if_neg (by omega), if_neg (by omega)]
  · rw [if_neg c]
    unfold hs
    rcases (show p = q ∨ p = q + 1 ∨ p = q + 2 by omega) with rfl | rfl | rfl
    · have := hl p (by omega) (by omega)
      rw [if_neg (by omega), if_pos rfl, if_pos rfl, show (0 : Int32) = nI 0 from rfl, z_let (by omega)]
      congr 1
      omega
    · have := hl (q + 1) (by omega) (by omega)
      rw [if_neg (by omega), if_neg (by omega), if_pos (by omega), if_neg (by omega), if_pos rfl, z_let (by omega)]
    · have := hl (q + 2) (by omega) (by omega)
      rw [if_neg (by omega), if_neg (by omega), if_neg (by omega), if_pos (by omega), if_neg (by omega), if_neg (by omega), if_pos rfl, z_let (by omega)]
/-- the sort of a word: the reference's numbers -/
def ws (x : Int32) : Int32 := if x = 16819 then 0 else if x = 11318 then 1 else if x = 204 then 2 else 6
theorem s_next_65 {n : Nat} {T : Nat → Nat} {v al : Nat → Int32} (hT : TX n T v al) {q e : Nat} (hR : RUN n T 97 122 q e) (so va : Int32) : ∀ d p fu, p + d = e → d < fu → q ≤ p → g_X10_next_65 al fu (hs T q p) (nI p) so (nI q) va = some (nI e, ws (hs T q e), nI q, va) := by
  have hn := hT.1
  obtain ⟨r1, r2, r3, r4⟩ := hR
  intro d
  induction d with
  | zero =>
    intro p fu e1 e2 e3
    obtain ⟨fu, rfl⟩ : ∃ z, fu = z + 1 := ⟨fu - 1, by omega⟩
    have e : p = e := by omega
    subst e
    rw [g_X10_next_65, s_here hT r2, Option.bind_some, s_inL hT r2, Option.bind_some, if10, decide_eq_false (fun h => r4 h.1 h.2), if_neg (by decide)]
    unfold ws
    split
    · rfl
    · split
      · rfl
      · split <;> rfl
  | succ d ih =>
    intro p fu e1 e2 e3
    obtain ⟨fu, rfl⟩ : ∃ z, fu = z + 1 := ⟨fu - 1, by omega⟩
    have hok := r3 p e3 (by omega)
    have hst := hs_step (T := T) e3 (fun i h1 h2 => r3 i h1 (by omega))
    have ih' := ih (p + 1) fu (by omega) (by omega) (by omega)
    rw [hst] at ih'
    rw [g_X10_next_65, s_here hT (by omega), Option.bind_some, s_inL hT (show p ≤ n by omega), Option.bind_some, if10, decide_eq_true (show p < n ∧ 97 ≤ T p ∧ T p ≤ 122 from ⟨by omega, hok⟩), if_pos rfl, z_sub e3, ifi (show 3 ≤ nI (p - q) ↔ q + 3 ≤ p from (e_le (a := 3) (by decide) (by omega)).trans (by omega)), Option.bind_some, if_pos (show p < n by omega), z_1]
    by_cases c : q + 3 ≤ p
    · rw [if_pos c] at ih' ⊢; exact ih'
    · rw [if_neg c] at ih' ⊢; exact ih'
/-- the class's sorts, and the reference's -/
def ms (k : Nat) : Int32 := [3, 4, 5, 0, 1, 2, 6].getD k 0
def isw (T : Nat → Nat) (q e L : Nat) (W : Nat → Nat) : Prop := e = q + L ∧ ∀ j, j < L → T (q + j) = W j
def W0 : Nat → Nat := fun i => [119, 97, 121].getD i 0
def W1 : Nat → Nat := fun i => [111, 110, 101].getD i 0
def W2 : Nat → Nat := fun i => [103, 111].getD i 0
theorem ws_iff {T : Nat → Nat} {q e : Nat} (hq : q < e) (hl : ∀ i, q ≤ i → i < e → 97 ≤ T i ∧ T i ≤ 122) : (hs T q e = 16819 ↔ isw T q e 3 W0) ∧ (hs T q e = 11318 ↔ isw T q e 3 W1) ∧ (hs T q e = 204 ↔ isw T q e 2 W2) := by
  have w0 : ∀ e, isw T q e 3 W0 ↔ e = q + 3 ∧ T q = 119 ∧ T (q + 1) = 97 ∧ T (q + 2) = 121 := fun e => ⟨fun h => ⟨h.1, h.2 0 (by decide), h.2 1 (by decide), h.2 2 (by decide)⟩, fun h => ⟨h.1, fun j hj => by
    rcases (show j = 0 ∨ j = 1 ∨ j = 2 by omega) with rfl | rfl | rfl
    · exact h.2.1
    · exact h.2.2.1
    · exact h.2.2.2⟩⟩
  have w1 : ∀ e, isw T q e 3 W1 ↔ e = q + 3 ∧ T q = 111 ∧ T (q + 1) = 110 ∧ T (q + 2) = 101 := fun e => ⟨fun h => ⟨h.1, h.2 0 (by decide), h.2 1 (by decide), h.2 2 (by decide)⟩, fun h => ⟨h.1, fun j hj => by
    rcases (show j = 0 ∨ j = 1 ∨ j = 2 by omega) with rfl | rfl | rfl
    · exact h.2.1
    · exact h.2.2.1
    · exact h.2.2.2⟩⟩
  have w2 : ∀ e, isw T q e 2 W2 ↔ e = q + 2 ∧ T q = 103 ∧ T (q + 1) = 111 := fun e => ⟨fun h => ⟨h.1, h.2 0 (by decide), h.2 1 (by decide)⟩, fun h => ⟨h.1, fun j hj => by
    rcases (show j = 0 ∨ j = 1 by omega) with rfl | rfl
    · exact h.2.1
    · exact h.2.2⟩⟩
  rw [w0, w1, w2]
  have h0 := hl q (Nat.le_refl _) hq
  have no : ∀ x : Nat, x < 100000 → ¬ (-1 : Int32) = nI x := fun x hx h => nI_nm1 (by omega) h.symm
  unfold hs
  rw [if_neg (by omega)]
  by_cases c1 : e = q + 1
  · rw [if_pos c1, show (16819 : Int32) = nI 16819 from rfl, show (11318 : Int32) = nI 11318 from rfl, show (204 : Int32) = nI 204 from rfl, e_eq (by omega) (by omega), e_eq (by omega) (by omega), e_eq (by omega) (by omega)]
    omega
  · rw [if_neg c1]
    have h1 := hl (q + 1) (by omega) (by omega)
    by_cases c2 : e = q + 2
    · rw [if_pos c2, show (16819 : Int32) = nI 16819 from rfl, show (11318 : Int32) = nI 11318 from rfl, show (204 : Int32) = nI 204 from rfl, e_eq (by omega) (by omega), e_eq (by omega) (by omega), e_eq (by omega) (by omega)]
      omega
    · rw [if_neg c2]
      have h2 := hl (q + 2) (by omega) (by omega)
      by_cases c3 : e = q + 3
      · rw [if_pos c3, show (16819 : Int32) = nI 16819 from rfl, show (11318 : Int32) = nI 11318 from rfl, show (204 : Int32) = nI 204 from rfl, e_eq (by omega) (by omega), e_eq (by omega) (by omega), e_eq (by omega) (by omega)]
        omega
      · rw [if_neg c3]
        exact ⟨⟨fun h => absurd h (no 16819 (by omega)), fun h => by omega⟩, ⟨fun h => absurd h (no 11318 (by omega)), fun h => by omega⟩, ⟨fun h => absurd h (no 204 (by omega)), fun h => by omega⟩⟩
