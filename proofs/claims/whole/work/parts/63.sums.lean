/-! sums, leasts and greatest over sets; masks -/
def sm (g : Nat → Nat) : Nat → Nat
  | 0 => 0
  | k + 1 => sm g k + g k
def mn (g : Nat → Nat) : Nat → Nat
  | 0 => 9999
  | k + 1 => min (mn g k) (g k)
def mxi (g : Nat → Int) : Nat → Int
  | 0 => -9999
  | k + 1 => max (mxi g k) (g k)
theorem sm_cg {g h : Nat → Nat} : ∀ k, (∀ j, j < k → g j = h j) → sm g k = sm h k := by
  intro k
  induction k with
  | zero => intro _; rfl
  | succ k ih => intro H; rw [sm, sm, ih (fun j hj => H j (by omega)), H k (by omega)]
theorem mn_cg {g h : Nat → Nat} : ∀ k, (∀ j, j < k → g j = h j) → mn g k = mn h k := by
  intro k
  induction k with
  | zero => intro _; rfl
  | succ k ih => intro H; rw [mn, mn, ih (fun j hj => H j (by omega)), H k (by omega)]
theorem mxi_cg {g h : Nat → Int} : ∀ k, (∀ j, j < k → g j = h j) → mxi g k = mxi h k := by
  intro k
  induction k with
  | zero => intro _; rfl
  | succ k ih => intro H; rw [mxi, mxi, ih (fun j hj => H j (by omega)), H k (by omega)]
theorem sm_le {g h : Nat → Nat} : ∀ k, (∀ j, j < k → g j ≤ h j) → sm g k ≤ sm h k := by
  intro k
  induction k with
  | zero => intro _; exact Nat.le_refl _
  | succ k ih => intro H; have := ih (fun j hj => H j (by omega)); have := H k (by omega); rw [sm, sm]; omega
theorem sm_0 {g : Nat → Nat} : ∀ k, (∀ j, j < k → g j = 0) → sm g k = 0 := by
  intro k
  induction k with
  | zero => intro _; rfl
  | succ k ih => intro H; rw [sm, ih (fun j hj => H j (by omega)), H k (by omega)]
theorem sm_gap {g : Nat → Nat} (k : Nat) : ∀ d, (∀ j, k ≤ j → j < k + d → g j = 0) → sm g (k + d) = sm g k := by
  intro d
  induction d with
  | zero => intro _; rfl
  | succ d ih => intro H; rw [← Nat.add_assoc, sm, ih (fun j h1 h2 => H j h1 (by omega)), H (k + d) (by omega) (by omega)]; rfl
theorem mn_gap {g : Nat → Nat} (k : Nat) : ∀ d, (∀ j, k ≤ j → j < k + d → 9999 ≤ g j) → mn g (k + d) = mn g k := by
  have h9 : ∀ i, mn g i ≤ 9999 := by
    intro i
    induction i with
    | zero => exact Nat.le_refl _
    | succ i ih => rw [mn]; omega
  intro d
  induction d with
  | zero => intro _; rfl
  | succ d ih =>
    intro H
    have h1 := H (k + d) (by omega) (by omega)
    have h2 := h9 k
    rw [← Nat.add_assoc, mn, ih (fun j h1 h2 => H j h1 (by omega))]; omega
theorem mn_le9 (g : Nat → Nat) : ∀ i, mn g i ≤ 9999 := by
  intro i
  induction i with
  | zero => exact Nat.le_refl _
  | succ i ih => rw [mn]; omega
theorem mxi_ge9 (g : Nat → Int) : ∀ i, -9999 ≤ mxi g i := by
  intro i
  induction i with
  | zero => exact Int.le_refl _
  | succ i ih => rw [mxi]; omega
theorem mxi_gap {g : Nat → Int} (k : Nat) : ∀ d, (∀ j, k ≤ j → j < k + d → g j ≤ -9999) → mxi g (k + d) = mxi g k := by
  intro d
  induction d with
  | zero => intro _; rfl
  | succ d ih =>
    intro H
    have h1 := H (k + d) (by omega) (by omega)
    have h2 := mxi_ge9 g k
    rw [← Nat.add_assoc, mxi, ih (fun j h1 h2 => H j h1 (by omega))]; omega
theorem sm_add (g h : Nat → Nat) : ∀ k, sm (fun j => g j + h j) k = sm g k + sm h k := by
  intro k
  induction k with
  | zero => rfl
  | succ k ih => rw [sm, ih, sm, sm]; omega
theorem sm_swap (g : Nat → Nat → Nat) (n : Nat) : ∀ m, sm (fun i => sm (g i) n) m = sm (fun j => sm (fun i => g i j) m) n := by
  intro m
  induction m with
  | zero => exact (sm_0 n (fun j _ => rfl)).symm
  | succ m ih =>
    rw [sm, ih]
    have : (fun j => sm (fun i => g i j) (m + 1)) = fun j => sm (fun i => g i j) m + g m j := rfl
    rw [this, sm_add]
theorem sm_if (c : Prop) [Decidable c] (g : Nat → Nat) (k : Nat) : (if c then sm g k else 0) = sm (fun j => if c then g j else 0) k := by
  by_cases h : c
  · rw [if_pos h]; exact sm_cg k (fun j _ => (if_pos h).symm)
  · rw [if_neg h]; exact (sm_0 k (fun j _ => if_neg h)).symm
theorem mn_at {g : Nat → Nat} : ∀ k j, j < k → mn g k ≤ g j := by
  intro k
  induction k with
  | zero => intro j h; omega
  | succ k ih =>
    intro j h
    rw [mn]
    rcases (show j = k ∨ j < k by omega) with rfl | h'
    · omega
    · have := ih j h'; omega
theorem mn_ex {g : Nat → Nat} : ∀ k, mn g k < 9999 → ∃ j, j < k ∧ g j = mn g k := by
  intro k
  induction k with
  | zero => intro h; exact absurd h (Nat.lt_irrefl 9999)
  | succ k ih =>
    intro h
    rw [mn] at h ⊢
    by_cases q : mn g k ≤ g k
    · obtain ⟨j, h1, h2⟩ := ih (by omega)
      exact ⟨j, by omega, by omega⟩
    · exact ⟨k, by omega, by omega⟩
/-- y lies in x -/
abbrev sb (x y : Nat) : Prop := y &&& x = y
theorem sb_iff {x y : Nat} : sb x y ↔ ∀ i, y.testBit i = true → x.testBit i = true := by
  unfold sb
  constructor
  · intro h i hi
    rw [← h, Nat.testBit_and, Bool.and_eq_true] at hi
    exact hi.2
  · intro h
    apply Nat.eq_of_testBit_eq
    intro i
    rw [Nat.testBit_and]
    cases hy : y.testBit i with
    | false => rfl
    | true => rw [h i hy]; rfl
theorem sb_half {x y : Nat} (h : sb x y) : sb (x / 2) (y / 2) := by
  rw [sb_iff] at h ⊢
  intro i hi
  rw [← Nat.testBit_succ] at hi ⊢
  exact h _ hi
theorem sb_mod {x y : Nat} (h : sb x y) : y % 2 ≤ x % 2 := by
  have h0 := sb_iff.mp h 0
  rw [Nat.testBit_zero, Nat.testBit_zero, decide_eq_true_eq, decide_eq_true_eq] at h0
  omega
theorem sb_le {x y : Nat} (h : sb x y) : y ≤ x := by
  unfold sb at h
  have : y &&& x ≤ x := Nat.and_le_right
  omega
theorem and2 (x y : Nat) : (x &&& y) / 2 = x / 2 &&& y / 2 := by
  apply Nat.eq_of_testBit_eq
  intro i
  rw [← Nat.testBit_succ, Nat.testBit_and, Nat.testBit_and, ← Nat.testBit_succ, ← Nat.testBit_succ]
theorem xor2 (x y : Nat) : (x ^^^ y) / 2 = x / 2 ^^^ y / 2 := by
  apply Nat.eq_of_testBit_eq
  intro i
  rw [← Nat.testBit_succ, Nat.testBit_xor, Nat.testBit_xor, ← Nat.testBit_succ, ← Nat.testBit_succ]
theorem andm (x y : Nat) : (x &&& y) % 2 = x % 2 * (y % 2) := by
  have h := Nat.testBit_and x y 0
  rw [Nat.testBit_zero, Nat.testBit_zero, Nat.testBit_zero] at h
  have hb : (x &&& y) % 2 < 2 := Nat.mod_lt _ (by decide)
  generalize (x &&& y) % 2 = m at h hb ⊢
  rcases Nat.mod_two_eq_zero_or_one x with a | a <;> rcases Nat.mod_two_eq_zero_or_one y with b | b <;> rw [a, b] at h ⊢ <;> simp at h <;> omega
theorem xorm (x y : Nat) : (x ^^^ y) % 2 = (x % 2 + y % 2) % 2 := by
  have h := Nat.testBit_xor x y 0
  rw [Nat.testBit_zero, Nat.testBit_zero, Nat.testBit_zero] at h
  have hb : (x ^^^ y) % 2 < 2 := Nat.mod_lt _ (by decide)
  generalize (x ^^^ y) % 2 = m at h hb ⊢
  rcases Nat.mod_two_eq_zero_or_one x with a | a <;> rcases Nat.mod_two_eq_zero_or_one y with b | b <;> rw [a, b] at h ⊢ <;> simp at h <;> omega
theorem xor_sub : ∀ n x y : Nat, x < 2 ^ n → sb x y → (x ^^^ y) + y = x := by
  intro n
  induction n with
  | zero =>
    intro x y h1 h2
    have := sb_le h2
    have e1 : x = 0 := by omega
    have e2 : y = 0 := by omega
    subst e1; subst e2; rfl
  | succ n ih =>
    intro x y h1 h2
    have h := ih (x / 2) (y / 2) (by rw [Nat.pow_succ] at h1; omega) (sb_half h2)
    have hm := sb_mod h2
    have e1 := xor2 x y
    have e2 := xorm x y
    omega
theorem xor_lt {n x y : Nat} (h : x < 2 ^ n) (h1 : sb x y) (h2 : 0 < y) : x ^^^ y < x := by
  have := xor_sub n x y h h1
  omega
theorem sb_xor {x y : Nat} (h : sb x y) : sb x (x ^^^ y) := by
  rw [sb_iff] at h ⊢
  intro i hi
  rw [Nat.testBit_xor] at hi
  cases hx : x.testBit i with
  | true => rfl
  | false =>
    cases hy : y.testBit i with
    | true => rw [h i hy] at hx; exact hx.symm
    | false => rw [hx, hy] at hi; exact hi
/-- the next lower part of x below y -/
theorem sub_dn : ∀ n x y : Nat, y < 2 ^ n → 0 < y → sb x y → ∀ z, sb x z → z < y → z ≤ (y - 1) &&& x := by
  intro n
  induction n with
  | zero => intro x y h1 h2; omega
  | succ n ih =>
    intro x y h1 h2 h3 z h4 h5
    have e1 := and2 (y - 1) x
    have e2 := andm (y - 1) x
    have hm := sb_mod h3
    have hz := sb_mod h4
    rcases Nat.mod_two_eq_zero_or_one y with q | q
    · have e3 : (y - 1) / 2 = y / 2 - 1 := by omega
      have e4 : (y - 1) % 2 = 1 := by omega
      rw [e3] at e1
      rw [e4, Nat.one_mul] at e2
      have h := ih (x / 2) (y / 2) (by rw [Nat.pow_succ] at h1; omega) (by omega) (sb_half h3) (z / 2) (sb_half h4) (by omega)
      omega
    · have e3 : (y - 1) / 2 = y / 2 := by omega
      rw [e3, sb_half h3] at e1
      omega
theorem dn_sb (x y : Nat) : sb x ((y - 1) &&& x) := by
  unfold sb
  apply Nat.eq_of_testBit_eq
  intro i
  rw [Nat.testBit_and, Nat.testBit_and, Bool.and_assoc, Bool.and_self]
theorem dn_lt {x y : Nat} (h : 0 < y) : (y - 1) &&& x < y := by
  have : (y - 1) &&& x ≤ y - 1 := Nat.and_le_left
  omega
/-- the lowest of x -/
def lw (x : Nat) : Nat := x &&& (256 - x)
theorem z_low : ∀ x, x < 256 → nI x &&& -nI x = nI (lw x) := by decide +kernel
theorem lw_ex : ∀ x, x < 256 → 0 < x → ∃ t, t < 8 ∧ lw x = 2 ^ t ∧ x.testBit t = true ∧ ∀ i, i < t → x.testBit i = false := by decide +kernel
/-- y holds the lowest of x -/
abbrev lo (x y : Nat) : Prop := y &&& lw x ≠ 0
theorem lo_iff {x t : Nat} (h : lw x = 2 ^ t) (y : Nat) : lo x y ↔ y.testBit t = true := by
  unfold lo
  rw [h, and_pow]
  have := Nat.two_pow_pos t
  cases y.testBit t with
  | true => rw [if_pos rfl]; exact ⟨fun _ => rfl, fun _ => by omega⟩
  | false => rw [if_neg (by decide)]; exact ⟨fun h => absurd rfl h, fun h => absurd h (by decide)⟩
theorem lw_no {x y : Nat} (h1 : x < 256) (h2 : sb x y) (h3 : ¬ lo x y) (h0 : 0 < x) : lw (x ^^^ y) = lw x ∧ 0 < x ^^^ y := by
  obtain ⟨t, ht, e1, e2, e3⟩ := lw_ex x h1 h0
  rw [lo_iff e1] at h3
  have hb : (x ^^^ y).testBit t = true := by
    rw [Nat.testBit_xor, e2]
    cases hy : y.testBit t with
    | true => exact absurd hy h3
    | false => rfl
  have hp : 0 < x ^^^ y := by
    rcases Nat.eq_zero_or_pos (x ^^^ y) with h | h
    · rw [h, Nat.zero_testBit] at hb; exact absurd hb (by decide)
    · exact h
  have hlt : x ^^^ y < 256 := by have := sb_le (sb_xor h2); omega
  obtain ⟨s, hs, f1, f2, f3⟩ := lw_ex (x ^^^ y) hlt hp
  have hst : s = t := by
    rcases Nat.lt_trichotomy s t with q | q | q
    · have hx := e3 s q
      rw [Nat.testBit_xor, hx] at f2
      cases hy : y.testBit s with
      | true => rw [sb_iff.mp h2 s hy] at hx; exact absurd hx (by decide)
      | false => rw [hy] at f2; exact absurd f2 (by decide)
    · exact q
    · rw [f3 t q] at hb; exact absurd hb (by decide)
  exact ⟨by rw [f1, e1, hst], hp⟩
/-- ways to part x into allowed ones; the fewest, the most -/
def NF (Q : Nat → Nat → Bool) : Nat → Nat → Nat
  | 0, x => if x = 0 then 1 else 0
  | f + 1, x => if x = 0 then 1 else sm (fun y => if Q x y then NF Q f (x ^^^ y) else 0) (x + 1)
def FF (Q : Nat → Nat → Bool) : Nat → Nat → Nat
  | 0, x => if x = 0 then 0 else 9999
  | f + 1, x => if x = 0 then 0 else mn (fun y => if Q x y then FF Q f (x ^^^ y) + 1 else 9999) (x + 1)
def MF (Q : Nat → Nat → Bool) : Nat → Nat → Int
  | 0, x => if x = 0 then 0 else -9999
  | f + 1, x => if x = 0 then 0 else mxi (fun y => if Q x y then MF Q f (x ^^^ y) + 1 else -9999) (x + 1)
/-- what is taken away is a part that holds the lowest -/
def QO (Q : Nat → Nat → Bool) : Prop := ∀ x y, x < 256 → 0 < x → Q x y = true → sb x y ∧ lo x y
theorem lo_pos {x y : Nat} (h : lo x y) : 0 < y := by
  rcases Nat.eq_zero_or_pos y with e | e
  · subst e; exact absurd (Nat.zero_and _) h
  · exact e
theorem QO.lt {Q : Nat → Nat → Bool} (h : QO Q) {x y : Nat} (h1 : x < 256) (h2 : 0 < x) (h3 : Q x y = true) : x ^^^ y < x := xor_lt (n := 8) h1 (h x y h1 h2 h3).1 (lo_pos (h x y h1 h2 h3).2)
def nP (Q : Nat → Nat → Bool) (x : Nat) : Nat := NF Q 256 x
def fP' (Q : Nat → Nat → Bool) (x : Nat) : Nat := FF Q 256 x
def mP (Q : Nat → Nat → Bool) (x : Nat) : Int := MF Q 256 x
theorem NF_eq {Q : Nat → Nat → Bool} (h : QO Q) : ∀ x, x < 256 → ∀ f g, x ≤ f → x ≤ g → NF Q f x = NF Q g x ∧ FF Q f x = FF Q g x ∧ MF Q f x = MF Q g x := by
  intro x
  induction x using Nat.strongRecOn with
  | ind x ih =>
    intro h1 f g h2 h3
    rcases Nat.eq_zero_or_pos x with e | e
    · subst e
      cases f <;> cases g <;> exact ⟨rfl, rfl, rfl⟩
    · obtain ⟨f, rfl⟩ : ∃ z, f = z + 1 := ⟨f - 1, by omega⟩
      obtain ⟨g, rfl⟩ : ∃ z, g = z + 1 := ⟨g - 1, by omega⟩
      rw [NF, NF, FF, FF, MF, MF, if_neg (by omega), if_neg (by omega), if_neg (by omega), if_neg (by omega), if_neg (by omega), if_neg (by omega)]
      have hh : ∀ y, Q x y = true → NF Q f (x ^^^ y) = NF Q g (x ^^^ y) ∧ FF Q f (x ^^^ y) = FF Q g (x ^^^ y) ∧ MF Q f (x ^^^ y) = MF Q g (x ^^^ y) := fun y hq => by
        have := h.lt h1 e hq
        exact ih (x ^^^ y) this (by omega) f g (by omega) (by omega)
      refine ⟨sm_cg _ (fun y _ => ?_), mn_cg _ (fun y _ => ?_), mxi_cg _ (fun y _ => ?_)⟩
      · cases hq : Q x y with
        | false => rfl
        | true => rw [if_pos rfl, if_pos rfl, (hh y hq).1]
      · cases hq : Q x y with
        | false => rfl
        | true => rw [if_pos rfl, if_pos rfl, (hh y hq).2.1]
      · cases hq : Q x y with
        | false => rfl
        | true => rw [if_pos rfl, if_pos rfl, (hh y hq).2.2]
def nG (Q : Nat → Nat → Bool) (x y : Nat) : Nat := if Q x y then nP Q (x ^^^ y) else 0
def fG (Q : Nat → Nat → Bool) (x y : Nat) : Nat := if Q x y then fP' Q (x ^^^ y) + 1 else 9999
def mG (Q : Nat → Nat → Bool) (x y : Nat) : Int := if Q x y then mP Q (x ^^^ y) + 1 else -9999
theorem P_eq {Q : Nat → Nat → Bool} (h : QO Q) {x : Nat} (h1 : x < 256) (h2 : 0 < x) : nP Q x = sm (nG Q x) (x + 1) ∧ fP' Q x = mn (fG Q x) (x + 1) ∧ mP Q x = mxi (mG Q x) (x + 1) := by
  unfold nP fP' mP
  rw [show (256 : Nat) = 255 + 1 from rfl, NF, FF, MF, if_neg (by omega), if_neg (by omega), if_neg (by omega)]
  have hh : ∀ y, Q x y = true → NF Q 255 (x ^^^ y) = NF Q 256 (x ^^^ y) ∧ FF Q 255 (x ^^^ y) = FF Q 256 (x ^^^ y) ∧ MF Q 255 (x ^^^ y) = MF Q 256 (x ^^^ y) := fun y hq => by
    have := h.lt h1 h2 hq
    exact NF_eq h (x ^^^ y) (by omega) 255 256 (by omega) (by omega)
  refine ⟨sm_cg _ (fun y _ => ?_), mn_cg _ (fun y _ => ?_), mxi_cg _ (fun y _ => ?_)⟩
  · unfold nG nP
    cases hq : Q x y with
    | false => rw [if_neg (by decide), if_neg (by decide)]
    | true => rw [if_pos rfl, if_pos rfl, (hh y hq).1]
  · unfold fG fP'
    cases hq : Q x y with
    | false => rw [if_neg (by decide), if_neg (by decide)]
    | true => rw [if_pos rfl, if_pos rfl, (hh y hq).2.1]
  · unfold mG mP
    cases hq : Q x y with
    | false => rw [if_neg (by decide), if_neg (by decide)]
    | true => rw [if_pos rfl, if_pos rfl, (hh y hq).2.2]
theorem P_0 (Q : Nat → Nat → Bool) : nP Q 0 = 1 ∧ fP' Q 0 = 0 ∧ mP Q 0 = 0 := ⟨rfl, rfl, rfl⟩
/-- the partings of z things: at most 4140 -/
def tb8 (z : Nat) : Nat := [1, 1, 2, 5, 15, 52, 203, 877, 4140].getD (bsum z 8) 0
theorem tb8_ok : ∀ x, x < 256 → 0 < x → sm (fun y => if sb x y ∧ lo x y then tb8 (x ^^^ y) else 0) (x + 1) ≤ tb8 x := by decide +kernel
theorem tb8_le : ∀ x, x < 256 → tb8 x ≤ 4140 := by decide +kernel
theorem nP_tb {Q : Nat → Nat → Bool} (h : QO Q) : ∀ x, x < 256 → nP Q x ≤ tb8 x := by
  intro x
  induction x using Nat.strongRecOn with
  | ind x ih =>
    intro h1
    rcases Nat.eq_zero_or_pos x with e | e
    · subst e; exact (show 1 ≤ tb8 0 by decide)
    · rw [(P_eq h h1 e).1]
      refine Nat.le_trans (sm_le _ (fun y _ => ?_)) (tb8_ok x h1 e)
      unfold nG
      cases hq : Q x y with
      | false => exact Nat.zero_le _
      | true =>
        have := h.lt h1 e hq
        rw [if_pos rfl, if_pos (h x y h1 e hq)]
        exact ih (x ^^^ y) this (by omega)
theorem nP_le {Q : Nat → Nat → Bool} (h : QO Q) {x : Nat} (h1 : x < 256) : nP Q x ≤ 4140 := Nat.le_trans (nP_tb h x h1) (tb8_le x h1)
theorem sm_pos {g : Nat → Nat} : ∀ k, 0 < sm g k → ∃ j, j < k ∧ 0 < g j := by
  intro k
  induction k with
  | zero => intro h; exact absurd h (Nat.lt_irrefl 0)
  | succ k ih =>
    intro h
    rw [sm] at h
    by_cases q : 0 < g k
    · exact ⟨k, by omega, q⟩
    · obtain ⟨j, h1, h2⟩ := ih (by omega)
      exact ⟨j, by omega, h2⟩
theorem mxi_at {g : Nat → Int} : ∀ k j, j < k → g j ≤ mxi g k := by
  intro k
  induction k with
  | zero => intro j h; omega
  | succ k ih =>
    intro j h
    rw [mxi]
    rcases (show j = k ∨ j < k by omega) with rfl | h'
    · omega
    · have := ih j h'; omega
theorem mxi_ub {g : Nat → Int} {b : Int} (hb : -9999 ≤ b) : ∀ k, (∀ j, j < k → g j ≤ b) → mxi g k ≤ b := by
  intro k
  induction k with
  | zero => intro _; exact hb
  | succ k ih => intro h; have := ih (fun j hj => h j (by omega)); have := h k (by omega); rw [mxi]; omega
theorem mn_ub {g : Nat → Nat} : ∀ k, (∀ j, j < k → 9999 ≤ g j) → mn g k = 9999 := by
  intro k
  induction k with
  | zero => intro _; rfl
  | succ k ih => intro h; have := ih (fun j hj => h j (by omega)); have := h k (by omega); rw [mn]; omega
/-- no way, or few and many -/
theorem P_no {Q : Nat → Nat → Bool} (h : QO Q) : ∀ x, x < 256 → (nP Q x = 0 → fP' Q x = 9999 ∧ mP Q x ≤ -9999 + x) ∧ (0 < nP Q x → fP' Q x ≤ x ∧ 0 ≤ mP Q x) ∧ -9999 ≤ mP Q x ∧ mP Q x ≤ x ∧ (0 < x → 0 < nP Q x → 1 ≤ mP Q x) := by
  intro x
  induction x using Nat.strongRecOn with
  | ind x ih =>
    intro h1
    rcases Nat.eq_zero_or_pos x with e | e
    · subst e
      exact ⟨fun h => absurd (show (1 : Nat) = 0 from h) (by decide), fun _ => ⟨Nat.le_refl _, Int.le_refl _⟩, (show (-9999 : Int) ≤ 0 by decide), (show (0 : Int) ≤ 0 by decide), fun h => absurd h (by decide)⟩
    · obtain ⟨e1, e2, e3⟩ := P_eq h h1 e
      have hi : ∀ y, Q x y = true → x ^^^ y < x ∧ _ := fun y hq => ⟨h.lt h1 e hq, ih (x ^^^ y) (h.lt h1 e hq) (by have := h.lt h1 e hq; omega)⟩
      have hz : nP Q x = 0 → ∀ y, y < x + 1 → nG Q x y = 0 := by
        intro h0 y hy
        rw [e1] at h0
        rcases Nat.eq_zero_or_pos (nG Q x y) with q | q
        · exact q
        · have : sm (nG Q x) (x + 1) ≠ 0 := by
            have hm : ∀ k, y < k → 0 < sm (nG Q x) k := by
              intro k
              induction k with
              | zero => intro h; omega
              | succ k ihk =>
                intro h
                rw [sm]
                rcases (show y = k ∨ y < k by omega) with rfl | h'
                · omega
                · have := ihk h'; omega
            have := hm (x + 1) hy
            omega
          exact absurd h0 this
      have hpos : 0 < nP Q x → ∃ y, y < x + 1 ∧ Q x y = true ∧ 0 < nP Q (x ^^^ y) := by
        intro h0
        rw [e1] at h0
        obtain ⟨y, h2, h3⟩ := sm_pos _ h0
        unfold nG at h3
        cases hq : Q x y with
        | false => rw [hq, if_neg (by decide)] at h3; exact absurd h3 (Nat.lt_irrefl 0)
        | true => rw [hq, if_pos rfl] at h3; exact ⟨y, h2, hq, h3⟩
      refine ⟨fun h0 => ⟨?_, ?_⟩, fun h0 => ⟨?_, ?_⟩, ?_, ?_, fun _ h0 => ?_⟩
      · rw [e2]
        refine mn_ub _ (fun y hy => ?_)
        have := hz h0 y hy
        unfold nG at this
        unfold fG
        cases hq : Q x y with
        | false => exact Nat.le_refl _
        | true =>
          rw [hq, if_pos rfl] at this
          rw [if_pos rfl, ((hi y hq).2.1 this).1]; omega
      · rw [e3]
        refine mxi_ub (by omega) _ (fun y hy => ?_)
        have := hz h0 y hy
        unfold nG at this
        unfold mG
        cases hq : Q x y with
        | false => rw [if_neg (by decide)]; omega
        | true =>
          rw [hq, if_pos rfl] at this
          rw [if_pos rfl]
          have h5 := ((hi y hq).2.1 this).2
          have h6 := (hi y hq).1
          omega
      · obtain ⟨y, h2, h3, h4⟩ := hpos h0
        have h5 := ((hi y h3).2.2.1 h4).1
        have h6 := (hi y h3).1
        have h7 := mn_at (g := fG Q x) (x + 1) y h2
        rw [e2]
        unfold fG at h7
        rw [h3, if_pos rfl] at h7
        unfold fG
        omega
      · obtain ⟨y, h2, h3, h4⟩ := hpos h0
        have h5 := ((hi y h3).2.2.1 h4).2
        have h7 := mxi_at (g := mG Q x) (x + 1) y h2
        rw [e3]
        unfold mG at h7
        rw [h3, if_pos rfl] at h7
        unfold mG
        omega
      · rw [e3]; exact mxi_ge9 _ _
      · rw [e3]
        refine mxi_ub (by omega) _ (fun y hy => ?_)
        unfold mG
        cases hq : Q x y with
        | false => rw [if_neg (by decide)]; omega
        | true =>
          rw [if_pos rfl]
          have h5 := (hi y hq).2.2.2.2.1
          have h6 := (hi y hq).1
          omega
      · obtain ⟨y, h2, h3, h4⟩ := hpos h0
        have h5 := ((hi y h3).2.2.1 h4).2
        have h7 := mxi_at (g := mG Q x) (x + 1) y h2
        rw [e3]
        unfold mG at h7
        rw [h3, if_pos rfl] at h7
        unfold mG
        omega
