/-! sets of things: class -/
/-- what those of y among the first i weigh -/
def su (v : Nat → Nat) (y : Nat) : Nat → Nat
  | 0 => 0
  | i + 1 => su v y i + y / 2 ^ i % 2 * v i
theorem su_le {v : Nat → Nat} {y b : Nat} : ∀ i, (∀ j, j < i → v j ≤ b) → su v y i ≤ b * i := by
  intro i
  induction i with
  | zero => intro _; exact Nat.zero_le _
  | succ i ih =>
    intro h
    have h1 := ih (fun j hj => h j (by omega))
    have h2 := h i (by omega)
    have h3 : y / 2 ^ i % 2 * v i ≤ 1 * v i := Nat.mul_le_mul_right _ (by have : y / 2 ^ i % 2 < 2 := Nat.mod_lt _ (by decide); omega)
    rw [su, Nat.mul_succ]; omega
theorem p2c {c : Nat} (h : c ≤ 8) : 2 ^ c ≤ 256 := Nat.pow_le_pow_right (n := 2) (by decide) h
theorem in256 {x : Nat} (h : x < 256) : inb (nI x) 256 = true := by rw [inb_nI (by omega)]; simpa using h
theorem s_addUp_34 {c cap : Nat} {v : Nat → Nat} {f : Nat → Int32} (hc : c ≤ cap) (hcap : cap ≤ 8) (h : ∀ j, j < c → f j = nI (v j)) (K : Int32 → Int32 → (Nat → Int32) → Option (Int32 × (Nat → Int32))) {y : Nat} (hy : y < 256) : ∀ (m j n : Nat) (s : Nat → Int32), j + m = c → m < n → s y = nI (su v y j) → ∃ s', g_X6_addUp_34 cap (nI c) f K n (nI y) (nI j) (nI c) s = K (nI (y + 1)) (nI c) s' ∧ s' y = nI (su v y c) ∧ ∀ z, z ≠ y → s' z = s z := by
  intro m
  induction m with
  | zero =>
    intro j n s e1 e2 e3
    obtain ⟨n, rfl⟩ : ∃ z, n = z + 1 := ⟨n - 1, by omega⟩
    have e : j = c := by omega
    subst e
    exact ⟨s, by rw [g_X6_addUp_34, if_pos (nI_le (by omega) (by omega)), z_1], e3, fun _ _ => rfl⟩
  | succ m ih =>
    intro j n s e1 e2 e3
    obtain ⟨n, rfl⟩ : ∃ z, n = z + 1 := ⟨n - 1, by omega⟩
    obtain ⟨s', q1, q2, q3⟩ := ih (j + 1) n (upd s y (nI (su v y (j + 1)))) (by omega) (by omega) upd_at
    refine ⟨s', ?_, q2, fun z hz => by rw [q3 z hz, upd_no hz]⟩
    rw [g_X6_addUp_34, if_neg (fun h => absurd ((e_le (by omega) (by omega)).mp h) (by omega)), if_pos (in256 hy), s_get (by omega) hc (by omega), Option.bind_some, if_pos (show j < c by omega), h j (by omega), nI_clamp (by omega), e3, z_shr (by omega) (by omega), z_and1 (Nat.lt_of_le_of_lt (Nat.div_le_self _ _) (by omega)), z_mul, nI_add, z_1]
    exact q1
theorem z_pw {c : Nat} (hc : c ≤ 8) : (1 : Int32) <<< (nI c &&& 31) = nI (2 ^ c) := z_pow (by omega)
theorem s_addUp_15 {c cap N : Nat} {v : Nat → Nat} {f : Nat → Int32} (hN : 300 ≤ N) (hc : c ≤ cap) (hcap : cap ≤ 8) (h : ∀ j, j < c → f j = nI (v j)) : ∀ (m y n : Nat) (s : Nat → Int32), y + m = 2 ^ c → m < n → (∀ z, z < y → s z = nI (su v z c)) → ∃ s', g_X6_addUp_15 N cap (nI c) f n (nI y) (nI c) s = some (nI c, s') ∧ ∀ z, z < 2 ^ c → s' z = nI (su v z c) := by
  have hp := p2c (c := c) (by omega)
  intro m
  induction m with
  | zero =>
    intro y n s e1 e2 e3
    obtain ⟨n, rfl⟩ : ∃ z, n = z + 1 := ⟨n - 1, by omega⟩
    exact ⟨s, by rw [g_X6_addUp_15, z_pw (by omega), if_pos (nI_le (by omega) (by omega))], fun z hz => e3 z (by omega)⟩
  | succ m ih =>
    intro y n s e1 e2 e3
    obtain ⟨n, rfl⟩ : ∃ z, n = z + 1 := ⟨n - 1, by omega⟩
    obtain ⟨s1, q1, q2, q3⟩ := s_addUp_34 hc hcap h (g_X6_addUp_15 N cap (nI c) f n) (y := y) (by omega) c 0 N (upd s y 0) (by omega) (by omega) upd_at
    obtain ⟨s', p1, p2⟩ := ih (y + 1) n s1 (by omega) (by omega) (fun z hz => by
      rcases (show z = y ∨ z < y by omega) with rfl | h'
      · exact q2
      · rw [q3 z (by omega), upd_no (by omega)]; exact e3 z h')
    refine ⟨s', ?_, p2⟩
    rw [g_X6_addUp_15, z_pw (by omega), if_neg (fun h => absurd ((e_le (by omega) (by omega)).mp h) (by omega)), if_pos (in256 (by omega)), nI_clamp (by omega)]
    exact q1.trans p1
theorem s_addUp {c N : Nat} {v : Nat → Nat} {f : Nat → Int32} (hN : 300 ≤ N) (hc : c ≤ 8) (h : ∀ j, j < c → f j = nI (v j)) (s : Nat → Int32) : ∃ s', g_X6_addUp N 8 s (nI c) f = some (nI c, s') ∧ ∀ z, z < 2 ^ c → s' z = nI (su v z c) := by
  have hp := p2c hc
  obtain ⟨s', q1, q2⟩ := s_addUp_15 hN hc (Nat.le_refl 8) h (2 ^ c) 0 N s (by omega) (by omega) (fun z hz => absurd hz (by omega))
  refine ⟨s', ?_, q2⟩
  unfold g_X6_addUp
  rw [s_size, Option.bind_some, if_neg (show ¬ 8 < nI c from fun h => absurd ((e_lt (a := 8) (by decide) (by omega)).mp h) (by omega))]
  exact q1
/-- y is as was counted, by the first i counts -/
def ctd (a : Nat → Nat) (y s : Nat) : Nat → Bool
  | 0 => true
  | i + 1 => ctd a y s i && (!(y.testBit (a (337 + i))) || decide (s = a (341 + i)))
theorem ctd_no {a : Nat → Nat} {y s i : Nat} (h : ctd a y s i = false) : ∀ d, ctd a y s (i + d) = false := by
  intro d
  induction d with
  | zero => exact h
  | succ d ih => show (ctd a y s (i + d) && _) = false; rw [ih]; rfl
theorem s_isAsCounted_2 {a : Nat → Nat} {f8 f9 sums : Nat → Int32} (hI : IC a) (hN' : IN a) (h8 : AR a 5 337 f8) (h9 : AR a 5 341 f9) {y s : Nat} (hy : y < 256) (hs : s < 1000) (hsum : sums y = nI s) : ∀ (m i n : Nat), i + m = a 5 → m < n → ctd a y s i = true → g_X6_isAsCounted_2 sums (nI (a 5)) f8 (nI (a 5)) f9 (nI y) n (nI i) = some (if ctd a y s (a 5) then 1 else 0) := by
  obtain ⟨j0, j1, j2, j3, j4, j5, j6⟩ := id hI
  intro m
  induction m with
  | zero =>
    intro i n e1 e2 e3
    obtain ⟨n, rfl⟩ : ∃ z, n = z + 1 := ⟨n - 1, by omega⟩
    have e : i = a 5 := by omega
    rw [g_X6_isAsCounted_2, s_size, Option.bind_some, if_pos (nI_le (by omega) (by omega)), ← e, e3]; rfl
  | succ m ih =>
    intro i n e1 e2 e3
    obtain ⟨n, rfl⟩ : ∃ z, n = z + 1 := ⟨n - 1, by omega⟩
    have hn := hN' i (by omega)
    have hi : i < a 5 := by omega
    have hst : ctd a y s (i + 1) = (!(y.testBit (a (337 + i))) || decide (s = a (341 + i))) := by
      show (ctd a y s i && _) = _
      rw [e3, Bool.true_and]
    rw [g_X6_isAsCounted_2, s_size, Option.bind_some, if_neg (fun h => absurd ((e_le (by omega) (by omega)).mp h) (by omega)), s_get (by decide) j5 (by omega), Option.bind_some, if_pos hi, h8 i hi, ifi (z_tb (by omega) (by omega))]
    unfold g_X6_isAsCounted_34
    rw [if_neg (show ¬ (1 : Int32) = 0 by decide), if_pos (show (0 : Int32) = 0 from rfl), if_pos (in256 hy), s_get (by decide) j5 (by omega), Option.bind_some, if_pos hi, h9 i hi, nI_clamp (by omega), hsum, ifi (e_eq (by omega) (by omega)), z_1]
    cases hb : y.testBit (a (337 + i)) with
    | false =>
      rw [if_neg (by decide)]
      exact ih (i + 1) n (by omega) (by omega) (by rw [hst, hb]; rfl)
    | true =>
      rw [if_pos rfl]
      by_cases q : s = a (341 + i)
      · rw [if_pos q]; exact ih (i + 1) n (by omega) (by omega) (by rw [hst, hb]; simp [q])
      · rw [if_neg q]
        have := ctd_no (a := a) (y := y) (s := s) (i := i + 1) (by rw [hst, hb]; simp [q]) m
        rw [show i + 1 + m = a 5 by omega] at this
        rw [this]; rfl
/-- what the class keeps of x: so many ways, the fewest, the most -/
def CI (s f : Nat) (m : Int) (num few most : Int32) : Prop := num = nI s ∧ f ≤ 9999 ∧ -9999 ≤ m ∧ (s = 0 → few = -1 ∧ most = -1 ∧ f = 9999 ∧ m ≤ -9000) ∧ (0 < s → few = nI f ∧ f ≤ 256 ∧ most = nI m.toNat ∧ 1 ≤ m ∧ m ≤ 256)
def CF (Q : Nat → Nat → Bool) (z : Nat) (num few most : Nat → Int32) : Prop := num z = nI (nP Q z) ∧ (nP Q z = 0 → few z = -1 ∧ most z = -1) ∧ (0 < nP Q z → few z = nI (fP' Q z) ∧ most z = nI (mP Q z).toNat)
theorem s_addSet {Q : Nat → Nat → Bool} (hQ : QO Q) {x z s f : Nat} {m : Int} {num few most : Nat → Int32} (hx : x < 256) (hz : z < x) (h : CI s f m (num x) (few x) (most x)) (h' : CF Q z num few most) : ∃ few' most' num', g_X6_addSet few most num (nI x) (nI z) = some (few', most', num') ∧ CI (s + nP Q z) (min f (fP' Q z + 1)) (max m (mP Q z + 1)) (num' x) (few' x) (most' x) ∧ ∀ w, w ≠ x → num' w = num w ∧ few' w = few w ∧ most' w = most w := by
  obtain ⟨p1, p2, p3, p4, p5⟩ := P_no hQ z (by omega)
  obtain ⟨c1, c2, c3, c4, c5⟩ := h
  obtain ⟨d1, d2, d3⟩ := h'
  have hn := nP_le hQ (x := z) (by omega)
  unfold g_X6_addSet
  rw [if_pos (in256 (by omega)), nI_clamp (by omega), d1, ifi (e_eq0 (by omega)), nI_clamp (by omega)]
  by_cases q : nP Q z = 0
  · rw [if_pos q]
    obtain ⟨q1, q2⟩ := p1 q
    refine ⟨few, most, num, rfl, ⟨by rw [q]; exact c1, by omega, by omega, fun h0 => ?_, fun h0 => ?_⟩, fun w _ => ⟨rfl, rfl, rfl⟩⟩
    · obtain ⟨k1, k2, k3, k4⟩ := c4 (by omega)
      exact ⟨k1, k2, by omega, by omega⟩
    · obtain ⟨k1, k2, k3, k4, k5⟩ := c5 (by omega)
      have e1 : min f (fP' Q z + 1) = f := by omega
      have e2 : max m (mP Q z + 1) = m := by omega
      rw [e1, e2]
      exact ⟨k1, k2, k3, k4, k5⟩
  · rw [if_neg q, if_pos (in256 (by omega))]
    obtain ⟨q1, q2⟩ := p2 (by omega)
    obtain ⟨q3, q4⟩ := d3 (by omega)
    have hfew : ∃ F : Nat → Int32, F x = nI (min f (fP' Q z + 1)) ∧ (∀ w, w ≠ x → F w = few w) ∧ (if few x = -1 then g_X6_addSet_52 (nI x) (nI z) few most (upd num x (num x + nI (nP Q z))) else if few x ≤ few z + 1 then g_X6_addSet_66 (nI x) (nI z) few most (upd num x (num x + nI (nP Q z))) else g_X6_addSet_52 (nI x) (nI z) few most (upd num x (num x + nI (nP Q z)))) = g_X6_addSet_66 (nI x) (nI z) F most (upd num x (num x + nI (nP Q z))) := by
      have h52 : g_X6_addSet_52 (nI x) (nI z) few most (upd num x (num x + nI (nP Q z))) = g_X6_addSet_66 (nI x) (nI z) (upd few x (nI (fP' Q z + 1))) most (upd num x (num x + nI (nP Q z))) := by
        unfold g_X6_addSet_52
        rw [if_pos (in256 (by omega)), if_pos (in256 (by omega)), nI_clamp (by omega), nI_clamp (by omega), q3, z_1]
      rcases Nat.eq_zero_or_pos s with h0 | h0
      · obtain ⟨k1, k2, k3, k4⟩ := c4 h0
        refine ⟨upd few x (nI (fP' Q z + 1)), ?_, fun w hw => upd_no hw, ?_⟩
        · rw [upd_at, show min f (fP' Q z + 1) = fP' Q z + 1 by omega]
        · rw [if_pos k1, h52]
      · obtain ⟨k1, k2, k3, k4, k5⟩ := c5 h0
        rw [k1, if_neg (show ¬ nI f = -1 from fun h => by
          have h1 : nI f < 0 := by rw [h]; decide
          exact nI_pos (by omega) h1), q3, z_1, ifi (e_le (by omega) (by omega))]
        by_cases r : f ≤ fP' Q z + 1
        · exact ⟨few, by rw [k1, show min f (fP' Q z + 1) = f by omega], fun _ _ => rfl, by rw [if_pos r]⟩
        · exact ⟨upd few x (nI (fP' Q z + 1)), by rw [upd_at, show min f (fP' Q z + 1) = fP' Q z + 1 by omega], fun w hw => upd_no hw, by rw [if_neg r, h52]⟩
    obtain ⟨F, F1, F2, F3⟩ := hfew
    rw [F3]
    unfold g_X6_addSet_66
    rw [if_pos (in256 (by omega)), if_pos (in256 (by omega)), nI_clamp (by omega), nI_clamp (by omega), q4]
    have hmz : ∃ k : Nat, mP Q z = (k : Int) ∧ k ≤ 256 := ⟨(mP Q z).toNat, by omega, by omega⟩
    obtain ⟨k, hk, hk2⟩ := hmz
    rw [hk, Int.toNat_natCast, z_1]
    refine ⟨F, _, _, rfl, ⟨?_, by omega, by omega, fun h0 => absurd h0 (by omega), fun _ => ⟨F1, by omega, ?_, by omega, ?_⟩⟩, fun w hw => ⟨upd_no hw, F2 w hw, upd_no hw⟩⟩
    · rw [upd_at, c1, nI_add]
    · rw [upd_at]
      rcases Nat.eq_zero_or_pos s with h0 | h0
      · obtain ⟨k1, k2, k3, k4⟩ := c4 h0
        rw [k2, if_pos (show (-1 : Int32) < nI (k + 1) from by
          have := nI_pos' (n := k + 1) (by omega)
          rw [Int32.lt_iff_toInt_lt, nI_toInt (by omega), show (-1 : Int32).toInt = -1 from rfl]; omega), show max m ((k : Int) + 1) = ((k + 1 : Nat) : Int) by omega, Int.toNat_natCast]
      · obtain ⟨k1, k2, k3, k4, k5⟩ := c5 h0
        rw [k3, ifi (e_lt (a := m.toNat) (b := k + 1) (by omega) (by omega))]
        by_cases r : m.toNat < k + 1
        · rw [if_pos r, show max m ((k : Int) + 1) = ((k + 1 : Nat) : Int) by omega, Int.toNat_natCast]
        · rw [if_neg r, show max m ((k : Int) + 1) = m by omega]
    · rcases Nat.eq_zero_or_pos s with h0 | h0
      · obtain ⟨k1, k2, k3, k4⟩ := c4 h0; omega
      · obtain ⟨k1, k2, k3, k4, k5⟩ := c5 h0; omega
def Qk (ok : Nat → Bool) (x y : Nat) : Bool := decide (sb x y) && decide (lo x y) && ok y
theorem Qk_QO (ok : Nat → Bool) : QO (Qk ok) := by
  intro x y _ _ h
  unfold Qk at h
  rw [Bool.and_eq_true, Bool.and_eq_true, decide_eq_true_eq, decide_eq_true_eq] at h
  exact h.1
theorem s_solve_61 {ok : Nat → Bool} {fits : Nat → Int32} {c : Nat} (hc : c ≤ 8) (hf : ∀ y, 0 < y → y < 2 ^ c → fits y = if ok y then 1 else 0) (K : Int32 → (Nat → Int32) → (Nat → Int32) → (Nat → Int32) → Option ((Nat → Int32) × (Nat → Int32) × (Nat → Int32))) {x : Nat} (h0 : 0 < x) (hx : x < 2 ^ c) : ∀ (m y n : Nat) (few most num : Nat → Int32), y + m = x + 1 → m < n → 0 < y → CI (sm (nG (Qk ok) x) y) (mn (fG (Qk ok) x) y) (mxi (mG (Qk ok) x) y) (num x) (few x) (most x) → (∀ z, z < x → CF (Qk ok) z num few most) → ∃ few' most' num', g_X6_solve_61 fits K n (nI x) (nI (lw x)) (nI y) few most num = K (nI (x + 1)) few' most' num' ∧ (∀ z, z < x + 1 → CF (Qk ok) z num' few' most') := by
  have hp := p2c hc
  intro m
  induction m with
  | zero =>
    intro y n few most num e1 e2 e3 hC hF
    obtain ⟨n, rfl⟩ : ∃ z, n = z + 1 := ⟨n - 1, by omega⟩
    refine ⟨few, most, num, by rw [g_X6_solve_61, if_pos (nI_lt (by omega) (by omega)), z_1], fun z hz => ?_⟩
    rcases (show z = x ∨ z < x by omega) with rfl | h
    · obtain ⟨f1, f2, f3⟩ := P_eq (Qk_QO ok) (x := z) (by omega) h0
      rw [show y = z + 1 by omega, ← f1, ← f2, ← f3] at hC
      exact ⟨hC.1, fun h => ⟨(hC.2.2.2.1 h).1, (hC.2.2.2.1 h).2.1⟩, fun h => ⟨(hC.2.2.2.2 h).1, (hC.2.2.2.2 h).2.2.1⟩⟩
    · exact hF z h
  | succ m ih =>
    intro y n few most num e1 e2 e3 hC hF
    obtain ⟨n, rfl⟩ : ∃ z, n = z + 1 := ⟨n - 1, by omega⟩
    have hy : y ≤ x := by omega
    have hl : lw x ≤ x := Nat.and_le_left
    rw [g_X6_solve_61, if_neg (fun h => absurd ((e_lt (by omega) (by omega)).mp h) (by omega)), z_and, ifi (e_eq0 (a := y &&& lw x) (Nat.lt_of_le_of_lt Nat.and_le_left (by omega))), z_and, ifi (e_eq (a := y &&& x) (b := y) (Nat.lt_of_le_of_lt Nat.and_le_left (by omega)) (by omega)), if_pos (in256 (by omega)), nI_clamp (by omega), hf y e3 (by omega), if10, z_1]
    have skip : Qk ok x y = false → ∃ few' most' num', g_X6_solve_61 fits K n (nI x) (nI (lw x)) (nI (y + 1)) few most num = K (nI (x + 1)) few' most' num' ∧ (∀ z, z < x + 1 → CF (Qk ok) z num' few' most') := by
      intro hq
      refine ih (y + 1) n few most num (by omega) (by omega) (by omega) ?_ hF
      have g1 : sm (nG (Qk ok) x) (y + 1) = sm (nG (Qk ok) x) y := by rw [sm, nG, hq]; rfl
      have g2 : mn (fG (Qk ok) x) (y + 1) = mn (fG (Qk ok) x) y := by
        have := mn_le9 (fG (Qk ok) x) y
        rw [mn, fG, hq, if_neg (by decide)]; omega
      have g3 : mxi (mG (Qk ok) x) (y + 1) = mxi (mG (Qk ok) x) y := by
        have := mxi_ge9 (mG (Qk ok) x) y
        rw [mxi, mG, hq, if_neg (by decide)]; omega
      rw [g1, g2, g3]; exact hC
    by_cases q1 : y &&& lw x = 0
    · rw [if_pos q1]
      exact skip (by unfold Qk; rw [show decide (lo x y) = false from decide_eq_false (fun h => h q1)]; simp)
    · rw [if_neg q1]
      by_cases q2 : y &&& x = y
      · rw [if_pos q2]
        cases q3 : ok y with
        | false =>
          rw [if_neg (by decide)]
          exact skip (by unfold Qk; rw [q3]; simp)
        | true =>
          rw [if_pos rfl]
          have hq : Qk ok x y = true := by unfold Qk; rw [q3, show decide (lo x y) = true from decide_eq_true q1, show decide (sb x y) = true from decide_eq_true q2]; rfl
          have hlt := (Qk_QO ok).lt (by omega) h0 hq
          obtain ⟨few1, most1, num1, r1, r2, r3⟩ := s_addSet (Qk_QO ok) (by omega) hlt hC (hF _ hlt)
          rw [z_xor, r1, Option.bind_some]
          refine ih (y + 1) n few1 most1 num1 (by omega) (by omega) (by omega) ?_ (fun z hz => ?_)
          · rw [sm, mn, mxi, nG, fG, mG, hq, if_pos rfl, if_pos rfl, if_pos rfl]; exact r2
          · obtain ⟨t1, t2, t3⟩ := r3 z (by omega)
            obtain ⟨u1, u2, u3⟩ := hF z hz
            exact ⟨by rw [t1]; exact u1, by rw [t2, t3]; exact u2, by rw [t2, t3]; exact u3⟩
      · rw [if_neg q2]
        exact skip (by unfold Qk; rw [show decide (sb x y) = false from decide_eq_false q2]; rfl)
theorem CF.no {Q : Nat → Nat → Bool} {z x : Nat} {num few most : Nat → Int32} (h : CF Q z num few most) (hz : z ≠ x) (u v w : Int32) : CF Q z (upd num x u) (upd few x v) (upd most x w) := by
  obtain ⟨h1, h2, h3⟩ := h
  exact ⟨by rw [upd_no hz]; exact h1, by rw [upd_no hz, upd_no hz]; exact h2, by rw [upd_no hz, upd_no hz]; exact h3⟩
theorem lw_low {ok : Nat → Bool} {x : Nat} (h0 : 0 < x) (hx : x < 256) : ∀ y, y < lw x → Qk ok x y = false := by
  intro y hy
  obtain ⟨t, ht, e1, e2, e3⟩ := lw_ex x hx h0
  unfold Qk
  rw [show decide (lo x y) = false from decide_eq_false (fun h => by
    rw [lo_iff e1, Nat.testBit_lt_two_pow (by omega)] at h; exact absurd h (by decide))]
  simp
theorem lw_pos {x : Nat} (h0 : 0 < x) (hx : x < 256) : 0 < lw x := by
  obtain ⟨t, ht, e1, e2, e3⟩ := lw_ex x hx h0
  rw [e1]; exact Nat.two_pow_pos t
theorem s_solve_23 {ok : Nat → Bool} {fits : Nat → Int32} {c N : Nat} (hN : 300 ≤ N) (hc : c ≤ 8) (hf : ∀ y, 0 < y → y < 2 ^ c → fits y = if ok y then 1 else 0) : ∀ (m x n : Nat) (few most num : Nat → Int32), x + m = 2 ^ c → m < n → 0 < x → (∀ z, z < x → CF (Qk ok) z num few most) → ∃ few' most' num', g_X6_solve_23 N (nI c) fits n (nI x) few most num = some (few', most', num') ∧ (∀ z, z < 2 ^ c → CF (Qk ok) z num' few' most') := by
  have hp := p2c hc
  intro m
  induction m with
  | zero =>
    intro x n few most num e1 e2 e3 hF
    obtain ⟨n, rfl⟩ : ∃ z, n = z + 1 := ⟨n - 1, by omega⟩
    exact ⟨few, most, num, by rw [g_X6_solve_23, z_pw hc, if_pos (nI_le (by omega) (by omega))], fun z hz => hF z (by omega)⟩
  | succ m ih =>
    intro x n few most num e1 e2 e3 hF
    obtain ⟨n, rfl⟩ : ∃ z, n = z + 1 := ⟨n - 1, by omega⟩
    have hl : lw x ≤ x := Nat.and_le_left
    have hlp := lw_pos e3 (show x < 256 by omega)
    rw [g_X6_solve_23, z_pw hc, if_neg (fun h => absurd ((e_le (by omega) (by omega)).mp h) (by omega)), if_pos (in256 (by omega)), nI_clamp (by omega), z_low x (by omega)]
    have hq := lw_low (ok := ok) e3 (show x < 256 by omega)
    obtain ⟨few1, most1, num1, r1, r2⟩ := s_solve_61 hc hf (g_X6_solve_23 N (nI c) fits n) e3 (by omega) (x + 1 - lw x) (lw x) N (upd few x (-1)) (upd most x (-1)) (upd num x 0) (by omega) (by omega) hlp
      (by
        have g1 : sm (nG (Qk ok) x) (lw x) = 0 := sm_0 _ (fun j hj => by rw [nG, hq j hj]; rfl)
        have g2 : mn (fG (Qk ok) x) (lw x) = 9999 := mn_ub _ (fun j hj => by rw [fG, hq j hj]; exact Nat.le_refl _)
        have g3 : mxi (mG (Qk ok) x) (lw x) ≤ -9999 := mxi_ub (Int.le_refl _) _ (fun j hj => by rw [mG, hq j hj]; exact Int.le_refl _)
        have g4 := mxi_ge9 (mG (Qk ok) x) (lw x)
        rw [g1, g2, upd_at, upd_at, upd_at]
        exact ⟨rfl, Nat.le_refl _, g4, fun _ => ⟨rfl, rfl, rfl, by omega⟩, fun h => absurd h (by decide)⟩)
      (fun z hz => (hF z hz).no (by omega) _ _ _)
    obtain ⟨few', most', num', s1, s2⟩ := ih (x + 1) n few1 most1 num1 (by omega) (by omega) (by omega) r2
    exact ⟨few', most', num', r1.trans s1, s2⟩
theorem s_solve {ok : Nat → Bool} {fits : Nat → Int32} {c N : Nat} (hN : 300 ≤ N) (hc : c ≤ 8) (hf : ∀ y, 0 < y → y < 2 ^ c → fits y = if ok y then 1 else 0) (few most num : Nat → Int32) : ∃ few' most' num', g_X6_solve N (nI c) few fits most num = some (few', most', num') ∧ (∀ z, z < 2 ^ c → CF (Qk ok) z num' few' most') := by
  have hp := p2c hc
  have hp0 := Nat.two_pow_pos c
  unfold g_X6_solve
  rw [if_pos (show inb 0 256 = true from rfl)]
  exact s_solve_23 hN hc hf (2 ^ c - 1) 1 N _ _ _ (by omega) (by omega) (by decide) (fun z hz => by
    have e : z = 0 := by omega
    subst e
    exact ⟨rfl, fun h => absurd (show (1 : Nat) = 0 from h) (by decide), fun _ => ⟨rfl, rfl⟩⟩)
/-- a company of knots -/
def okK (a : Nat → Nat) (r y : Nat) : Bool := fitN (a 0) r (su (fun j => a (329 + j)) y (a 4)) && ctd a y (su (fun j => a (329 + j)) y (a 4)) (a 5)
theorem s_partKnots_10 {a : Nat → Nat} {f8 f9 sums : Nat → Int32} {N r : Nat} (hN : 300 ≤ N) (hI : IC a) (hK : IK a) (hN' : IN a) (h8 : AR a 5 337 f8) (h9 : AR a 5 341 f9) (hr : r ≤ 3) (hs : ∀ z, z < 2 ^ a 4 → sums z = nI (su (fun j => a (329 + j)) z (a 4))) : ∀ (m x n : Nat) (few fits most num : Nat → Int32), x + m = 2 ^ a 4 → m < n → 0 < x → (∀ y, 0 < y → y < x → fits y = if okK a r y then 1 else 0) → ∃ fits' few' most' num', g_X6_partKnots_10 N (nI (a 0)) (nI (a 5)) f8 (nI (a 5)) f9 (nI r) n (nI x) (nI (a 4)) few fits most num sums = some (nI (a 4), few', fits', most', num', sums) ∧ (∀ y, 0 < y → y < 2 ^ a 4 → fits' y = if okK a r y then 1 else 0) ∧ (∀ z, z < 2 ^ a 4 → CF (Qk (okK a r)) z num' few' most') := by
  obtain ⟨j0, j1, j2, j3, j4, j5, j6⟩ := id hI
  have hp := p2c j4
  intro m
  induction m with
  | zero =>
    intro x n few fits most num e1 e2 e3 hF
    obtain ⟨n, rfl⟩ : ∃ z, n = z + 1 := ⟨n - 1, by omega⟩
    obtain ⟨few', most', num', q1, q2⟩ := s_solve hN j4 (fun y h1 h2 => hF y h1 (by omega)) few most num
    exact ⟨fits, few', most', num', by rw [g_X6_partKnots_10, z_pw j4, if_pos (nI_le (by omega) (by omega)), q1, Option.bind_some], fun y h1 h2 => hF y h1 (by omega), q2⟩
  | succ m ih =>
    intro x n few fits most num e1 e2 e3 hF
    obtain ⟨n, rfl⟩ : ∃ z, n = z + 1 := ⟨n - 1, by omega⟩
    have hsu : su (fun j => a (329 + j)) x (a 4) ≤ 9 * a 4 := su_le (b := 9) _ (fun j hj => (hK j hj).2)
    unfold g_X6_partKnots_10 g_X6_isAsCounted
    rw [z_pw j4, if_neg (fun h => absurd ((e_le (by omega) (by omega)).mp h) (by omega)), if_pos (in256 (by omega)), nI_clamp (by omega), hs x (by omega), s_fits j0 hr (by omega) (by omega), Option.bind_some, if10, show g_X6_isAsCounted_2 sums (nI (a 5)) f8 (nI (a 5)) f9 (nI x) N 0 = some (if ctd a x (su (fun j => a (329 + j)) x (a 4)) (a 5) then 1 else 0) from s_isAsCounted_2 hI hN' h8 h9 (by omega) (by omega) (hs x (by omega)) (a 5) 0 N (by omega) (by omega) rfl, Option.bind_some, if10, show vp_nar .boolean 0 = 0 from rfl, show vp_nar .boolean 1 = 1 from rfl, z_1]
    have go : ∀ u : Int32, u = (if okK a r x then 1 else 0) → ∃ fits' few' most' num', g_X6_partKnots_10 N (nI (a 0)) (nI (a 5)) f8 (nI (a 5)) f9 (nI r) n (nI (x + 1)) (nI (a 4)) few (upd fits x u) most num sums = some (nI (a 4), few', fits', most', num', sums) ∧ (∀ y, 0 < y → y < 2 ^ a 4 → fits' y = if okK a r y then 1 else 0) ∧ (∀ z, z < 2 ^ a 4 → CF (Qk (okK a r)) z num' few' most') := by
      intro u hu
      refine ih (x + 1) n few (upd fits x u) most num (by omega) (by omega) (by omega) (fun y h1 h2 => ?_)
      rcases (show y = x ∨ y < x by omega) with rfl | h'
      · rw [upd_at, hu]
      · rw [upd_no (by omega)]; exact hF y h1 h'
    cases q1 : fitN (a 0) r (su (fun j => a (329 + j)) x (a 4)) with
    | false => rw [if_neg (by decide)]; exact go 0 (by unfold okK; rw [q1]; rfl)
    | true =>
      rw [if_pos rfl]
      cases q2 : ctd a x (su (fun j => a (329 + j)) x (a 4)) (a 5) with
      | false => rw [if_neg (by decide)]; exact go 0 (by unfold okK; rw [q1, q2]; rfl)
      | true => rw [if_pos rfl]; exact go 1 (by unfold okK; rw [q1, q2]; rfl)
theorem s_partKnots {a : Nat → Nat} {f7 f8 f9 : Nat → Int32} {N r : Nat} (hN : 300 ≤ N) (hI : IC a) (hK : IK a) (hN' : IN a) (h7 : AR a 4 329 f7) (h8 : AR a 5 337 f8) (h9 : AR a 5 341 f9) (hr : r ≤ 3) (few fits most num sums : Nat → Int32) : ∃ fits' few' most' num' sums', g_X6_partKnots N few fits most num sums (nI (a 0)) (nI (a 5)) f8 (nI (a 5)) f9 (nI (a 4)) f7 (nI r) = some (nI (a 4), few', fits', most', num', sums') ∧ (∀ y, 0 < y → y < 2 ^ a 4 → fits' y = if okK a r y then 1 else 0) ∧ (∀ z, z < 2 ^ a 4 → CF (Qk (okK a r)) z num' few' most') := by
  obtain ⟨j0, j1, j2, j3, j4, j5, j6⟩ := id hI
  have hp := p2c j4
  have hp0 := Nat.two_pow_pos (a 4)
  obtain ⟨s', q1, q2⟩ := s_addUp (N := N) (v := fun j => a (329 + j)) hN j4 h7 sums
  obtain ⟨fits', few', most', num', r1, r2, r3⟩ := s_partKnots_10 hN hI hK hN' h8 h9 hr q2 (2 ^ a 4 - 1) 1 N few fits most num (by omega) (by omega) (by decide) (fun y h1 h2 => absurd h2 (by omega))
  refine ⟨fits', few', most', num', s', ?_, r2, r3⟩
  unfold g_X6_partKnots
  rw [q1, Option.bind_some]
  exact r1
theorem s_all {c : Nat} (hc : c ≤ 8) : g_X6_all (nI c) = some (nI (2 ^ c - 1)) := by
  have := Nat.two_pow_pos c
  unfold g_X6_all
  rw [z_pw hc, z_sub1 (by omega)]
