/-! ferry -/
def suF (a : Nat → Nat) (y : Nat) : Nat := su (fun j => a (349 + j)) y (a 6)
def okF (a : Nat → Nat) (r y : Nat) : Bool := decide (suF a y + a 358 ≤ a 357) && fitN (a 0) r (suF a y + a 358)
theorem suF_le {a : Nat → Nat} (hI : IC a) (hB : IB a) (y : Nat) : suF a y ≤ 160 := by
  have h : suF a y ≤ 20 * a 6 := su_le (b := 20) _ (fun j hj => (hB j hj).2)
  have := hI.2.2.2.2.2.2
  omega
theorem s_partC_10 {a : Nat → Nat} {sums : Nat → Int32} {N r : Nat} (hN : 300 ≤ N) (hI : IC a) (hB : IB a) (hRm : IR a) (hr : r ≤ 3) (hs : ∀ z, z < 2 ^ a 6 → sums z = nI (suF a z)) : ∀ (m x n : Nat) (few fits most num : Nat → Int32), x + m = 2 ^ a 6 → m < n → 0 < x → (∀ y, 0 < y → y < x → fits y = if okF a r y then 1 else 0) → ∃ fits' few' most' num', g_X6_partCompanies_10 N (nI (a 0)) (nI (a 357)) (nI (a 358)) (nI r) n (nI x) (nI (a 6)) few fits most num sums = some (nI (a 6), few', fits', most', num', sums) ∧ (∀ y, 0 < y → y < 2 ^ a 6 → fits' y = if okF a r y then 1 else 0) ∧ (∀ z, z < 2 ^ a 6 → CF (Qk (okF a r)) z num' few' most') := by
  obtain ⟨j0, j1, j2, j3, j4, j5, j6⟩ := id hI
  obtain ⟨k1, k2, k3⟩ := id hRm
  have hp := p2c j6
  intro m
  induction m with
  | zero =>
    intro x n few fits most num e1 e2 e3 hF
    obtain ⟨n, rfl⟩ : ∃ z, n = z + 1 := ⟨n - 1, by omega⟩
    obtain ⟨few', most', num', q1, q2⟩ := s_solve hN j6 (fun y h1 h2 => hF y h1 (by omega)) few most num
    exact ⟨fits, few', most', num', by rw [g_X6_partCompanies_10, z_pw j6, if_pos (nI_le (by omega) (by omega)), q1, Option.bind_some], fun y h1 h2 => hF y h1 (by omega), q2⟩
  | succ m ih =>
    intro x n few fits most num e1 e2 e3 hF
    obtain ⟨n, rfl⟩ : ∃ z, n = z + 1 := ⟨n - 1, by omega⟩
    have hsu := suF_le hI hB x
    rw [g_X6_partCompanies_10, z_pw j6, if_neg (fun h => absurd ((e_le (by omega) (by omega)).mp h) (by omega)), if_pos (in256 (by omega)), nI_clamp (by omega), hs x (by omega), nI_add, ifi (e_lt (a := a 357) (b := suF a x + a 358) (by omega) (by omega)), s_fits j0 hr (by omega) (by omega), Option.bind_some, if10, show vp_nar .boolean 0 = 0 from rfl, show vp_nar .boolean 1 = 1 from rfl, z_1]
    have go : ∀ u : Int32, u = (if okF a r x then 1 else 0) → ∃ fits' few' most' num', g_X6_partCompanies_10 N (nI (a 0)) (nI (a 357)) (nI (a 358)) (nI r) n (nI (x + 1)) (nI (a 6)) few (upd fits x u) most num sums = some (nI (a 6), few', fits', most', num', sums) ∧ (∀ y, 0 < y → y < 2 ^ a 6 → fits' y = if okF a r y then 1 else 0) ∧ (∀ z, z < 2 ^ a 6 → CF (Qk (okF a r)) z num' few' most') := by
      intro u hu
      refine ih (x + 1) n few (upd fits x u) most num (by omega) (by omega) (by omega) (fun y h1 h2 => ?_)
      rcases (show y = x ∨ y < x by omega) with rfl | h'
      · rw [upd_at, hu]
      · rw [upd_no (by omega)]; exact hF y h1 h'
    by_cases q : a 357 < suF a x + a 358
    · rw [if_pos q]; exact go 0 (by unfold okF; rw [decide_eq_false (by omega)]; rfl)
    · rw [if_neg q]
      have q' : decide (suF a x + a 358 ≤ a 357) = true := decide_eq_true (by omega)
      cases q1 : fitN (a 0) r (suF a x + a 358) with
      | false => rw [if_neg (by decide)]; exact go 0 (by unfold okF; rw [q1]; simp)
      | true => rw [if_pos rfl]; exact go 1 (by unfold okF; rw [q1, q']; rfl)
theorem s_partC {a : Nat → Nat} {f11 : Nat → Int32} {N r : Nat} (hN : 300 ≤ N) (hI : IC a) (hB : IB a) (hRm : IR a) (h11 : AR a 6 349 f11) (hr : r ≤ 3) (few fits most num sums : Nat → Int32) : ∃ fits' few' most' num' sums', g_X6_partCompanies N few fits most num sums (nI (a 0)) (nI (a 357)) (nI (a 358)) (nI (a 6)) f11 (nI r) = some (nI (a 6), few', fits', most', num', sums') ∧ (∀ y, 0 < y → y < 2 ^ a 6 → fits' y = if okF a r y then 1 else 0) ∧ (∀ z, z < 2 ^ a 6 → CF (Qk (okF a r)) z num' few' most') := by
  obtain ⟨j0, j1, j2, j3, j4, j5, j6⟩ := id hI
  have hp := p2c j6
  have hp0 := Nat.two_pow_pos (a 6)
  obtain ⟨s', q1, q2⟩ := s_addUp (N := N) (v := fun j => a (349 + j)) hN j6 h11 sums
  obtain ⟨fits', few', most', num', r1, r2, r3⟩ := s_partC_10 hN hI hB hRm hr q2 (2 ^ a 6 - 1) 1 N few fits most num (by omega) (by omega) (by decide) (fun y h1 h2 => absurd h2 (by omega))
  refine ⟨fits', few', most', num', s', ?_, r2, r3⟩
  unfold g_X6_partCompanies
  rw [q1, Option.bind_some]
  exact r1
theorem s_isTrip_12 {a : Nat → Nat} {al : Nat → Int32} {N r y : Nat} (hN : 300 ≤ N) (hI : IC a) (hB : IB a) (hRm : IR a) (hM : KM a al 0) (hr : r ≤ 3) (hy : y < 256) : ∀ (m i n : Nat), i + m = a 6 → m < n → g_X10_isTrip_12 N al (nI r) (nI y) n (nI (su (fun j => a (349 + j)) y i + a 358)) (nI i) = some (if okF a r y then 1 else 0) := by
  obtain ⟨j0, j1, j2, j3, j4, j5, j6⟩ := id hI
  obtain ⟨k1, k2, k3⟩ := id hRm
  intro m
  induction m with
  | zero =>
    intro i n e1 e2
    obtain ⟨n, rfl⟩ : ∃ z, n = z + 1 := ⟨n - 1, by omega⟩
    have e : i = a 6 := by omega
    subst e
    have hsu := suF_le hI hB y
    have hsu' : suF a y = su (fun j => a (349 + j)) y (a 6) := rfl
    rw [g_X10_isTrip_12, if_pos in6, show (6 : Int32).toNatClampNeg = 6 from rfl, hM.at (by decide), if_pos (nI_le (by omega) (by omega)), if_pos (show inb 357 1080 = true from rfl), show (357 : Int32).toNatClampNeg = 357 from rfl, hM.at (by decide), ← hsu', ifi (e_lt (a := a 357) (b := suF a y + a 358) (by omega) (by omega))]
    by_cases q : a 357 < suF a y + a 358
    · rw [if_pos q]; unfold okF; rw [decide_eq_false (by omega)]; rfl
    · rw [if_neg q, s_may (hM.at (i := 0) (by decide)) j0 hr (by omega) (by omega), Option.bind_some, if10]
      unfold okF
      rw [decide_eq_true (show suF a y + a 358 ≤ a 357 by omega), Bool.true_and]
      cases fitN (a 0) r (suF a y + a 358) <;> rfl
  | succ m ih =>
    intro i n e1 e2
    obtain ⟨n, rfl⟩ : ∃ z, n = z + 1 := ⟨n - 1, by omega⟩
    have ih' := ih (i + 1) n (by omega) (by omega)
    rw [su, tb] at ih'
    rw [g_X10_isTrip_12, if_pos in6, show (6 : Int32).toNatClampNeg = 6 from rfl, hM.at (by decide), if_neg (fun h => absurd ((e_le (by omega) (by omega)).mp h) (by omega)), ifi (z_tb (by omega) (by omega)), show (349 : Int32) + nI i = nI (349 + i) from nI_add 349 i, if_pos (in_n (by omega)), nI_clamp (by omega), hM.at (by omega), nI_add, z_1, show nI (su (fun j => a (349 + j)) y i + a 358) + 0 = nI (su (fun j => a (349 + j)) y i + a 358 + 0) from nI_add _ 0]
    cases hb : y.testBit i with
    | true =>
      rw [hb, if_pos rfl, Nat.one_mul] at ih'
      rw [if_pos rfl, show su (fun j => a (349 + j)) y i + a 358 + a (349 + i) = su (fun j => a (349 + j)) y i + a (349 + i) + a 358 by omega]
      exact ih'
    | false => rw [hb, if_neg (by decide), Nat.zero_mul] at ih'; exact ih'
theorem s_isTrip {a : Nat → Nat} {al : Nat → Int32} {N r y : Nat} (hN : 300 ≤ N) (hI : IC a) (hB : IB a) (hRm : IR a) (hM : KM a al 0) (hr : r ≤ 3) (hy : y < 256) : g_X10_isTrip N al (nI r) (nI y) = some (if okF a r y then 1 else 0) := by
  unfold g_X10_isTrip
  rw [if_pos (show inb 358 1080 = true from rfl), show (358 : Int32).toNatClampNeg = 358 from rfl, hM.at (by decide)]
  have h := s_isTrip_12 hN hI hB hRm hM hr hy (a 6) 0 N (by omega) (by have := hI.2.2.2.2.2.2; omega)
  rw [su, Nat.zero_add] at h
  exact h
/-- the least so far, while y and what is below is yet to come -/
theorem fe65 {a : Nat → Nat} {al : Nat → Int32} {N r : Nat} (hN : 300 ≤ N) (hI : IC a) (hB : IB a) (hRm : IR a) (hM : KM a al 0) (hr : r ≤ 3) (K : Int32 → Int32 → (Nat → Int32) → (Nat → Int32) → Option (Int32 × (Nat → Int32) × (Nat → Int32))) (X3 : Int32) (rf : Nat → Int32) {x : Nat} (h0 : 0 < x) (hx : x < 256) : ∀ (y n f : Nat) (tr : Nat → Int32), y < n → sb x y → tr x = nI f → f ≤ 9999 → min f (mn (fG (Qk (okF a r)) x) (y + 1)) = fP' (Qk (okF a r)) x → (∀ z, z < x → tr z = nI (fP' (Qk (okF a r)) z)) → ∃ tr', g_X10_ferry_65 N al (nI r) K n X3 (nI x) (nI y) rf tr = K X3 (nI (x + 1)) rf tr' ∧ ∀ z, z < x + 1 → tr' z = nI (fP' (Qk (okF a r)) z) := by
  have hQ := Qk_QO (okF a r)
  intro y
  induction y using Nat.strongRecOn with
  | ind y ih =>
    intro n f tr e1 hs e2 e3 e4 hR
    obtain ⟨n, rfl⟩ : ∃ z, n = z + 1 := ⟨n - 1, by omega⟩
    have hyx := sb_le hs
    rcases Nat.eq_zero_or_pos y with e | hy
    · subst e
      refine ⟨tr, by rw [g_X10_ferry_65, if_pos (show nI 0 ≤ 0 by decide), z_1], fun z hz => ?_⟩
      rcases (show z = x ∨ z < x by omega) with rfl | h
      · have hq : Qk (okF a r) z 0 = false := by
          unfold Qk
          rw [show decide (lo z 0) = false from decide_eq_false (fun h => absurd (lo_pos h) (by decide))]; simp
        rw [mn, mn, fG, hq] at e4
        simp only [Bool.false_eq_true, if_false] at e4
        exact e2.trans (congrArg nI (by omega))
      · exact hR z h
    · have hd := dn_lt (x := x) hy
      have hlt := xor_lt (n := 8) hx hs hy
      obtain ⟨-, g2, -⟩ := hQ.dn hx hy hs
      have b6 : fP' (Qk (okF a r)) (x ^^^ y) ≤ 9999 := by
        obtain ⟨b1, b2, -⟩ := P_no hQ (x ^^^ y) (by omega)
        rcases Nat.eq_zero_or_pos (nP (Qk (okF a r)) (x ^^^ y)) with h | h
        · rw [(b1 h).1]; exact Nat.le_refl _
        · have := (b2 h).1; omega
      have s2 : mn (fG (Qk (okF a r)) x) (y + 1) = min (mn (fG (Qk (okF a r)) x) y) (fG (Qk (okF a r)) x y) := rfl
      have h9 := mn_le9 (fG (Qk (okF a r)) x) y
      have skip : (Qk (okF a r) x y = false ∨ f ≤ fP' (Qk (okF a r)) (x ^^^ y) + 1) → ∃ tr', g_X10_ferry_65 N al (nI r) K n X3 (nI x) (nI ((y - 1) &&& x)) rf tr = K X3 (nI (x + 1)) rf tr' ∧ ∀ z, z < x + 1 → tr' z = nI (fP' (Qk (okF a r)) z) := by
        intro hh
        refine ih _ hd n f tr (by omega) (dn_sb x y) e2 e3 ?_ hR
        rw [← g2, ← e4, s2]
        unfold fG
        cases hq : Qk (okF a r) x y with
        | false => rw [if_neg (by decide)]; omega
        | true =>
          rw [if_pos rfl]
          rcases hh with hh | hh
          · rw [hq] at hh; exact absurd hh (by decide)
          · omega
      rw [g_X10_ferry_65, if_neg (show ¬ nI y ≤ 0 from fun h => absurd ((e_le (b := 0) (by omega) (by decide)).mp h) (by omega)), z_cut hx hs, if_pos (in256 (by omega)), Int32.and_assoc, z_low x hx, z_and, ifi (e_eq0 (a := y &&& lw x) (Nat.lt_of_le_of_lt Nat.and_le_left (by omega))), if_pos (in256 hx), nI_clamp (by omega), nI_clamp (by omega), e2, hR _ hlt, z_1, ifi (e_le (by omega) (by omega)), s_isTrip hN hI hB hRm hM hr (by omega), Option.bind_some, if10, z_sub1 (by omega), z_and]
      by_cases q1 : y &&& lw x = 0
      · rw [if_pos q1]
        exact skip (Or.inl (by unfold Qk; rw [show decide (lo x y) = false from decide_eq_false (fun h => h q1)]; simp))
      · rw [if_neg q1]
        by_cases q2 : f ≤ fP' (Qk (okF a r)) (x ^^^ y) + 1
        · rw [if_pos q2]; exact skip (Or.inr q2)
        · rw [if_neg q2]
          cases q3 : okF a r y with
          | false =>
            rw [if_neg (by decide)]
            exact skip (Or.inl (by unfold Qk; rw [q3]; simp))
          | true =>
            rw [if_pos rfl]
            have hq : Qk (okF a r) x y = true := by
              unfold Qk; rw [q3, show decide (lo x y) = true from decide_eq_true q1, show decide (sb x y) = true from decide_eq_true hs]; rfl
            refine ih _ hd n (fP' (Qk (okF a r)) (x ^^^ y) + 1) _ (by omega) (dn_sb x y) upd_at (by omega) ?_ (fun z hz => by rw [upd_no (by omega)]; exact hR z hz)
            rw [← g2, ← e4, s2]
            unfold fG
            rw [hq, if_pos rfl]; omega
theorem z_all {c : Nat} (hc : c ≤ 8) : ((1 : Int32) <<< (nI c &&& 31)) - 1 = nI (2 ^ c - 1) := by
  have := Nat.two_pow_pos c
  rw [z_pw hc, z_sub1 (by omega)]
theorem fe45 {a : Nat → Nat} {al : Nat → Int32} {N r : Nat} (hN : 300 ≤ N) (hI : IC a) (hB : IB a) (hRm : IR a) (hM : KM a al 0) (hr : r ≤ 3) (X2 : Int32) (rf : Nat → Int32) : ∀ (m x n : Nat) (tr : Nat → Int32), x + m = 2 ^ a 6 → m < n → 0 < x → (∀ z, z < x → tr z = nI (fP' (Qk (okF a r)) z)) → ∃ tr', (∀ z, z < 2 ^ a 6 → tr' z = nI (fP' (Qk (okF a r)) z)) ∧ g_X10_ferry_45 N al (nI r) X2 n (nI (2 ^ a 6 - 1)) (nI x) rf tr = (if tr' (2 ^ a 6 - 1) < 9999 then (if X2 = 0 then some (tr' (2 ^ a 6 - 1), rf, tr') else (if 2 ^ a 6 - 1 = 0 then some (tr' (2 ^ a 6 - 1), rf, tr') else g_X10_ferry_179 N al (nI r) N (nI (2 ^ a 6 - 1)) 1 rf tr')) else some ((-1), rf, tr')) := by
  obtain ⟨j0, j1, j2, j3, j4, j5, j6⟩ := id hI
  have hQ := Qk_QO (okF a r)
  have hp := p2c j6
  have hp0 := Nat.two_pow_pos (a 6)
  intro m
  induction m with
  | zero =>
    intro x n tr e1 e2 e3 hR
    obtain ⟨n, rfl⟩ : ∃ z, n = z + 1 := ⟨n - 1, by omega⟩
    refine ⟨tr, fun z hz => hR z (by omega), ?_⟩
    rw [g_X10_ferry_45, if_pos (nI_lt (by omega) (by omega)), if_pos (in256 (by omega)), nI_clamp (by omega), ifi (e_eq0 (a := 2 ^ a 6 - 1) (by omega))]
  | succ m ih =>
    intro x n tr e1 e2 e3 hR
    obtain ⟨n, rfl⟩ : ∃ z, n = z + 1 := ⟨n - 1, by omega⟩
    obtain ⟨-, f2, -⟩ := P_eq hQ (show x < 256 by omega) e3
    obtain ⟨tr1, q1, q2⟩ := fe65 hN hI hB hRm hM hr (g_X10_ferry_45 N al (nI r) X2 n) (nI (2 ^ a 6 - 1)) rf e3 (by omega) x N 9999 (upd tr x 9999) (by omega) (Nat.and_self x) upd_at (by omega) (by
        rw [f2]; have := mn_le9 (fG (Qk (okF a r)) x) (x + 1); omega) (fun z hz => by rw [upd_no (by omega)]; exact hR z hz)
    obtain ⟨tr', r1, r2⟩ := ih (x + 1) n tr1 (by omega) (by omega) (by omega) q2
    refine ⟨tr', r1, ?_⟩
    rw [g_X10_ferry_45, if_neg (fun h => absurd ((e_lt (by omega) (by omega)).mp h) (by omega)), if_pos (in256 (by omega)), nI_clamp (by omega)]
    exact q1.trans r2
theorem lw_all : ∀ c, c < 9 → 0 < c → lw (2 ^ c - 1) = 1 := by decide
/-- y may go first -/
def fst (a : Nat → Nat) (r F y : Nat) : Prop := y % 2 = 1 ∧ okF a r y = true ∧ 0 < nP (Qk (okF a r)) (F ^^^ y) ∧ fP' (Qk (okF a r)) (F ^^^ y) + 1 = fP' (Qk (okF a r)) F
theorem fe179 {a : Nat → Nat} {al tr : Nat → Int32} {N r y0 : Nat} (hN : 300 ≤ N) (hI : IC a) (hB : IB a) (hRm : IR a) (hM : KM a al 0) (hr : r ≤ 3) (rf : Nat → Int32) (ht : ∀ z, z < 2 ^ a 6 → tr z = nI (fP' (Qk (okF a r)) z)) (hF : fP' (Qk (okF a r)) (2 ^ a 6 - 1) < 9999) (h0 : y0 < 2 ^ a 6) (h1 : fst a r (2 ^ a 6 - 1) y0) (h2 : ∀ z, z < y0 → ¬ fst a r (2 ^ a 6 - 1) z) : ∀ (m y n : Nat), y + m = y0 → m < n → g_X10_ferry_179 N al (nI r) n (nI (2 ^ a 6 - 1)) (nI y) rf tr = some (nI y0, rf, tr) := by
  obtain ⟨j0, j1, j2, j3, j4, j5, j6⟩ := id hI
  have hQ := Qk_QO (okF a r)
  have hp := p2c j6
  have hp0 := Nat.two_pow_pos (a 6)
  have step : ∀ (y n : Nat), y < 2 ^ a 6 → g_X10_ferry_179 N al (nI r) (n + 1) (nI (2 ^ a 6 - 1)) (nI y) rf tr = if y % 2 = 0 then g_X10_ferry_179 N al (nI r) n (nI (2 ^ a 6 - 1)) (nI (y + 1)) rf tr else if fP' (Qk (okF a r)) (2 ^ a 6 - 1 ^^^ y) + 1 = fP' (Qk (okF a r)) (2 ^ a 6 - 1) then (if okF a r y = true then some (nI y, rf, tr) else g_X10_ferry_179 N al (nI r) n (nI (2 ^ a 6 - 1)) (nI (y + 1)) rf tr) else g_X10_ferry_179 N al (nI r) n (nI (2 ^ a 6 - 1)) (nI (y + 1)) rf tr := by
    intro y n hy
    have hs := sb_all hy
    have hxl := sb_le (sb_xor hs)
    have b6 : fP' (Qk (okF a r)) (2 ^ a 6 - 1 ^^^ y) ≤ 9999 := by
      obtain ⟨b1, b2, -⟩ := P_no hQ (2 ^ a 6 - 1 ^^^ y) (by omega)
      rcases Nat.eq_zero_or_pos (nP (Qk (okF a r)) (2 ^ a 6 - 1 ^^^ y)) with h | h
      · rw [(b1 h).1]; exact Nat.le_refl _
      · have := (b2 h).1; omega
    rw [g_X10_ferry_179, z_and1 (by omega), ifi (e_eq0 (a := y % 2) (by omega)), z_cut (by omega) hs, if_pos (in256 (by omega)), if_pos (in256 (by omega)), nI_clamp (by omega), nI_clamp (by omega), ht _ (by omega), ht _ (by omega), z_1, z_1, ifi (e_eq (a := fP' (Qk (okF a r)) (2 ^ a 6 - 1 ^^^ y) + 1) (b := fP' (Qk (okF a r)) (2 ^ a 6 - 1)) (by omega) (by omega)), s_isTrip hN hI hB hRm hM hr (by omega), Option.bind_some, if10]
  intro m
  induction m with
  | zero =>
    intro y n e1 e2
    obtain ⟨n, rfl⟩ : ∃ z, n = z + 1 := ⟨n - 1, by omega⟩
    have e : y = y0 := by omega
    subst e
    rw [step y n h0, if_neg (by have := h1.1; omega), if_pos h1.2.2.2, if_pos h1.2.1]
  | succ m ih =>
    intro y n e1 e2
    obtain ⟨n, rfl⟩ : ∃ z, n = z + 1 := ⟨n - 1, by omega⟩
    have hn := ih (y + 1) n (by omega) (by omega)
    have hno := h2 y (by omega)
    rw [step y n (by omega)]
    by_cases q1 : y % 2 = 0
    · rw [if_pos q1]; exact hn
    · rw [if_neg q1]
      by_cases q2 : fP' (Qk (okF a r)) (2 ^ a 6 - 1 ^^^ y) + 1 = fP' (Qk (okF a r)) (2 ^ a 6 - 1)
      · rw [if_pos q2]
        by_cases q3 : okF a r y = true
        · exfalso
          refine hno ⟨by omega, q3, ?_, q2⟩
          have hxl := sb_le (sb_xor (sb_all (c := a 6) (y := y) (by omega)))
          obtain ⟨b1, b2, -⟩ := P_no hQ (2 ^ a 6 - 1 ^^^ y) (by omega)
          rcases Nat.eq_zero_or_pos (nP (Qk (okF a r)) (2 ^ a 6 - 1 ^^^ y)) with h | h
          · rw [(b1 h).1] at q2; omega
          · exact h
        · rw [if_neg q3]; exact hn
      · rw [if_neg q2]; exact hn
theorem fo11 {a : Nat → Nat} {few fits num most : Nat → Int32} {r : Nat} (hI : IC a) (hr : r ≤ 3) (hf : ∀ y, 0 < y → y < 2 ^ a 6 → fits y = if okF a r y then 1 else 0) (hC : ∀ z, z < 2 ^ a 6 → CF (Qk (okF a r)) z num few most) (y n : Nat) (hy : y < 2 ^ a 6) (h0 : 0 < y) : g_X6_firstOfFewest_11 (nI (a 6)) few fits num (n + 1) (nI y) = if okF a r y = true then (if nP (Qk (okF a r)) (2 ^ a 6 - 1 ^^^ y) = 0 then g_X6_firstOfFewest_11 (nI (a 6)) few fits num n (nI (y + 2)) else if nI (fP' (Qk (okF a r)) (2 ^ a 6 - 1 ^^^ y) + 1) = few (2 ^ a 6 - 1) then some (nI y) else g_X6_firstOfFewest_11 (nI (a 6)) few fits num n (nI (y + 2))) else g_X6_firstOfFewest_11 (nI (a 6)) few fits num n (nI (y + 2)) := by
  obtain ⟨j0, j1, j2, j3, j4, j5, j6⟩ := id hI
  have hQ := Qk_QO (okF a r)
  have hp := p2c j6
  have hp0 := Nat.two_pow_pos (a 6)
  have hxl := sb_le (sb_xor (sb_all (c := a 6) (y := y) hy))
  have hn := nP_le hQ (x := 2 ^ a 6 - 1 ^^^ y) (by omega)
  obtain ⟨c1, c2, c3⟩ := hC (2 ^ a 6 - 1 ^^^ y) (by omega)
  rw [g_X6_firstOfFewest_11]
  unfold g_X6_fewest
  rw [s_all j6, Option.bind_some, Option.bind_some, Option.bind_some, if_neg (fun h => absurd ((e_lt (by omega) (by omega)).mp h) (by omega)), if_pos (in256 (by omega)), nI_clamp (by omega), hf y h0 hy, if10, z_xor, if_pos (in256 (by omega)), nI_clamp (by omega), c1, ifi (show nI (nP (Qk (okF a r)) (2 ^ a 6 - 1 ^^^ y)) ≤ 0 ↔ nP (Qk (okF a r)) (2 ^ a 6 - 1 ^^^ y) ≤ 0 from e_le (b := 0) (by omega) (by decide)), if_pos (in256 (by omega)), nI_clamp (by omega), Option.bind_some, show nI y + 2 = nI (y + 2) from nI_add y 2]
  by_cases q1 : okF a r y = true
  · rw [if_pos q1, if_pos q1]
    by_cases q2 : nP (Qk (okF a r)) (2 ^ a 6 - 1 ^^^ y) = 0
    · rw [if_pos (by omega), if_pos q2]
    · rw [if_neg (by omega), if_neg q2, (c3 (by omega)).1, z_1]
  · rw [if_neg q1, if_neg q1]
theorem fe11 {a : Nat → Nat} {few fits num most : Nat → Int32} {r y0 : Nat} (hI : IC a) (hr : r ≤ 3) (hf : ∀ y, 0 < y → y < 2 ^ a 6 → fits y = if okF a r y then 1 else 0) (hC : ∀ z, z < 2 ^ a 6 → CF (Qk (okF a r)) z num few most) (hF : fP' (Qk (okF a r)) (2 ^ a 6 - 1) < 9999) (hfew : few (2 ^ a 6 - 1) = nI (fP' (Qk (okF a r)) (2 ^ a 6 - 1))) (h0 : y0 < 2 ^ a 6) (h1 : fst a r (2 ^ a 6 - 1) y0) (h2 : ∀ z, z < y0 → ¬ fst a r (2 ^ a 6 - 1) z) : ∀ (m y n : Nat), y + 2 * m = y0 → m < n → y % 2 = 1 → g_X6_firstOfFewest_11 (nI (a 6)) few fits num n (nI y) = some (nI y0) := by
  have hQ := Qk_QO (okF a r)
  have hp := p2c hI.2.2.2.2.2.2
  have b6 : ∀ y, y < 2 ^ a 6 → 0 < nP (Qk (okF a r)) (2 ^ a 6 - 1 ^^^ y) → fP' (Qk (okF a r)) (2 ^ a 6 - 1 ^^^ y) ≤ 256 := by
    intro y hy h
    have hxl := sb_le (sb_xor (sb_all (c := a 6) (y := y) hy))
    obtain ⟨b1, b2, -⟩ := P_no hQ (2 ^ a 6 - 1 ^^^ y) (by omega)
    have := (b2 h).1; omega
  intro m
  induction m with
  | zero =>
    intro y n e1 e2 e3
    obtain ⟨n, rfl⟩ : ∃ z, n = z + 1 := ⟨n - 1, by omega⟩
    have e : y = y0 := by omega
    subst e
    have hp1 := h1.2.2.1
    rw [fo11 hI hr hf hC y n h0 (by omega), if_pos h1.2.1, if_neg (by omega), if_pos (by rw [hfew, h1.2.2.2])]
  | succ m ih =>
    intro y n e1 e2 e3
    obtain ⟨n, rfl⟩ : ∃ z, n = z + 1 := ⟨n - 1, by omega⟩
    have hn := ih (y + 2) n (by omega) (by omega) (by omega)
    have hno := h2 y (by omega)
    rw [fo11 hI hr hf hC y n (by omega) (by omega), hn]
    by_cases q1 : okF a r y = true
    · rw [if_pos q1]
      by_cases q2 : nP (Qk (okF a r)) (2 ^ a 6 - 1 ^^^ y) = 0
      · rw [if_pos q2]
      · have := b6 y (by omega) (by omega)
        rw [if_neg q2, hfew, ifi (e_eq (by omega) (by omega))]
        by_cases q3 : fP' (Qk (okF a r)) (2 ^ a 6 - 1 ^^^ y) + 1 = fP' (Qk (okF a r)) (2 ^ a 6 - 1)
        · exact absurd ⟨e3, q1, by omega, q3⟩ hno
        · rw [if_neg q3]
    · rw [if_neg q1]
theorem fe11no {a : Nat → Nat} {few fits num most : Nat → Int32} {r : Nat} (hI : IC a) (hr : r ≤ 3) (hf : ∀ y, 0 < y → y < 2 ^ a 6 → fits y = if okF a r y then 1 else 0) (hC : ∀ z, z < 2 ^ a 6 → CF (Qk (okF a r)) z num few most) (h1 : ∀ y, y < 2 ^ a 6 → y % 2 = 1 → okF a r y = true → nP (Qk (okF a r)) (2 ^ a 6 - 1 ^^^ y) = 0) : ∀ (m y n : Nat), 2 ^ a 6 ≤ y + 2 * m → y ≤ 2 ^ a 6 + 2 → m < n → y % 2 = 1 → g_X6_firstOfFewest_11 (nI (a 6)) few fits num n (nI y) = some (-1) := by
  have hp := p2c hI.2.2.2.2.2.2
  have hp0 := Nat.two_pow_pos (a 6)
  have fin : ∀ y n, 2 ^ a 6 ≤ y → y ≤ 2 ^ a 6 + 2 → 0 < n → g_X6_firstOfFewest_11 (nI (a 6)) few fits num n (nI y) = some (-1) := by
    intro y n h1 h2 h3
    obtain ⟨n, rfl⟩ : ∃ z, n = z + 1 := ⟨n - 1, by omega⟩
    rw [g_X6_firstOfFewest_11, s_all hI.2.2.2.2.2.2, Option.bind_some, if_pos (nI_lt (by omega) (by omega))]
  intro m
  induction m with
  | zero =>
    intro y n e1 e2 e3 e4
    exact fin y n (by omega) e2 e3
  | succ m ih =>
    intro y n e1 e2 e3 e4
    by_cases hy : 2 ^ a 6 ≤ y
    · exact fin y n hy e2 (by omega)
    · obtain ⟨n, rfl⟩ : ∃ z, n = z + 1 := ⟨n - 1, by omega⟩
      have hn := ih (y + 2) n (by omega) (by omega) (by omega) (by omega)
      rw [fo11 hI hr hf hC y n (by omega) (by omega), hn]
      by_cases q1 : okF a r y = true
      · rw [if_pos q1, if_pos (h1 y (by omega) e4 q1)]
      · rw [if_neg q1]
set_option maxHeartbeats 1000000 in
theorem op_ferry {WI : q_WI} {N : Nat} (hN : 300 ≤ N) : Op_ferry N (Rel WI) := by
  intro cx cf key ms y1 y2 hR
  unfold g_X9_ferry g_X10_ferry
  obtain ⟨⟨a, hI, hX, hM⟩, -⟩ := id hR
  obtain ⟨i1, i2, i3, i4, i5, i6, i7, i8, i9, i10⟩ := hI
  obtain ⟨x1, ⟨x2, x3⟩, ⟨x4, x5, x6, x7⟩, x8, x9, ⟨x10, x11⟩, x12, x13⟩ := hX
  obtain ⟨j0, j1, j2, j3, j4, j5, j6⟩ := id i1
  have hp0 := Nat.two_pow_pos (a 6)
  have hp2 := p2c j6
  rw [s_isRule, s_isRuleM, Option.bind_some, Option.bind_some, if10, if10]
  by_cases hv : wi y1 0 3 = true
  · rw [if_pos hv, if_pos hv, s_isWithin, s_in, Option.bind_some, Option.bind_some, if10, if10]
    by_cases hw : wi y2 0 1 = true
    · rw [if_pos hw, if_pos hw]
      obtain ⟨r, -, hr, rfl⟩ := wi_nI (lo := 0) (hi := 3) (by decide) (by decide) hv
      obtain ⟨k, -, hk, rfl⟩ := wi_nI (lo := 0) (hi := 1) (by decide) (by decide) hw
      have hQ := Qk_QO (okF a r)
      rw [show cx 0 = nI (a 0) from x1.1.1, show cx 1 = nI (a 357) from x1.1.2.1, show cx 2 = nI (a 358) from x1.1.2.2.1, show cx 15 = nI (a 6) from x1.2.2.2.2.2.2.2]
      obtain ⟨fits', few', most', num', sums', q1, q2, q3⟩ := s_partC hN i1 i9 i10 x13 hr (cf 44) (cf 42) (cf 45) (cf 43) (cf 41)
      obtain ⟨tr', r1, r2⟩ := fe45 hN i1 i9 i10 hM hr (nI k) (cf 67) (2 ^ a 6 - 1) 1 N (upd (cf 87) 0 0) (by omega) (by omega) (by decide) (fun z hz => by
        have e : z = 0 := by omega
        subst e
        exact upd_at)
      obtain ⟨c1, c2, c3⟩ := q3 (2 ^ a 6 - 1) (by omega)
      obtain ⟨b1, b2, b3, b4, b5⟩ := P_no hQ (2 ^ a 6 - 1) (by omega)
      have ht := r1 (2 ^ a 6 - 1) (by omega)
      rw [q1, Option.bind_some, if_pos in6, if_pos (show inb 0 256 = true from rfl), show (6 : Int32).toNatClampNeg = 6 from rfl, show (0 : Int32).toNatClampNeg = 0 from rfl, hM.at (i := 6) (by decide), z_all j6, show g_X10_ferry_45 N (cf 65) (nI r) (nI k) N (nI (2 ^ a 6 - 1)) 1 (cf 67) (upd (cf 87) 0 0) = _ from r2]
      dsimp only
      unfold g_X6_fewest
      rw [s_all j6, Option.bind_some, if_pos (in256 (by omega)), nI_clamp (by omega)]
      by_cases h : nP (Qk (okF a r)) (2 ^ a 6 - 1) = 0
      · have hz : 2 ^ a 6 - 1 ≠ 0 := by
          intro hz
          rw [hz] at h
          exact absurd (show (1 : Nat) = 0 from h) (by decide)
        have ha : 0 < a 6 := by
          rcases Nat.eq_zero_or_pos (a 6) with e | e
          · rw [e] at hz; exact absurd rfl hz
          · exact e
        rw [if_neg (show ¬ tr' (2 ^ a 6 - 1) < 9999 from by
          rw [ht, (b1 h).1]; decide)]
        rcases (show k = 0 ∨ k = 1 by omega) with rfl | rfl
        · rw [if_pos (show nI 0 = 0 from rfl)]
          exact ⟨_, _, rfl, rfl, (c2 h).1, Rel_ext hR rfl rfl⟩
        · unfold g_X6_firstOfFewest
          have hno := fe11no i1 hr q2 q3 (fun y hy h1 h2 => by
            have hq : Qk (okF a r) (2 ^ a 6 - 1) y = true := by
              unfold Qk
              rw [h2, show decide (sb (2 ^ a 6 - 1) y) = true from decide_eq_true (sb_all hy), show decide (lo (2 ^ a 6 - 1) y) = true from decide_eq_true (by
                show y &&& lw (2 ^ a 6 - 1) ≠ 0
                rw [lw_all _ (by omega) ha, Nat.and_one_is_mod]; omega)]
              rfl
            rcases Nat.eq_zero_or_pos (nP (Qk (okF a r)) (2 ^ a 6 - 1 ^^^ y)) with e | e
            · exact e
            · exfalso
              have h3 := (P_eq hQ (show 2 ^ a 6 - 1 < 256 by omega) (by omega)).1
              rw [h] at h3
              have h4 : ∀ K, y < K → 0 < sm (nG (Qk (okF a r)) (2 ^ a 6 - 1)) K := by
                intro K
                induction K with
                | zero => intro hh; omega
                | succ K ihK =>
                  intro hh
                  rw [sm]
                  rcases (show y = K ∨ y < K by omega) with rfl | h'
                  · have : nG (Qk (okF a r)) (2 ^ a 6 - 1) y = nP (Qk (okF a r)) (2 ^ a 6 - 1 ^^^ y) := by unfold nG; rw [hq, if_pos rfl]
                    omega
                  · have := ihK h'; omega
              have := h4 (2 ^ a 6 - 1 + 1) (by omega)
              omega) (2 ^ a 6) 1 N (by omega) (by omega) (by omega) (by decide)
          rw [if_neg (show ¬ nI 1 = 0 by decide), ifi (e_eq0 (a := a 6) (by omega)), if_neg (by omega), show g_X6_firstOfFewest_11 (nI (a 6)) few' fits' num' N 1 = some (-1) from hno, Option.bind_some]
          exact ⟨_, _, rfl, rfl, rfl, Rel_ext hR rfl rfl⟩
      · obtain ⟨b7, b8⟩ := b2 (by omega)
        obtain ⟨c4, c5⟩ := c3 (by omega)
        rw [if_pos (show tr' (2 ^ a 6 - 1) < 9999 from by rw [ht]; exact nI_lt (b := 9999) (by omega) (by decide))]
        rcases (show k = 0 ∨ k = 1 by omega) with rfl | rfl
        · rw [if_pos (show nI 0 = 0 from rfl), if_pos (show nI 0 = 0 from rfl)]
          exact ⟨_, _, rfl, rfl, c4.trans ht.symm, Rel_ext hR rfl rfl⟩
        · unfold g_X6_firstOfFewest
          rw [if_neg (show ¬ nI 1 = 0 by decide), if_neg (show ¬ nI 1 = 0 by decide), ifi (e_eq0 (a := a 6) (by omega))]
          by_cases hz : a 6 = 0
          · rw [if_pos hz, if_pos (by rw [hz]), Option.bind_some]
            refine ⟨_, _, rfl, rfl, ?_, Rel_ext hR rfl rfl⟩
            show (0 : Int32) = tr' (2 ^ a 6 - 1)
            rw [ht, hz]; rfl
          · have hpp : 2 ≤ 2 ^ a 6 := by
              have : 2 ^ 1 ≤ 2 ^ a 6 := Nat.pow_le_pow_right (by decide) (by omega)
              omega
            rw [if_neg hz, if_neg (by omega)]
            obtain ⟨y0, f1, f2⟩ := pk_least (fst a r (2 ^ a 6 - 1)) (by
              have e2 := (P_eq hQ (show 2 ^ a 6 - 1 < 256 by omega) (by omega)).2.1
              obtain ⟨y, g1, g2⟩ := mn_ex (g := fG (Qk (okF a r)) (2 ^ a 6 - 1)) (2 ^ a 6 - 1 + 1) (by rw [← e2]; omega)
              rw [← e2] at g2
              unfold fG at g2
              cases hq : Qk (okF a r) (2 ^ a 6 - 1) y with
              | false => rw [hq, if_neg (by decide)] at g2; omega
              | true =>
                rw [hq, if_pos rfl] at g2
                have hlo := (hQ _ y (by omega) (by omega) hq).2
                have hok : okF a r y = true := by
                  unfold Qk at hq
                  rw [Bool.and_eq_true] at hq
                  exact hq.2
                have hodd : y % 2 = 1 := by
                  have hlo' : y &&& lw (2 ^ a 6 - 1) ≠ 0 := hlo
                  rw [lw_all _ (by omega) (by omega), Nat.and_one_is_mod] at hlo'
                  omega
                refine ⟨y, hodd, hok, ?_, g2⟩
                have hlt := hQ.lt (show 2 ^ a 6 - 1 < 256 by omega) (by omega) hq
                rcases Nat.eq_zero_or_pos (nP (Qk (okF a r)) (2 ^ a 6 - 1 ^^^ y)) with e | e
                · have := ((P_no hQ (2 ^ a 6 - 1 ^^^ y) (by omega)).1 e).1
                  omega
                · exact e)
            have hy0 : y0 < 2 ^ a 6 := by
              rcases Nat.lt_or_ge y0 (2 ^ a 6) with q | q
              · exact q
              · exfalso
                have e2 := (P_eq hQ (show 2 ^ a 6 - 1 < 256 by omega) (by omega)).2.1
                obtain ⟨y, g1, g2⟩ := mn_ex (g := fG (Qk (okF a r)) (2 ^ a 6 - 1)) (2 ^ a 6 - 1 + 1) (by rw [← e2]; omega)
                rw [← e2] at g2
                unfold fG at g2
                cases hq : Qk (okF a r) (2 ^ a 6 - 1) y with
                | false => rw [hq, if_neg (by decide)] at g2; omega
                | true =>
                  rw [hq, if_pos rfl] at g2
                  have hlo := (hQ _ y (by omega) (by omega) hq).2
                  have hok : okF a r y = true := by
                    unfold Qk at hq
                    rw [Bool.and_eq_true] at hq
                    exact hq.2
                  have hodd : y % 2 = 1 := by
                    have hlo' : y &&& lw (2 ^ a 6 - 1) ≠ 0 := hlo
                    rw [lw_all _ (by omega) (by omega), Nat.and_one_is_mod] at hlo'
                    omega
                  refine f2 y (by omega) ⟨hodd, hok, ?_, g2⟩
                  have hlt := hQ.lt (show 2 ^ a 6 - 1 < 256 by omega) (by omega) hq
                  rcases Nat.eq_zero_or_pos (nP (Qk (okF a r)) (2 ^ a 6 - 1 ^^^ y)) with e | e
                  · have := ((P_no hQ (2 ^ a 6 - 1 ^^^ y) (by omega)).1 e).1
                    omega
                  · exact e
            have hodd := f1.1
            rw [show g_X6_firstOfFewest_11 (nI (a 6)) few' fits' num' N 1 = some (nI y0) from fe11 i1 hr q2 q3 (by omega) c4 hy0 f1 f2 ((y0 - 1) / 2) 1 N (by omega) (by omega) (by decide), Option.bind_some, show g_X10_ferry_179 N (cf 65) (nI r) N (nI (2 ^ a 6 - 1)) 1 (cf 67) tr' = some (nI y0, cf 67, tr') from fe179 hN i1 i9 i10 hM hr (cf 67) r1 (by omega) hy0 f1 f2 (y0 - 1) 1 N (by omega) (by omega)]
            exact ⟨_, _, rfl, rfl, rfl, Rel_ext hR rfl rfl⟩
    · rw [if_neg hw, if_neg hw, s_refB, s_refMB]
      exact ⟨_, _, rfl, rfl, rfl, Rel_ext (Rel_rfd 0 hR) rfl rfl⟩
  · rw [if_neg hv, if_neg hv, s_refB, s_refMB]
    exact ⟨_, _, rfl, rfl, rfl, Rel_ext (Rel_rfd 0 hR) rfl rfl⟩
