/-! sets of things: reference -/
theorem z_tb0 {v p : Nat} (hv : v < 2147483648) (hp : p < 32) : ((nI v >>> (nI p &&& 31)) &&& 1 = 0) ↔ v.testBit p = false := by
  rw [z_shr hv hp, z_and1 (Nat.lt_of_le_of_lt (Nat.div_le_self _ _) (by omega)), tb]
  cases v.testBit p
  · simp only [iff_true]; decide
  · simp only [Bool.true_eq_false, iff_false]; decide
theorem s_isCompany_61 {a : Nat → Nat} {al : Nat → Int32} (hI : IC a) (hN' : IN a) (hM : KM a al 0) {y s : Nat} (hy : y < 256) (hs : s < 1000) (fl : Bool) : ∀ (m i n : Nat), i + m = a 5 → m < n → g_X10_isCompany_61 al (nI y) n (nI s) (if fl && ctd a y s i then 1 else 0) (nI i) = some (if fl && ctd a y s (a 5) then 1 else 0) := by
  obtain ⟨j0, j1, j2, j3, j4, j5, j6⟩ := id hI
  intro m
  induction m with
  | zero =>
    intro i n e1 e2
    obtain ⟨n, rfl⟩ : ∃ z, n = z + 1 := ⟨n - 1, by omega⟩
    have e : i = a 5 := by omega
    rw [g_X10_isCompany_61, if_pos in5, show (5 : Int32).toNatClampNeg = 5 from rfl, hM.at (by decide), if_pos (nI_le (by omega) (by omega)), if_pos (zb_if _), e]
  | succ m ih =>
    intro i n e1 e2
    obtain ⟨n, rfl⟩ : ∃ z, n = z + 1 := ⟨n - 1, by omega⟩
    have hn := hN' i (by omega)
    have ih' := ih (i + 1) n (by omega) (by omega)
    rw [show ctd a y s (i + 1) = (ctd a y s i && (!(y.testBit (a (337 + i))) || decide (s = a (341 + i)))) from rfl, ← Bool.and_assoc] at ih'
    rw [g_X10_isCompany_61, if_pos in5, show (5 : Int32).toNatClampNeg = 5 from rfl, hM.at (by decide), if_neg (fun h => absurd ((e_le (by omega) (by omega)).mp h) (by omega)), if10, show (337 : Int32) + nI i = nI (337 + i) from nI_add 337 i, show (341 : Int32) + nI i = nI (341 + i) from nI_add 341 i, if_pos (in_n (by omega)), if_pos (in_n (by omega)), nI_clamp (by omega), nI_clamp (by omega), hM.at (by omega), hM.at (by omega), ifi (z_tb0 (by omega) (by omega)), ifi (e_eq (by omega) (by omega)), z_1, ← ih']
    cases fl && ctd a y s i with
    | false => rfl
    | true =>
      cases y.testBit (a (337 + i)) with
      | false => rfl
      | true =>
        by_cases q : a (341 + i) = s
        · rw [if_pos q]; simp [q]
        · rw [if_neg q]; simp [Ne.symm q]
theorem s_isCompany_5 {a : Nat → Nat} {al : Nat → Int32} {N r : Nat} (hN : 300 ≤ N) (hI : IC a) (hK : IK a) (hN' : IN a) (hM : KM a al 0) (hr : r ≤ 3) {y : Nat} (hy : y < 256) : ∀ (m i n : Nat), i + m = a 4 → m < n → g_X10_isCompany_5 N al (nI r) (nI y) n (nI (su (fun j => a (329 + j)) y i)) (nI i) = some (if okK a r y then 1 else 0) := by
  obtain ⟨j0, j1, j2, j3, j4, j5, j6⟩ := id hI
  intro m
  induction m with
  | zero =>
    intro i n e1 e2
    obtain ⟨n, rfl⟩ : ∃ z, n = z + 1 := ⟨n - 1, by omega⟩
    have e : i = a 4 := by omega
    have hsu : su (fun j => a (329 + j)) y (a 4) ≤ 9 * a 4 := su_le (b := 9) _ (fun j hj => (hK j hj).2)
    rw [g_X10_isCompany_5, if_pos in4, show (4 : Int32).toNatClampNeg = 4 from rfl, hM.at (by decide), if_pos (nI_le (by omega) (by omega)), e, s_may (hM.at (i := 0) (by decide)) j0 hr (by omega) (by omega), Option.bind_some]
    have h := s_isCompany_61 hI hN' hM hy (s := su (fun j => a (329 + j)) y (a 4)) (by omega) (fitN (a 0) r (su (fun j => a (329 + j)) y (a 4))) (a 5) 0 N (by omega) (by omega)
    rw [show ctd a y (su (fun j => a (329 + j)) y (a 4)) 0 = true from rfl, Bool.and_true] at h
    exact h
  | succ m ih =>
    intro i n e1 e2
    obtain ⟨n, rfl⟩ : ∃ z, n = z + 1 := ⟨n - 1, by omega⟩
    have ih' := ih (i + 1) n (by omega) (by omega)
    rw [su, tb] at ih'
    rw [g_X10_isCompany_5, if_pos in4, show (4 : Int32).toNatClampNeg = 4 from rfl, hM.at (by decide), if_neg (fun h => absurd ((e_le (by omega) (by omega)).mp h) (by omega)), ifi (z_tb (by omega) (by omega)), show (329 : Int32) + nI i = nI (329 + i) from nI_add 329 i, if_pos (in_n (by omega)), nI_clamp (by omega), hM.at (by omega), nI_add, z_1, show nI (su (fun j => a (329 + j)) y i) + 0 = nI (su (fun j => a (329 + j)) y i + 0) from nI_add _ 0]
    cases hb : y.testBit i with
    | true => rw [hb, if_pos rfl, Nat.one_mul] at ih'; exact ih'
    | false => rw [hb, if_neg (by decide), Nat.zero_mul] at ih'; exact ih'
theorem s_isCompany {a : Nat → Nat} {al : Nat → Int32} {N r : Nat} (hN : 300 ≤ N) (hI : IC a) (hK : IK a) (hN' : IN a) (hM : KM a al 0) (hr : r ≤ 3) {y : Nat} (hy : y < 256) : g_X10_isCompany N al (nI r) (nI y) = some (if okK a r y then 1 else 0) := s_isCompany_5 hN hI hK hN' hM hr hy (a 4) 0 N (by omega) (by have := hI.2.2.2.2.1; omega)
theorem i_add1 {x : Int32} {m : Int} (h : x.toInt = m) (h1 : -20000 ≤ m) (h2 : m ≤ 20000) : (x + 1).toInt = m + 1 := by
  rw [Int32.toInt_add, h, show (1 : Int32).toInt = 1 from rfl]
  unfold Int.bmod
  simp only [Int.reducePow, Nat.reducePow]
  split <;> omega
theorem z_cut {x y : Nat} (hx : x < 256) (h : sb x y) : nI x &&& (nI y ^^^ (-1)) = nI (x ^^^ y) := by
  rw [show (-1 : Int32) = nI 4294967295 from rfl, z_xor, z_and]
  congr 1
  apply Nat.eq_of_testBit_eq
  intro i
  rw [Nat.testBit_and, Nat.testBit_xor, Nat.testBit_xor, show (4294967295 : Nat) = 2 ^ 32 - 1 from rfl, Nat.testBit_two_pow_sub_one]
  by_cases hi : i < 32
  · have := sb_iff.mp h i
    cases hxi : x.testBit i <;> cases hyi : y.testBit i <;> simp [hi, hxi, hyi] at this ⊢
  · have e1 : x.testBit i = false := Nat.testBit_lt_two_pow (Nat.lt_of_lt_of_le hx (show 2 ^ 8 ≤ 2 ^ i from Nat.pow_le_pow_right (by decide) (by omega)))
    have e2 : y.testBit i = false := by
      cases hyi : y.testBit i with
      | false => rfl
      | true => rw [sb_iff.mp h i hyi] at e1; exact absurd e1 (by decide)
    rw [e1, e2]; rfl
/-- no part splits the pair -/
def okP (ok : Nat → Bool) (p y : Nat) : Bool := ok y && (decide (y &&& p = 0) || decide (y &&& p = p))
def MR (Q : Nat → Nat → Bool) (z : Nat) (few most parts : Nat → Int32) : Prop := parts z = nI (nP Q z) ∧ few z = nI (fP' Q z) ∧ (most z).toInt = mP Q z
/-- what the reference holds of x while y and what is below is yet to come -/
def MI (Q : Nat → Nat → Bool) (x y : Nat) (few most parts : Int32) : Prop := ∃ (n f : Nat) (m : Int), parts = nI n ∧ few = nI f ∧ most.toInt = m ∧ n + sm (nG Q x) (y + 1) = nP Q x ∧ f ≤ 9999 ∧ min f (mn (fG Q x) (y + 1)) = fP' Q x ∧ -9999 ≤ m ∧ m ≤ 300 ∧ max m (mxi (mG Q x) (y + 1)) = mP Q x
theorem QO.dn {Q : Nat → Nat → Bool} (h : QO Q) {x y : Nat} (hx : x < 256) (h0 : 0 < y) (hy : sb x y) : sm (nG Q x) y = sm (nG Q x) (((y - 1) &&& x) + 1) ∧ mn (fG Q x) y = mn (fG Q x) (((y - 1) &&& x) + 1) ∧ mxi (mG Q x) y = mxi (mG Q x) (((y - 1) &&& x) + 1) := by
  have hl := dn_lt (x := x) h0
  have hyx := sb_le hy
  have hno : ∀ j, ((y - 1) &&& x) + 1 ≤ j → j < ((y - 1) &&& x) + 1 + (y - (((y - 1) &&& x) + 1)) → Q x j = false := by
    intro j h1 h2
    cases hq : Q x j with
    | false => rfl
    | true =>
      have hs := (h x j hx (by omega) hq).1
      have := sub_dn 8 x y (by omega) h0 hy j hs (by omega)
      omega
  have g1 := sm_gap (g := nG Q x) (((y - 1) &&& x) + 1) (y - (((y - 1) &&& x) + 1)) (fun j h1 h2 => by rw [nG, hno j h1 h2]; rfl)
  have g2 := mn_gap (g := fG Q x) (((y - 1) &&& x) + 1) (y - (((y - 1) &&& x) + 1)) (fun j h1 h2 => by rw [fG, hno j h1 h2]; exact Nat.le_refl _)
  have g3 := mxi_gap (g := mG Q x) (((y - 1) &&& x) + 1) (y - (((y - 1) &&& x) + 1)) (fun j h1 h2 => by rw [mG, hno j h1 h2]; exact Int.le_refl _)
  rw [show ((y - 1) &&& x) + 1 + (y - (((y - 1) &&& x) + 1)) = y by omega] at g1 g2 g3
  exact ⟨g1, g2, g3⟩
theorem MI.skip {Q : Nat → Nat → Bool} (h : QO Q) {x y : Nat} {few most parts : Int32} (hx : x < 256) (h0 : 0 < y) (hy : sb x y) (hq : Q x y = false) (hM : MI Q x y few most parts) : MI Q x ((y - 1) &&& x) few most parts := by
  obtain ⟨n, f, m, m1, m2, m3, m4, m5, m6, m7, m8, m9⟩ := hM
  obtain ⟨g1, g2, g3⟩ := h.dn hx h0 hy
  have e1 : sm (nG Q x) (y + 1) = sm (nG Q x) y := by rw [sm, nG, hq]; rfl
  have e2 : mn (fG Q x) (y + 1) = mn (fG Q x) y := by
    have := mn_le9 (fG Q x) y
    rw [mn, fG, hq, if_neg (by decide)]; omega
  have e3 : mxi (mG Q x) (y + 1) = mxi (mG Q x) y := by
    have := mxi_ge9 (mG Q x) y
    rw [mxi, mG, hq, if_neg (by decide)]; omega
  exact ⟨n, f, m, m1, m2, m3, by rw [← g1, ← e1]; exact m4, m5, by rw [← g2, ← e2]; exact m6, m7, m8, by rw [← g3, ← e3]; exact m9⟩
theorem okP_QO (ok : Nat → Bool) (p : Nat) : QO (Qk (okP ok p)) := Qk_QO _
theorem s_fp69 {a : Nat → Nat} {al : Nat → Int32} {N r p : Nat} (hN : 300 ≤ N) (hI : IC a) (hK : IK a) (hN' : IN a) (hM : KM a al 0) (hr : r ≤ 3) (hp : p < 256) (K : Int32 → (Nat → Int32) → (Nat → Int32) → (Nat → Int32) → Option ((Nat → Int32) × (Nat → Int32) × (Nat → Int32))) {x : Nat} (h0 : 0 < x) (hx : x < 256) : ∀ (y n : Nat) (few most parts : Nat → Int32), y < n → sb x y → MI (Qk (okP (okK a r) p)) x y (few x) (most x) (parts x) → (∀ z, z < x → MR (Qk (okP (okK a r) p)) z few most parts) → ∃ few' most' parts', g_X10_findParts_69 N al (nI r) (nI p) K n (nI x) (nI (lw x)) (nI y) few most parts = K (nI (x + 1)) few' most' parts' ∧ ∀ z, z < x + 1 → MR (Qk (okP (okK a r) p)) z few' most' parts' := by
  have hQ := okP_QO (okK a r) p
  intro y
  induction y using Nat.strongRecOn with
  | ind y ih =>
    intro n few most parts e1 hs hMI hR
    obtain ⟨n, rfl⟩ : ∃ z, n = z + 1 := ⟨n - 1, by omega⟩
    have hyx := sb_le hs
    rcases Nat.eq_zero_or_pos y with e | hy
    · subst e
      refine ⟨few, most, parts, by rw [g_X10_findParts_69, if_pos (show nI 0 ≤ 0 by decide), z_1], fun z hz => ?_⟩
      rcases (show z = x ∨ z < x by omega) with rfl | h
      · obtain ⟨n', f, m, m1, m2, m3, m4, m5, m6, m7, m8, m9⟩ := hMI
        have hq : Qk (okP (okK a r) p) z 0 = false := by
          unfold Qk
          rw [show decide (lo z 0) = false from decide_eq_false (fun h => absurd (lo_pos h) (by decide))]; simp
        rw [sm, sm, nG, hq] at m4
        rw [mn, mn, fG, hq] at m6
        rw [mxi, mxi, mG, hq] at m9
        simp only [Bool.false_eq_true, if_false] at m4 m6 m9
        exact ⟨m1.trans (congrArg nI (by omega)), m2.trans (congrArg nI (by omega)), m3.trans (by omega)⟩
      · exact hR z h
    · have hd := dn_lt (x := x) hy
      have hsk : Qk (okP (okK a r) p) x y = false → ∃ few' most' parts', g_X10_findParts_69 N al (nI r) (nI p) K n (nI x) (nI (lw x)) (nI ((y - 1) &&& x)) few most parts = K (nI (x + 1)) few' most' parts' ∧ ∀ z, z < x + 1 → MR (Qk (okP (okK a r) p)) z few' most' parts' := fun hq => ih _ hd n few most parts (by omega) (dn_sb x y) (hMI.skip hQ hx hy hs hq) hR
      have hk : ∀ (t : Int32) (few most parts : Nat → Int32), g_X10_findParts_94 N al (nI r) (g_X10_findParts_69 N al (nI r) (nI p) K n) (nI x) (nI (lw x)) (nI y) t few most parts = if y &&& lw x = 0 then g_X10_findParts_69 N al (nI r) (nI p) K n (nI x) (nI (lw x)) (nI ((y - 1) &&& x)) few most parts else if t = 0 then g_X10_findParts_69 N al (nI r) (nI p) K n (nI x) (nI (lw x)) (nI ((y - 1) &&& x)) few most parts else if okK a r y = true then (if few (x) ≤ few (x ^^^ y) + 1 then g_X10_findParts_184 (g_X10_findParts_69 N al (nI r) (nI p) K n) (nI x) (nI (lw x)) (nI y) (nI (x ^^^ y)) (nI x) (few x) few most (upd parts x (parts x + parts (x ^^^ y))) else g_X10_findParts_184 (g_X10_findParts_69 N al (nI r) (nI p) K n) (nI x) (nI (lw x)) (nI y) (nI (x ^^^ y)) (nI x) (few (x ^^^ y) + 1) few most (upd parts x (parts x + parts (x ^^^ y)))) else g_X10_findParts_69 N al (nI r) (nI p) K n (nI x) (nI (lw x)) (nI ((y - 1) &&& x)) few most parts := by
        intro t few most parts
        have hlt := xor_lt (n := 8) hx hs hy
        unfold g_X10_findParts_94
        rw [z_and, ifi (e_eq0 (a := y &&& lw x) (Nat.lt_of_le_of_lt Nat.and_le_left (by omega))), z_sub1 (by omega), z_and, s_isCompany hN hI hK hN' hM hr (by omega), Option.bind_some, if10, z_cut hx hs, if_pos (in256 hx), if_pos (in256 (by omega)), nI_clamp (by omega), nI_clamp (by omega)]
      have h89 : g_X10_findParts_69 N al (nI r) (nI p) K (n + 1) (nI x) (nI (lw x)) (nI y) few most parts = g_X10_findParts_94 N al (nI r) (g_X10_findParts_69 N al (nI r) (nI p) K n) (nI x) (nI (lw x)) (nI y) (if decide (y &&& p = 0) || decide (y &&& p = p) then 1 else 0) few most parts := by
        rw [g_X10_findParts_69, if_neg (show ¬ nI y ≤ 0 from fun h => absurd ((e_le (b := 0) (by omega) (by decide)).mp h) (by omega)), z_and, ifi (e_eq0 (a := y &&& p) (Nat.lt_of_le_of_lt Nat.and_le_left (by omega))), ifi (e_eq (a := y &&& p) (b := p) (Nat.lt_of_le_of_lt Nat.and_le_left (by omega)) (by omega))]
        unfold g_X10_findParts_89
        by_cases q1 : y &&& p = 0
        · rw [if_pos q1, decide_eq_true q1]; rfl
        · rw [if_neg q1, decide_eq_false q1]
          by_cases q2 : y &&& p = p
          · rw [if_pos q2, decide_eq_true q2]; rfl
          · rw [if_neg q2, decide_eq_false q2]; rfl
      rw [h89, hk]
      by_cases q1 : y &&& lw x = 0
      · rw [if_pos q1]
        exact hsk (by unfold Qk; rw [show decide (lo x y) = false from decide_eq_false (fun h => h q1)]; simp)
      · rw [if_neg q1, if10]
        cases q2 : (decide (y &&& p = 0) || decide (y &&& p = p)) with
        | false =>
          rw [if_neg (by decide)]
          exact hsk (by unfold Qk okP; rw [q2]; simp)
        | true =>
          rw [if_pos rfl]
          cases q3 : okK a r y with
          | false =>
            rw [if_neg (by decide)]
            exact hsk (by unfold Qk okP; rw [q3]; simp)
          | true =>
            rw [if_pos rfl]
            have hq : Qk (okP (okK a r) p) x y = true := by
              unfold Qk okP; rw [q3, q2, show decide (lo x y) = true from decide_eq_true q1, show decide (sb x y) = true from decide_eq_true hs]; rfl
            have hlt := hQ.lt hx h0 hq
            obtain ⟨r1, r2, r3⟩ := hR _ hlt
            obtain ⟨n', f, m, m1, m2, m3, m4, m5, m6, m7, m8, m9⟩ := hMI
            obtain ⟨b1, b2, b3, b4, b5⟩ := P_no hQ (x ^^^ y) (by omega)
            have b6 : fP' (Qk (okP (okK a r) p)) (x ^^^ y) ≤ 9999 := by
              rcases Nat.eq_zero_or_pos (nP (Qk (okP (okK a r) p)) (x ^^^ y)) with h | h
              · rw [(b1 h).1]; exact Nat.le_refl _
              · have := (b2 h).1; omega
            have h184 : ∀ (t2 : Int32) (parts : Nat → Int32), t2 = nI (min f (fP' (Qk (okP (okK a r) p)) (x ^^^ y) + 1)) → ∃ most', (most' x).toInt = max m (mP (Qk (okP (okK a r) p)) (x ^^^ y) + 1) ∧ (∀ z, z ≠ x → most' z = most z) ∧ g_X10_findParts_184 (g_X10_findParts_69 N al (nI r) (nI p) K n) (nI x) (nI (lw x)) (nI y) (nI (x ^^^ y)) (nI x) t2 few most parts = g_X10_findParts_69 N al (nI r) (nI p) K n (nI x) (nI (lw x)) (nI ((y - 1) &&& x)) (upd few x t2) most' parts := by
              intro t2 parts ht
              unfold g_X10_findParts_184
              rw [if_pos (in256 hx), if_pos (in256 (by omega)), if_pos (in256 hx), nI_clamp (by omega), nI_clamp (by omega), z_sub1 (by omega), z_and]
              have ha := i_add1 r3 (by omega) (by omega)
              by_cases c : most (x ^^^ y) + 1 ≤ most x
              · refine ⟨upd most x (most x), ?_, fun z hz => upd_no hz, by rw [if_pos c]⟩
                rw [Int32.le_iff_toInt_le, ha, m3] at c
                rw [upd_at, m3]; omega
              · refine ⟨upd most x (most (x ^^^ y) + 1), ?_, fun z hz => upd_no hz, by rw [if_neg c]⟩
                rw [Int32.le_iff_toInt_le, ha, m3] at c
                rw [upd_at, ha]; omega
            have fin : ∀ t2 : Int32, t2 = nI (min f (fP' (Qk (okP (okK a r) p)) (x ^^^ y) + 1)) → ∃ few' most' parts', g_X10_findParts_184 (g_X10_findParts_69 N al (nI r) (nI p) K n) (nI x) (nI (lw x)) (nI y) (nI (x ^^^ y)) (nI x) t2 few most (upd parts x (parts x + parts (x ^^^ y))) = K (nI (x + 1)) few' most' parts' ∧ ∀ z, z < x + 1 → MR (Qk (okP (okK a r) p)) z few' most' parts' := by
              intro t2 ht
              obtain ⟨most', k1, k2, k3⟩ := h184 t2 (upd parts x (parts x + parts (x ^^^ y))) ht
              rw [k3]
              obtain ⟨g1, g2, g3⟩ := hQ.dn hx hy hs
              have s1 : sm (nG (Qk (okP (okK a r) p)) x) (y + 1) = sm (nG (Qk (okP (okK a r) p)) x) y + nP (Qk (okP (okK a r) p)) (x ^^^ y) := by rw [sm, nG, hq, if_pos rfl]
              have s2 : mn (fG (Qk (okP (okK a r) p)) x) (y + 1) = min (mn (fG (Qk (okP (okK a r) p)) x) y) (fP' (Qk (okP (okK a r) p)) (x ^^^ y) + 1) := by rw [mn, fG, hq, if_pos rfl]
              have s3 : mxi (mG (Qk (okP (okK a r) p)) x) (y + 1) = max (mxi (mG (Qk (okP (okK a r) p)) x) y) (mP (Qk (okP (okK a r) p)) (x ^^^ y) + 1) := by rw [mxi, mG, hq, if_pos rfl]
              refine ih _ hd n _ _ _ (by omega) (dn_sb x y) ⟨n' + nP (Qk (okP (okK a r) p)) (x ^^^ y), min f (fP' (Qk (okP (okK a r) p)) (x ^^^ y) + 1), max m (mP (Qk (okP (okK a r) p)) (x ^^^ y) + 1), ?_, ?_, k1, ?_, by omega, ?_, by omega, by omega, ?_⟩ (fun z hz => ?_)
              · rw [upd_at, m1, r1, nI_add]
              · rw [upd_at, ht]
              · rw [← g1]; omega
              · rw [← g2]; omega
              · rw [← g3]; omega
              · obtain ⟨u1, u2, u3⟩ := hR z hz
                exact ⟨by rw [upd_no (by omega)]; exact u1, by rw [upd_no (by omega)]; exact u2, by rw [k2 z (by omega)]; exact u3⟩
            rw [m2, r2, z_1, ifi (e_le (by omega) (by omega))]
            by_cases c : f ≤ fP' (Qk (okP (okK a r) p)) (x ^^^ y) + 1
            · rw [if_pos c]; exact fin _ (by rw [show min f (fP' (Qk (okP (okK a r) p)) (x ^^^ y) + 1) = f by omega])
            · rw [if_neg c]; exact fin _ (by rw [show min f (fP' (Qk (okP (okK a r) p)) (x ^^^ y) + 1) = fP' (Qk (okP (okK a r) p)) (x ^^^ y) + 1 by omega])
theorem s_fp23 {a : Nat → Nat} {al : Nat → Int32} {N r p : Nat} (hN : 300 ≤ N) (hI : IC a) (hK : IK a) (hN' : IN a) (hM : KM a al 0) (hr : r ≤ 3) (hp : p < 256) : ∀ (m x n : Nat) (few most parts : Nat → Int32), x + m = 2 ^ a 4 → m < n → 0 < x → (∀ z, z < x → MR (Qk (okP (okK a r) p)) z few most parts) → ∃ few' most' parts', g_X10_findParts_23 N al (nI r) (nI p) n (nI x) few most parts = some (few', most', parts') ∧ ∀ z, z < 2 ^ a 4 → MR (Qk (okP (okK a r) p)) z few' most' parts' := by
  have hQ := okP_QO (okK a r) p
  obtain ⟨j0, j1, j2, j3, j4, j5, j6⟩ := id hI
  have hp2 := p2c j4
  intro m
  induction m with
  | zero =>
    intro x n few most parts e1 e2 e3 hR
    obtain ⟨n, rfl⟩ : ∃ z, n = z + 1 := ⟨n - 1, by omega⟩
    exact ⟨few, most, parts, by rw [g_X10_findParts_23, if_pos in4, show (4 : Int32).toNatClampNeg = 4 from rfl, hM.at (by decide), z_pw j4, if_pos (nI_le (by omega) (by omega))], fun z hz => hR z (by omega)⟩
  | succ m ih =>
    intro x n few most parts e1 e2 e3 hR
    obtain ⟨n, rfl⟩ : ∃ z, n = z + 1 := ⟨n - 1, by omega⟩
    obtain ⟨f1, f2, f3⟩ := P_eq hQ (show x < 256 by omega) e3
    obtain ⟨few1, most1, parts1, q1, q2⟩ := s_fp69 hN hI hK hN' hM hr hp (g_X10_findParts_23 N al (nI r) (nI p) n) e3 (by omega) x N (upd few x 9999) (upd most x (-9999)) (upd parts x 0) (by omega) (Nat.and_self x) (by
        refine ⟨0, 9999, -9999, by rw [upd_at]; rfl, by rw [upd_at]; rfl, by rw [upd_at]; rfl, ?_, by omega, ?_, by omega, by omega, ?_⟩
        · rw [f1, Nat.zero_add]
        · rw [f2]; have := mn_le9 (fG (Qk (okP (okK a r) p)) x) (x + 1); omega
        · rw [f3]; have := mxi_ge9 (mG (Qk (okP (okK a r) p)) x) (x + 1); omega)
      (fun z hz => by
        obtain ⟨u1, u2, u3⟩ := hR z hz
        exact ⟨by rw [upd_no (by omega)]; exact u1, by rw [upd_no (by omega)]; exact u2, by rw [upd_no (by omega)]; exact u3⟩)
    obtain ⟨few', most', parts', r1, r2⟩ := ih (x + 1) n few1 most1 parts1 (by omega) (by omega) (by omega) q2
    refine ⟨few', most', parts', ?_, r2⟩
    rw [g_X10_findParts_23, if_pos in4, show (4 : Int32).toNatClampNeg = 4 from rfl, hM.at (by decide), z_pw j4, if_neg (fun h => absurd ((e_le (by omega) (by omega)).mp h) (by omega)), if_pos (in256 (by omega)), nI_clamp (by omega), z_low x (by omega)]
    exact q1.trans r1
theorem s_findParts {a : Nat → Nat} {al : Nat → Int32} {N r p : Nat} (hN : 300 ≤ N) (hI : IC a) (hK : IK a) (hN' : IN a) (hM : KM a al 0) (hr : r ≤ 3) (hp : p < 256) (few most parts : Nat → Int32) : ∃ few' most' parts', g_X10_findParts N al few most parts (nI r) (nI p) = some (few', most', parts') ∧ ∀ z, z < 2 ^ a 4 → MR (Qk (okP (okK a r) p)) z few' most' parts' := by
  have hp0 := Nat.two_pow_pos (a 4)
  have hp2 := p2c hI.2.2.2.2.1
  unfold g_X10_findParts
  rw [if_pos (show inb 0 256 = true from rfl)]
  exact s_fp23 hN hI hK hN' hM hr hp (2 ^ a 4 - 1) 1 N _ _ _ (by omega) (by omega) (by decide) (fun z hz => by
    have e : z = 0 := by omega
    subst e
    exact ⟨rfl, rfl, rfl⟩)
theorem okP_0 (ok : Nat → Bool) : okP ok 0 = ok := by
  funext y
  unfold okP
  rw [Nat.and_zero]
  simp
theorem s_allKnots {a : Nat → Nat} {al : Nat → Int32} (hI : IC a) (hM : KM a al 0) : g_X10_allKnots al = some (nI (2 ^ a 4 - 1)) := by
  have hp0 := Nat.two_pow_pos (a 4)
  unfold g_X10_allKnots
  rw [if_pos in4, show (4 : Int32).toNatClampNeg = 4 from rfl, hM.at (by decide), z_pw hI.2.2.2.2.1, z_sub1 (by omega)]
