/-! partings, together -/
theorem CF.few {Q : Nat → Nat → Bool} {z : Nat} {num few most : Nat → Int32} (h : CF Q z num few most) : num z = nI (nP Q z) := h.1
set_option maxHeartbeats 1000000 in
theorem op_partings {WI : q_WI} {N : Nat} (hN : 300 ≤ N) : Op_partings N (Rel WI) := by
  intro cx cf key ms y1 y2 hR
  unfold g_X9_partings g_X10_partings
  rw [s_isRule, s_isRuleM, Option.bind_some, Option.bind_some, if10, if10]
  have hrf : ∀ x : Int32, g_X9_refuse (cf 36) (-2) x = some (x, rfd (cf 36) 0) := fun x => rfl
  by_cases hv : wi y1 0 3 = true
  · rw [if_pos hv, if_pos hv, s_isWithin, s_in, Option.bind_some, Option.bind_some, if10, if10]
    by_cases hw : wi y2 0 2 = true
    · rw [if_pos hw, if_pos hw]
      obtain ⟨r, -, hr, rfl⟩ := wi_nI (lo := 0) (hi := 3) (by decide) (by decide) hv
      obtain ⟨k, -, hk, rfl⟩ := wi_nI (lo := 0) (hi := 2) (by decide) (by decide) hw
      obtain ⟨⟨a, hI, hX, hM⟩, -⟩ := id hR
      obtain ⟨i1, i2, i3, i4, i5, i6, i7, i8, i9, i10⟩ := hI
      obtain ⟨x1, ⟨x2, x3⟩, ⟨x4, x5, x6, x7⟩, x8, x9, ⟨x10, x11⟩, x12, x13⟩ := hX
      obtain ⟨j0, j1, j2, j3, j4, j5, j6⟩ := id i1
      have hp0 := Nat.two_pow_pos (a 4)
      have hp2 := p2c j4
      rw [show cx 0 = nI (a 0) from x1.1.1, show cx 11 = nI (a 4) from x1.2.2.2.1, show cx 12 = nI (a 5) from x1.2.2.2.2.1, show cx 13 = nI (a 5) from x1.2.2.2.2.2.1]
      obtain ⟨fits', few', most', num', sums', q1, q2, q3⟩ := s_partKnots hN i1 i6 i7 x9 x10 x11 hr (cf 44) (cf 42) (cf 45) (cf 43) (cf 41)
      obtain ⟨fewM, mostM, partsM, r1, r2⟩ := s_findParts (p := 0) hN i1 i6 i7 hM hr (by decide) (cf 81) (cf 82) (cf 80)
      rw [okP_0] at r2
      obtain ⟨c1, c2, c3⟩ := q3 (2 ^ a 4 - 1) (by omega)
      obtain ⟨d1, d2, d3⟩ := r2 (2 ^ a 4 - 1) (by omega)
      have hn := nP_le (Qk_QO (okK a r)) (x := 2 ^ a 4 - 1) (by omega)
      obtain ⟨b1, b2, b3, b4, b5⟩ := P_no (Qk_QO (okK a r)) (2 ^ a 4 - 1) (by omega)
      rw [q1, Option.bind_some, show g_X10_findParts N (cf 65) (cf 81) (cf 82) (cf 80) (nI r) 0 = some (fewM, mostM, partsM) from r1, Option.bind_some, s_allKnots i1 hM, Option.bind_some, if_pos (in256 (by omega)), if_pos (in256 (by omega)), nI_clamp (by omega)]
      dsimp only
      unfold g_X6_number g_X6_fewest g_X6_most
      rw [s_all j4, Option.bind_some, Option.bind_some, Option.bind_some, if_pos (in256 (by omega)), if_pos (in256 (by omega)), if_pos (in256 (by omega)), nI_clamp (by omega), ifi (show partsM (2 ^ a 4 - 1) = 0 ↔ nP (Qk (okK a r)) (2 ^ a 4 - 1) = 0 from by rw [d1]; exact e_eq0 (by omega))]
      rcases (show k = 0 ∨ k = 1 ∨ k = 2 by omega) with rfl | rfl | rfl
      · rw [if_pos (show nI 0 = 0 from rfl), if_pos (show nI 0 = 0 from rfl)]
        exact ⟨_, _, rfl, rfl, c1.trans d1.symm, Rel_ext hR rfl rfl⟩
      · rw [if_neg (show ¬ nI 1 = 0 by decide), if_pos (show nI 1 = 1 from rfl), if_neg (show ¬ nI 1 = 0 by decide), if_pos (show nI 1 = 1 from rfl)]
        by_cases h : nP (Qk (okK a r)) (2 ^ a 4 - 1) = 0
        · rw [if_pos h]
          exact ⟨_, _, rfl, rfl, (c2 h).1, Rel_ext hR rfl rfl⟩
        · rw [if_neg h]
          exact ⟨_, _, rfl, rfl, (c3 (by omega)).1.trans d2.symm, Rel_ext hR rfl rfl⟩
      · rw [if_neg (show ¬ nI 2 = 0 by decide), if_neg (show ¬ nI 2 = 1 by decide), if_neg (show ¬ nI 2 = 0 by decide), if_neg (show ¬ nI 2 = 1 by decide)]
        by_cases h : nP (Qk (okK a r)) (2 ^ a 4 - 1) = 0
        · rw [if_pos h]
          exact ⟨_, _, rfl, rfl, (c2 h).2, Rel_ext hR rfl rfl⟩
        · rw [if_neg h]
          refine ⟨_, _, rfl, rfl, (c3 (by omega)).2.trans ?_, Rel_ext hR rfl rfl⟩
          apply Int32.toInt_inj.mp
          have := (b2 (by omega)).2
          rw [nI_toInt (by omega)]
          show _ = (mostM (2 ^ a 4 - 1)).toInt
          rw [d3]; omega
    · rw [if_neg hw, if_neg hw, s_refAB, hrf]
      exact ⟨_, _, rfl, rfl, rfl, Rel_ext (Rel_rfd 0 hR) rfl rfl⟩
  · rw [if_neg hv, if_neg hv, s_refAB, hrf]
    exact ⟨_, _, rfl, rfl, rfl, Rel_ext (Rel_rfd 0 hR) rfl rfl⟩
theorem sb_tr {x y C : Nat} (hC : sb x C) : sb (x ^^^ C) y ↔ sb x y ∧ sb (x ^^^ y) C := by
  rw [sb_iff] at hC
  constructor
  · intro h
    rw [sb_iff] at h
    refine ⟨sb_iff.mpr fun i hi => ?_, sb_iff.mpr fun i hi => ?_⟩
    · have h1 := h i hi
      have h2 := hC i
      rw [Nat.testBit_xor] at h1
      cases hx : x.testBit i with
      | true => rfl
      | false =>
        cases hc : C.testBit i with
        | true => exact absurd (h2 hc) (by rw [hx]; decide)
        | false => rw [hx, hc] at h1; exact absurd h1 (by decide)
    · have h2 := hC i hi
      have h1 := h i
      rw [Nat.testBit_xor, h2, hi] at h1
      rw [Nat.testBit_xor, h2]
      cases hy : y.testBit i with
      | false => rfl
      | true => exact absurd (h1 hy) (by decide)
  · rintro ⟨h1, h2⟩
    rw [sb_iff] at h1 h2 ⊢
    intro i hi
    have h3 := h1 i hi
    rw [Nat.testBit_xor, h3]
    cases hc : C.testBit i with
    | false => rfl
    | true =>
      have h4 := h2 i hc
      rw [Nat.testBit_xor, h3, hi] at h4
      exact absurd h4 (by decide)
theorem and_no {x y p : Nat} (h : sb x y) (h2 : x &&& p = 0) : y &&& p = 0 := by
  apply Nat.eq_of_testBit_eq
  intro i
  have h3 := congrArg (fun z => z.testBit i) h2
  simp only [Nat.testBit_and, Nat.zero_testBit] at h3 ⊢
  have h4 := sb_iff.mp h i
  cases hy : y.testBit i with
  | false => rfl
  | true => rw [h4 hy] at h3; exact h3
theorem and_p {x p : Nat} : x &&& p = p ↔ sb x p := by
  unfold sb
  rw [Nat.and_comm]
theorem and_xo {x y p : Nat} (h : y &&& p = p) (hs : sb x y) : (x ^^^ y) &&& p = 0 := by
  apply Nat.eq_of_testBit_eq
  intro i
  have h1 := sb_iff.mp (and_p.mp h) i
  have h2 := sb_iff.mp hs i
  rw [Nat.testBit_and, Nat.testBit_xor, Nat.zero_testBit]
  cases hp : p.testBit i with
  | false => simp
  | true => rw [h1 hp, h2 (h1 hp)]; rfl
theorem and_xp {x y p : Nat} (h : x &&& p = p) (hy : y &&& p = 0) : (x ^^^ y) &&& p = p := by
  apply Nat.eq_of_testBit_eq
  intro i
  have h1 := sb_iff.mp (and_p.mp h) i
  have h2 := congrArg (fun z => z.testBit i) hy
  simp only [Nat.testBit_and, Nat.zero_testBit] at h2
  rw [Nat.testBit_and, Nat.testBit_xor]
  cases hp : p.testBit i with
  | false => simp
  | true => rw [hp, Bool.and_true] at h2; rw [h1 hp, h2]; rfl
theorem sm_256 {Q : Nat → Nat → Bool} (hQ : QO Q) {x : Nat} (hx : x < 256) (h0 : 0 < x) : nP Q x = sm (nG Q x) 256 := by
  rw [(P_eq hQ hx h0).1]
  have := sm_gap (g := nG Q x) (x + 1) (256 - (x + 1)) (fun j h1 h2 => by
    unfold nG
    cases hq : Q x j with
    | false => rfl
    | true => have := sb_le (hQ x j hx h0 hq).1; omega)
  rw [show x + 1 + (256 - (x + 1)) = 256 by omega] at this
  exact this.symm
theorem nP_dis {ok : Nat → Bool} {p : Nat} : ∀ x, x < 256 → x &&& p = 0 → nP (Qk (okP ok p)) x = nP (Qk ok) x := by
  intro x
  induction x using Nat.strongRecOn with
  | ind x ih =>
    intro h1 h2
    rcases Nat.eq_zero_or_pos x with e | e
    · subst e; exact (P_0 _).1.trans (P_0 _).1.symm
    · rw [sm_256 (Qk_QO _) h1 e, sm_256 (Qk_QO _) h1 e]
      refine sm_cg _ (fun y _ => ?_)
      by_cases hs : sb x y
      · have h3 := and_no hs h2
        have hq : Qk (okP ok p) x y = Qk ok x y := by
          unfold Qk okP
          rw [h3]; simp
        unfold nG
        rw [hq]
        cases hq2 : Qk ok x y with
        | false => rw [if_neg (by decide), if_neg (by decide)]
        | true =>
          rw [if_pos rfl, if_pos rfl]
          have := (Qk_QO ok).lt h1 e hq2
          exact ih _ this (by omega) (and_no (sb_xor hs) h2)
      · have k1 : Qk (okP ok p) x y = false := by unfold Qk; rw [decide_eq_false hs]; rfl
        have k2 : Qk ok x y = false := by unfold Qk; rw [decide_eq_false hs]; rfl
        unfold nG
        rw [k1, k2, if_neg (by decide), if_neg (by decide)]
def hP (ok : Nat → Bool) (p x C : Nat) : Nat := if sb x C ∧ C &&& p = p ∧ ok C = true then nP (Qk ok) (x ^^^ C) else 0
theorem nP_pair {ok : Nat → Bool} {p : Nat} (hp : 0 < p) : ∀ x, x < 256 → x &&& p = p → nP (Qk (okP ok p)) x = sm (hP ok p x) 256 := by
  intro x
  induction x using Nat.strongRecOn with
  | ind x ih =>
    intro h1 h2
    have h0 : 0 < x := by
      rcases Nat.eq_zero_or_pos x with e | e
      · subst e; rw [Nat.zero_and] at h2; omega
      · exact e
    rw [sm_256 (Qk_QO _) h1 h0]
    have hAB : ∀ y, y < 256 → nG (Qk (okP ok p)) x y = (if Qk ok x y = true ∧ y &&& p = p then nP (Qk ok) (x ^^^ y) else 0) + sm (fun C => if Qk ok x y = true ∧ y &&& p = 0 then hP ok p (x ^^^ y) C else 0) 256 := by
      intro y _
      rw [← sm_if]
      unfold nG
      have hb : Qk (okP ok p) x y = (Qk ok x y && (decide (y &&& p = 0) || decide (y &&& p = p))) := by
        unfold Qk okP
        rw [Bool.and_assoc, Bool.and_assoc, Bool.and_assoc]
      rw [hb]
      cases hq : Qk ok x y with
      | false => rw [Bool.false_and, if_neg (by decide), if_neg (by simp), if_neg (by simp)]
      | true =>
        have hs := ((Qk_QO ok) x y h1 h0 hq).1
        have hlt := (Qk_QO ok).lt h1 h0 hq
        rw [Bool.true_and]
        by_cases q1 : y &&& p = 0
        · have q2 : ¬ y &&& p = p := by omega
          rw [decide_eq_true q1, Bool.true_or, if_pos rfl, if_neg (fun h => q2 h.2), if_pos ⟨rfl, q1⟩, Nat.zero_add]
          exact ih _ hlt (by omega) (and_xp h2 q1)
        · rw [decide_eq_false q1, Bool.false_or, if_neg (c := true = true ∧ y &&& p = 0) (fun h => q1 h.2), Nat.add_zero]
          by_cases q2 : y &&& p = p
          · rw [decide_eq_true q2, if_pos rfl, if_pos ⟨rfl, q2⟩]
            exact nP_dis _ (by omega) (and_xo q2 hs)
          · rw [decide_eq_false q2, if_neg (by decide), if_neg (fun h => q2 h.2)]
    rw [sm_cg 256 hAB, sm_add, sm_swap, ← sm_add]
    refine sm_cg _ (fun C hC => ?_)
    by_cases c1 : sb x C ∧ C &&& p = p ∧ ok C = true
    · obtain ⟨c2, c3, c4⟩ := c1
      have hh : hP ok p x C = nP (Qk ok) (x ^^^ C) := by unfold hP; rw [if_pos ⟨c2, c3, c4⟩]
      rw [hh]
      by_cases c5 : lo x C
      · have hq : Qk ok x C = true := by unfold Qk; rw [decide_eq_true c2, decide_eq_true c5, c4]; rfl
        rw [if_pos ⟨hq, c3⟩, sm_0 256 (fun y _ => ?_), Nat.add_zero]
        by_cases e : Qk ok x y = true ∧ y &&& p = 0
        · rw [if_pos e]
          unfold hP
          rw [if_neg]
          rintro ⟨e1, -, -⟩
          obtain ⟨e2, e3⟩ := (Qk_QO ok) x y h1 h0 e.1
          obtain ⟨t, ht, f1, f2, f3⟩ := lw_ex x h1 h0
          rw [lo_iff f1] at e3 c5
          have := sb_iff.mp e1 t c5
          rw [Nat.testBit_xor, f2, e3] at this
          exact absurd this (by decide)
        · rw [if_neg e]
      · have hq : ¬ Qk ok x C = true := by unfold Qk; rw [decide_eq_false c5]; simp
        obtain ⟨l1, l2⟩ := lw_no h1 c2 c5 h0
        have hxl : x ^^^ C < 256 := by have := sb_le (sb_xor c2); omega
        rw [if_neg (fun h => hq h.1), Nat.zero_add, sm_256 (Qk_QO ok) hxl l2]
        refine sm_cg _ (fun y _ => ?_)
        have hlo : decide (lo (x ^^^ C) y) = decide (lo x y) := by unfold lo; rw [l1]
        unfold nG hP
        rw [show x ^^^ C ^^^ y = x ^^^ y ^^^ C by rw [Nat.xor_assoc, Nat.xor_comm C y, ← Nat.xor_assoc]]
        by_cases d : sb (x ^^^ C) y
        · obtain ⟨d1, d2⟩ := (sb_tr c2).mp d
          have d3 : y &&& p = 0 := and_no d (and_xo c3 c2)
          have hqq : Qk ok (x ^^^ C) y = Qk ok x y := by unfold Qk; rw [hlo, decide_eq_true d, decide_eq_true d1]
          rw [hqq]
          cases hq3 : Qk ok x y with
          | false => rw [if_neg (show ¬ (false = true ∧ y &&& p = 0) from fun h => absurd h.1 (by decide)), if_neg (show ¬ false = true by decide)]
          | true => rw [if_pos rfl, if_pos ⟨rfl, d3⟩, if_pos ⟨d2, c3, c4⟩]
        · have hqq : Qk ok (x ^^^ C) y = false := by unfold Qk; rw [decide_eq_false d]; rfl
          rw [hqq, if_neg (show ¬ false = true by decide)]
          by_cases e : Qk ok x y = true ∧ y &&& p = 0
          · rw [if_pos e, if_neg]
            rintro ⟨e1, -, -⟩
            exact d ((sb_tr c2).mpr ⟨((Qk_QO ok) x y h1 h0 e.1).1, e1⟩)
          · rw [if_neg e]
    · have hh : hP ok p x C = 0 := by unfold hP; rw [if_neg c1]
      rw [hh, if_neg, sm_0 256 (fun y _ => ?_)]
      · by_cases e : Qk ok x y = true ∧ y &&& p = 0
        · rw [if_pos e]
          unfold hP
          rw [if_neg]
          rintro ⟨e1, e2, e3⟩
          have hs := ((Qk_QO ok) x y h1 h0 e.1).1
          refine c1 ⟨sb_iff.mpr fun i hi => sb_iff.mp (sb_xor hs) i (sb_iff.mp e1 i hi), e2, e3⟩
        · rw [if_neg e]
      · rintro ⟨e1, e2⟩
        have hs := ((Qk_QO ok) x C h1 h0 e1).1
        have hok : ok C = true := by
          unfold Qk at e1
          rw [Bool.and_eq_true] at e1
          exact e1.2
        exact c1 ⟨hs, e2, hok⟩
theorem sb_all {c y : Nat} (h : y < 2 ^ c) : sb (2 ^ c - 1) y := by
  rw [sb_iff]
  intro i hi
  rw [Nat.testBit_two_pow_sub_one]
  rcases Nat.lt_or_ge i c with q | q
  · simpa using q
  · rw [Nat.testBit_lt_two_pow (Nat.lt_of_lt_of_le h (Nat.pow_le_pow_right (by decide) q))] at hi
    exact absurd hi (by decide)
theorem pair_iff {p q y : Nat} : y &&& (2 ^ p ||| 2 ^ q) = (2 ^ p ||| 2 ^ q) ↔ y.testBit p = true ∧ y.testBit q = true := by
  rw [and_p, sb_iff]
  constructor
  · intro h
    exact ⟨h p (by rw [Nat.testBit_or, Nat.testBit_two_pow]; simp), h q (by rw [Nat.testBit_or, Nat.testBit_two_pow, Nat.testBit_two_pow]; simp)⟩
  · rintro ⟨h1, h2⟩ i hi
    rw [Nat.testBit_or, Nat.testBit_two_pow, Nat.testBit_two_pow, Bool.or_eq_true, decide_eq_true_eq, decide_eq_true_eq] at hi
    rcases hi with rfl | rfl
    · exact h1
    · exact h2
theorem s_numberWith_5 {ok : Nat → Bool} {fits num : Nat → Int32} {c p q : Nat} (hc : c ≤ 8) (hp : p < c) (hq : q < c) (hf : ∀ y, 0 < y → y < 2 ^ c → fits y = if ok y then 1 else 0) (hn : ∀ z, z < 2 ^ c → num z = nI (nP (Qk ok) z)) : ∀ (m y n : Nat), y + m = 2 ^ c → m < n → 0 < y → g_X6_numberWith_5 (nI c) fits num (nI p) (nI q) n (nI (sm (hP ok (2 ^ p ||| 2 ^ q) (2 ^ c - 1)) y)) (nI y) = some (nI (sm (hP ok (2 ^ p ||| 2 ^ q) (2 ^ c - 1)) (2 ^ c))) := by
  have hp2 := p2c hc
  have hp0 := Nat.two_pow_pos c
  intro m
  induction m with
  | zero =>
    intro y n e1 e2 e3
    obtain ⟨n, rfl⟩ : ∃ z, n = z + 1 := ⟨n - 1, by omega⟩
    rw [g_X6_numberWith_5, s_all hc, Option.bind_some, if_pos (nI_lt (by omega) (by omega)), show y = 2 ^ c by omega]
  | succ m ih =>
    intro y n e1 e2 e3
    obtain ⟨n, rfl⟩ : ∃ z, n = z + 1 := ⟨n - 1, by omega⟩
    have ih' := ih (y + 1) n (by omega) (by omega) (by omega)
    have hxl := sb_le (sb_xor (sb_all (c := c) (y := y) (by omega)))
    rw [sm] at ih'
    rw [g_X6_numberWith_5, s_all hc, Option.bind_some, if_neg (fun h => absurd ((e_lt (by omega) (by omega)).mp h) (by omega)), ifi (z_tb (by omega) (by omega)), ifi (z_tb (by omega) (by omega)), if_pos (in256 (by omega)), nI_clamp (by omega), hf y e3 (by omega), if10, Option.bind_some, z_xor, if_pos (in256 (by omega)), nI_clamp (by omega), hn _ (by omega), nI_add, z_1]
    by_cases q1 : y.testBit p = true
    · rw [if_pos q1]
      by_cases q2 : y.testBit q = true
      · rw [if_pos q2]
        by_cases q3 : ok y = true
        · rw [if_pos q3]
          rw [show hP ok (2 ^ p ||| 2 ^ q) (2 ^ c - 1) y = nP (Qk ok) (2 ^ c - 1 ^^^ y) from if_pos ⟨sb_all (by omega), pair_iff.mpr ⟨q1, q2⟩, q3⟩] at ih'
          exact ih'
        · rw [if_neg q3]
          rw [show hP ok (2 ^ p ||| 2 ^ q) (2 ^ c - 1) y = 0 from if_neg (fun h => q3 h.2.2)] at ih'
          exact ih'
      · rw [if_neg q2]
        rw [show hP ok (2 ^ p ||| 2 ^ q) (2 ^ c - 1) y = 0 from if_neg (fun h => q2 (pair_iff.mp h.2.1).2)] at ih'
        exact ih'
    · rw [if_neg q1]
      rw [show hP ok (2 ^ p ||| 2 ^ q) (2 ^ c - 1) y = 0 from if_neg (fun h => q1 (pair_iff.mp h.2.1).1)] at ih'
      exact ih'
theorem gcd_step (a b : Nat) : Nat.gcd a b = Nat.gcd b (a % b) := by
  rw [Nat.gcd_comm a b, Nat.gcd_rec b a, Nat.gcd_comm]
theorem s_common_4 : ∀ (b a n : Nat), b < n → a < 2147483648 → b < 2147483648 → g_X10_common_4 n (nI a) (nI b) = some (nI (Nat.gcd a b)) := by
  intro b
  induction b using Nat.strongRecOn with
  | ind b ih =>
    intro a n h1 h2 h3
    obtain ⟨n, rfl⟩ : ∃ z, n = z + 1 := ⟨n - 1, by omega⟩
    rw [g_X10_common_4, ifi (e_eq0 h3)]
    by_cases h : b = 0
    · rw [if_pos h, h, Nat.gcd_zero_right]
    · have hm := Nat.mod_lt a (show 0 < b by omega)
      rw [if_neg h, if_pos (nI_ne0 (by omega) h3), z_rem h2 (by omega) h3, gcd_step]
      exact ih (a % b) hm b n (by omega) h3 (by omega)
theorem s_keep_8 {x1 x2 : Nat} (ab be : Int32) : ∀ (k a b s n : Nat), b < 2 ^ k → s + 2 * k ≤ 63 → 2 * k + 1 < n → a < 2147483648 → b < 2147483648 → 0 < Nat.gcd a b → g_X9_keepFraction_8 (nI x1) (nI x2) n (nI a) (nI b) (nI s) ab be = some (nI x1 / nI (Nat.gcd a b), nI x2 / nI (Nat.gcd a b)) := by
  have stop : ∀ (a s n : Nat), s ≤ 63 → 0 < n → a < 2147483648 → 0 < a → g_X9_keepFraction_8 (nI x1) (nI x2) n (nI a) (nI 0) (nI s) ab be = some (nI x1 / nI a, nI x2 / nI a) := by
    intro a s n h1 h2 h3 h4
    obtain ⟨n, rfl⟩ : ∃ z, n = z + 1 := ⟨n - 1, by omega⟩
    rw [g_X9_keepFraction_8, if_neg (show ¬ 64 ≤ nI s from fun h => absurd ((e_le (a := 64) (by decide) (by omega)).mp h) (by omega)), if_pos (show nI 0 = 0 from rfl), if_neg (show ¬ nI a ≤ 0 from fun h => absurd ((e_le (a := a) (b := 0) (by omega) (by decide)).mp h) (by omega)), if_pos (nI_ne0 h4 h3)]
  intro k
  induction k with
  | zero =>
    intro a b s n h1 h2 h3 h4 h5 h6
    have e : b = 0 := by omega
    subst e
    rw [Nat.gcd_zero_right] at h6 ⊢
    exact stop a s n (by omega) (by omega) h4 h6
  | succ k ih =>
    intro a b s n h1 h2 h3 h4 h5 h6
    rcases Nat.eq_zero_or_pos b with e | hb
    · subst e
      rw [Nat.gcd_zero_right] at h6 ⊢
      exact stop a s n (by omega) (by omega) h4 h6
    · obtain ⟨n, rfl⟩ : ∃ z, n = z + 1 := ⟨n - 1, by omega⟩
      have hm := Nat.mod_lt a hb
      rw [gcd_step] at h6 ⊢
      rw [g_X9_keepFraction_8, if_neg (show ¬ 64 ≤ nI s from fun h => absurd ((e_le (a := 64) (by decide) (by omega)).mp h) (by omega)), if_neg (nI_ne0 hb h5), if_pos (nI_ne0 hb h5), z_rem h4 hb h5, z_1]
      rcases Nat.eq_zero_or_pos (a % b) with e | hr
      · rw [e] at h6 ⊢
        rw [Nat.gcd_zero_right] at h6 ⊢
        exact stop b (s + 1) n (by omega) (by omega) h5 h6
      · obtain ⟨n, rfl⟩ : ∃ z, n = z + 1 := ⟨n - 1, by omega⟩
        have hm2 := Nat.mod_lt b hr
        rw [gcd_step] at h6 ⊢
        rw [g_X9_keepFraction_8, if_neg (show ¬ 64 ≤ nI (s + 1) from fun h => absurd ((e_le (a := 64) (by decide) (by omega)).mp h) (by omega)), if_neg (nI_ne0 hr (by omega)), if_pos (nI_ne0 hr (by omega)), z_rem h5 hr (by omega), z_1]
        refine ih (a % b) (b % (a % b)) (s + 1 + 1) n ?_ (by omega) (by omega) (by omega) (by omega) h6
        rw [Nat.pow_succ] at h1
        have hd := Nat.div_add_mod b (a % b)
        have hq : 1 ≤ b / (a % b) := Nat.div_pos (by omega) hr
        have : (a % b) * 1 ≤ (a % b) * (b / (a % b)) := Nat.mul_le_mul_left _ hq
        omega
theorem Rel_frac {WI : q_WI} {cx : Nat → Int32} {cf : Nat → Nat → Int32} {key ms : Int64} (u v : Int32) (hR : Rel WI cx cf key ms) : Rel WI (va_up (va_up (va_up (va_up cx 49 u) 50 v) 77 u) 78 v) cf key ms := by
  obtain ⟨⟨a, ha⟩, ⟨b0, b1, c1, c2, c3, c4, c5, c6, c7⟩, hF, hRR, hW⟩ := hR
  refine ⟨⟨a, ha.cgL rfl rfl (fun _ _ => rfl)⟩, ⟨b0, b1, c1, c2, c3, c4, c5, ?_, ?_⟩, ⟨rfl, rfl⟩, hRR, hW⟩
  · intro hb; obtain ⟨a, ha⟩ := c6 hb; exact ⟨a, ha.cgL rfl rfl (fun _ _ => rfl)⟩
  · intro hb; obtain ⟨a, ha⟩ := c7 hb; exact ⟨a, ha.cgL rfl rfl (fun _ _ => rfl)⟩
set_option maxHeartbeats 2000000 in
theorem op_together {WI : q_WI} {N : Nat} (hN : 5000 ≤ N) : Op_together N (Rel WI) := by
  intro cx cf key ms y1 y2 y3 hR
  unfold g_X9_together g_X10_together
  obtain ⟨⟨a, hI, hX, hM⟩, -⟩ := id hR
  obtain ⟨i1, i2, i3, i4, i5, i6, i7, i8, i9, i10⟩ := hI
  obtain ⟨x1, ⟨x2, x3⟩, ⟨x4, x5, x6, x7⟩, x8, x9, ⟨x10, x11⟩, x12, x13⟩ := hX
  obtain ⟨j0, j1, j2, j3, j4, j5, j6⟩ := id i1
  have hp0 := Nat.two_pow_pos (a 4)
  have hp2 := p2c j4
  have h4 : cf 65 4 = nI (a 4) := hM.at (by decide)
  rw [s_isRule, s_isRuleM, Option.bind_some, Option.bind_some, if10, if10]
  by_cases hv : wi y1 0 3 = true
  · rw [if_pos hv, if_pos hv, show cx 11 = nI (a 4) from x1.2.2.2.1, s_isKnot, s_isKnotM h4, Option.bind_some, Option.bind_some, if10, if10]
    by_cases hw : kn y2 (a 4) = true
    · rw [if_pos hw, if_pos hw, s_isKnot, s_isKnotM h4, Option.bind_some, Option.bind_some, if10, if10]
      by_cases hz : kn y3 (a 4) = true
      · rw [if_pos hz, if_pos hz]
        obtain ⟨r, -, hr, rfl⟩ := wi_nI (lo := 0) (hi := 3) (by decide) (by decide) hv
        obtain ⟨p, hp, rfl⟩ := kn_of (by omega) hw
        obtain ⟨q, hq, rfl⟩ := kn_of (by omega) hz
        rw [ifi (e_eq (a := p) (b := q) (by omega) (by omega)), ifi (e_eq (a := p) (b := q) (by omega) (by omega))]
        by_cases hpq : p = q
        · rw [if_pos hpq, if_pos hpq, s_refB, s_refMB]
          exact ⟨_, _, rfl, rfl, rfl, Rel_ext (Rel_rfd 0 hR) rfl rfl⟩
        · rw [if_neg hpq, if_neg hpq, show cx 0 = nI (a 0) from x1.1.1, show cx 12 = nI (a 5) from x1.2.2.2.2.1, show cx 13 = nI (a 5) from x1.2.2.2.2.2.1]
          obtain ⟨fits', few', most', num', sums', q1, q2, q3⟩ := s_partKnots (N := N) (by omega) i1 i6 i7 x9 x10 x11 hr (cf 44) (cf 42) (cf 45) (cf 43) (cf 41)
          obtain ⟨fewM, mostM, partsM, r1, r2⟩ := s_findParts (N := N) (p := 0) (by omega) i1 i6 i7 hM hr (by decide) (cf 81) (cf 82) (cf 80)
          rw [okP_0] at r2
          have hpm : 2 ^ p ||| 2 ^ q < 256 := Nat.or_lt_two_pow (n := 8) (Nat.pow_lt_pow_right (by decide) (by omega)) (Nat.pow_lt_pow_right (by decide) (by omega))
          obtain ⟨fewP, mostP, partsP, v1, v2⟩ := s_findParts (N := N) (p := 2 ^ p ||| 2 ^ q) (by omega) i1 i6 i7 hM hr hpm fewM mostM partsM
          obtain ⟨c1, c2, c3⟩ := q3 (2 ^ a 4 - 1) (by omega)
          obtain ⟨d1, d2, d3⟩ := r2 (2 ^ a 4 - 1) (by omega)
          obtain ⟨f1, f2, f3⟩ := v2 (2 ^ a 4 - 1) (by omega)
          have hn := nP_le (Qk_QO (okK a r)) (x := 2 ^ a 4 - 1) (by omega)
          have hnp := nP_le (Qk_QO (okP (okK a r) (2 ^ p ||| 2 ^ q))) (x := 2 ^ a 4 - 1) (by omega)
          have hpair : nP (Qk (okP (okK a r) (2 ^ p ||| 2 ^ q))) (2 ^ a 4 - 1) = sm (hP (okK a r) (2 ^ p ||| 2 ^ q) (2 ^ a 4 - 1)) (2 ^ a 4) := by
            rw [nP_pair (by
              have h1 := Nat.two_pow_pos p
              have h2 : 2 ^ p ≤ 2 ^ p ||| 2 ^ q := Nat.left_le_or
              omega) _ (by omega) (pair_iff.mpr ⟨by rw [Nat.testBit_two_pow_sub_one]; simpa using hp, by rw [Nat.testBit_two_pow_sub_one]; simpa using hq⟩)]
            have := sm_gap (g := hP (okK a r) (2 ^ p ||| 2 ^ q) (2 ^ a 4 - 1)) (2 ^ a 4) (256 - 2 ^ a 4) (fun j h1 h2 => by
              unfold hP
              rw [if_neg (fun h => by have := sb_le h.1; omega)])
            rw [show 2 ^ a 4 + (256 - 2 ^ a 4) = 256 by omega] at this
            exact this
          have hnum' : g_X6_numberWith N (nI (a 4)) fits' num' (nI p) (nI q) = some (nI (nP (Qk (okP (okK a r) (2 ^ p ||| 2 ^ q))) (2 ^ a 4 - 1))) := by
            have h1 := s_numberWith_5 (ok := okK a r) j4 hp hq q2 (fun z hz => (q3 z hz).1) (2 ^ a 4 - 1) 1 N (by omega) (by omega) (by decide)
            have h0 : hP (okK a r) (2 ^ p ||| 2 ^ q) (2 ^ a 4 - 1) 0 = 0 := if_neg (fun h => by
              have h1 := Nat.two_pow_pos p
              have h2 : 2 ^ p ≤ 2 ^ p ||| 2 ^ q := Nat.left_le_or
              have h3 := h.2.1
              rw [Nat.zero_and] at h3
              omega)
            rw [sm, sm, h0] at h1
            rw [hpair]
            exact h1
          obtain ⟨P, eP⟩ : ∃ P, P = nP (Qk (okP (okK a r) (2 ^ p ||| 2 ^ q))) (2 ^ a 4 - 1) := ⟨_, rfl⟩
          obtain ⟨T, eT⟩ : ∃ T, T = nP (Qk (okK a r)) (2 ^ a 4 - 1) := ⟨_, rfl⟩
          rw [← eP] at hnum' f1 hnp
          rw [← eT] at c1 d1 hn
          clear eP eT hpair c2 c3 d2 d3 f2 f3 q3 r2 v2
          rw [q1, Option.bind_some, show g_X10_findParts N (cf 65) (cf 81) (cf 82) (cf 80) (nI r) 0 = some (fewM, mostM, partsM) from r1, Option.bind_some, s_allKnots i1 hM, Option.bind_some, if_pos (in256 (by omega)), nI_clamp (by omega)]
          dsimp only
          unfold g_X6_number
          have hc0 : num' (2 ^ a 4 - 1) = 0 ↔ T = 0 := by rw [c1]; exact e_eq0 (by omega)
          have hd0 : partsM (2 ^ a 4 - 1) = 0 ↔ T = 0 := by rw [d1]; exact e_eq0 (by omega)
          rw [s_all j4, Option.bind_some, if_pos (in256 (by omega)), nI_clamp (by omega), Option.bind_some, ifi hc0, ifi hd0]
          by_cases h : T = 0
          · rw [if_pos h, if_pos h, s_refN, s_refMN]
            exact ⟨_, _, rfl, rfl, rfl, Rel_ext (Rel_rfd 1 hR) rfl rfl⟩
          · have hg : 0 < Nat.gcd (P) (T) := Nat.gcd_pos_of_pos_right _ (by omega)
            have hgl : Nat.gcd (P) (T) ≤ T := Nat.gcd_le_right _ (by omega)
            unfold g_X9_keepFraction g_X10_common
            rw [if_neg h, if_neg h, hnum', Option.bind_some, Option.bind_some, c1, d1, show ∀ u v : Int32, g_X9_keepFraction_8 (nI (P)) (nI (T)) N (nI (P)) (nI (T)) 0 u v = _ from fun u v => s_keep_8 u v 13 _ _ 0 N (by omega) (by decide) (by omega) (by omega) (by omega) hg, Option.bind_some]
            rw [z_pow (by omega), z_pow (by omega), z_or, v1, Option.bind_some, Option.bind_some, if_pos (in256 (by omega))]
            dsimp only
            rw [nI_clamp (by omega), f1, s_common_4 _ _ _ (by omega) (by omega) (by omega), Option.bind_some, if_pos (nI_ne0 hg (by omega))]
            exact ⟨_, _, rfl, rfl, rfl, Rel_ext (Rel_frac _ _ hR) rfl rfl⟩
      · rw [if_neg hz, if_neg hz, s_refB, s_refMB]
        exact ⟨_, _, rfl, rfl, rfl, Rel_ext (Rel_rfd 0 hR) rfl rfl⟩
    · rw [if_neg hw, if_neg hw, s_refB, s_refMB]
      exact ⟨_, _, rfl, rfl, rfl, Rel_ext (Rel_rfd 0 hR) rfl rfl⟩
  · rw [if_neg hv, if_neg hv, s_refB, s_refMB]
    exact ⟨_, _, rfl, rfl, rfl, Rel_ext (Rel_rfd 0 hR) rfl rfl⟩
