/-! ways as bits -/
theorem z_and (a b : Nat) : nI a &&& nI b = nI (a &&& b) := by
  apply Int32.toBitVec_inj.1
  show BitVec.ofNat 32 a &&& BitVec.ofNat 32 b = BitVec.ofNat 32 (a &&& b)
  apply BitVec.eq_of_getLsbD_eq
  intro i hi
  simp [hi]
theorem z_or (a b : Nat) : nI a ||| nI b = nI (a ||| b) := by
  apply Int32.toBitVec_inj.1
  show BitVec.ofNat 32 a ||| BitVec.ofNat 32 b = BitVec.ofNat 32 (a ||| b)
  apply BitVec.eq_of_getLsbD_eq
  intro i hi
  simp [hi]
theorem z_xor (a b : Nat) : nI a ^^^ nI b = nI (a ^^^ b) := by
  apply Int32.toBitVec_inj.1
  show BitVec.ofNat 32 a ^^^ BitVec.ofNat 32 b = BitVec.ofNat 32 (a ^^^ b)
  apply BitVec.eq_of_getLsbD_eq
  intro i hi
  simp [hi]
theorem tb (x i : Nat) : x / 2 ^ i % 2 = if x.testBit i then 1 else 0 := by
  rw [Nat.testBit_eq_decide_div_mod_eq]
  have : x / 2 ^ i % 2 < 2 := Nat.mod_lt _ (by decide)
  by_cases h : x / 2 ^ i % 2 = 1
  · rw [if_pos (by simpa using h), h]
  · rw [if_neg (by simpa using h)]; omega
theorem z_pow {k : Nat} (hk : k < 31) : (1 : Int32) <<< (nI k &&& 31) = nI (2 ^ k) := by
  have h : (1 : Nat) * 2 ^ k < 4294967296 := by
    rw [Nat.one_mul]; exact Nat.lt_trans (Nat.pow_lt_pow_right (by decide) hk) (by decide)
  have := z_shl (s := 1) (j := k) (by omega) h
  rw [Nat.one_mul] at this
  exact this
theorem and_pow (n j : Nat) : n &&& 2 ^ j = if n.testBit j then 2 ^ j else 0 := by
  apply Nat.eq_of_testBit_eq
  intro i
  rw [Nat.testBit_and, Nat.testBit_two_pow]
  by_cases h : j = i
  · subst h
    cases hb : n.testBit j <;> simp
  · cases hb : n.testBit j <;> simp [h]
theorem z_bitAt {n j : Nat} (hj : j < 31) : (nI n &&& nI (2 ^ j) = 0) ↔ n.testBit j = false := by
  have h2 : (2 : Nat) ^ j < 2147483648 := Nat.pow_lt_pow_right (by decide) hj
  rw [z_and, and_pow]
  cases hb : n.testBit j with
  | false => simp; rfl
  | true =>
    rw [if_pos rfl, e_eq0 h2]
    have := Nat.two_pow_pos j
    simp only [Bool.true_eq_false, iff_false]
    omega
theorem s_bit {x y : Nat} (hx : x < 4) (hy : y < 4) : g_X2_bit (nI x) (nI y) = some (nI (2 ^ (4 * x + y))) := by
  unfold g_X2_bit
  rw [show (4 : Int32) * nI x = nI (4 * x) from pk_mul 4 x, nI_add, z_pow (by omega)]
theorem wi3 {x : Nat} (hx : x < 4) : wi (nI x) 0 3 = true := by
  rw [show wi (nI x) 0 3 = (decide (0 ≤ x) && decide (x ≤ 3)) from wi_of (lo := 0) (hi := 3) (by omega) (by decide) (by decide)]
  simp; omega
theorem s_hasWay {w x y : Nat} (hx : x < 4) (hy : y < 4) : g_X2_hasWay (nI w) (nI x) (nI y) = some (if w.testBit (4 * x + y) then 1 else 0) := by
  unfold g_X2_hasWay
  rw [s_isCorner, Option.bind_some, if10, if_pos (wi3 hx), s_isCorner, Option.bind_some, if10, if_pos (wi3 hy), s_bit hx hy, Option.bind_some, ifi (z_bitAt (by omega))]
  cases w.testBit (4 * x + y) <;> rfl
theorem ix7 (x y : Nat) : (7 : Int32) + 4 * nI x + nI y = nI (7 + (4 * x + y)) := by
  rw [show (4 : Int32) * nI x = nI (4 * x) from pk_mul 4 x, show (7 : Int32) + nI (4 * x) = nI (7 + 4 * x) from nI_add 7 (4 * x), nI_add, Nat.add_assoc]
theorem s_hasWayM {a : Nat → Nat} {al : Nat → Int32} (hM : KM a al 0) (hW : IW a) {x y : Nat} (hx : x < 4) (hy : y < 4) : g_X10_hasWay al (nI x) (nI y) = some (if (a 359).testBit (4 * x + y) then 1 else 0) := by
  unfold g_X10_hasWay
  rw [ix7, if_pos (in_n (by omega)), nI_clamp (by omega), hM.at (by omega), hW.2.1 _ (by omega), tb]
  cases (a 359).testBit (4 * x + y) <;> rfl
/-- the ways with one set or taken away -/
def wset (w x y : Nat) (d : Bool) : Nat := if d then w ||| (2 ^ (4 * x + y) ||| 2 ^ (4 * y + x)) else w &&& ((2 ^ (4 * x + y) ||| 2 ^ (4 * y + x)) ^^^ 4294967295)
theorem s_setWay {w x y : Nat} (hx : x < 4) (hy : y < 4) (z : Int32) : g_X2_setWay (nI w) (nI x) (nI y) z = some (nI (wset w x y (decide (¬ z = 0)))) := by
  unfold g_X2_setWay wset
  rw [s_bit hx hy, s_bit hy hx, Option.bind_some, Option.bind_some, z_or, show (-1 : Int32) = nI 4294967295 from rfl, z_xor, z_and, z_or]
  by_cases h : z = 0
  · rw [if_pos h]; simp [h]
  · rw [if_neg h]; simp [h]
theorem wset_bit {w x y : Nat} {d : Bool} {k : Nat} (hk : k < 32) : (wset w x y d).testBit k = if k = 4 * x + y ∨ k = 4 * y + x then d else w.testBit k := by
  unfold wset
  have h1 : (4294967295 : Nat).testBit k = true := by
    rw [show (4294967295 : Nat) = 2 ^ 32 - 1 from rfl, Nat.testBit_two_pow_sub_one]; simpa using hk
  by_cases e1 : k = 4 * x + y
  · cases d with
    | true => rw [if_pos rfl, Nat.testBit_or, Nat.testBit_or, Nat.testBit_two_pow, Nat.testBit_two_pow]; simp [e1]
    | false => rw [if_neg (by decide), Nat.testBit_and, Nat.testBit_xor, Nat.testBit_or, Nat.testBit_two_pow, Nat.testBit_two_pow, h1]; simp [e1]
  · by_cases e2 : k = 4 * y + x
    · cases d with
      | true => rw [if_pos rfl, Nat.testBit_or, Nat.testBit_or, Nat.testBit_two_pow, Nat.testBit_two_pow]; simp [e2]
      | false => rw [if_neg (by decide), Nat.testBit_and, Nat.testBit_xor, Nat.testBit_or, Nat.testBit_two_pow, Nat.testBit_two_pow, h1]; simp [e2]
    · have f1 : ¬ 4 * x + y = k := fun h => e1 h.symm
      have f2 : ¬ 4 * y + x = k := fun h => e2 h.symm
      cases d with
      | true => rw [if_pos rfl, Nat.testBit_or, Nat.testBit_or, Nat.testBit_two_pow, Nat.testBit_two_pow]; simp [e1, e2, f1, f2]
      | false => rw [if_neg (by decide), Nat.testBit_and, Nat.testBit_xor, Nat.testBit_or, Nat.testBit_two_pow, Nat.testBit_two_pow, h1]; simp [e1, e2, f1, f2]
theorem wset_lt {w x y : Nat} {d : Bool} (hx : x < 4) (hy : y < 4) (hw : w < 65536) : wset w x y d < 65536 := by
  have p : ∀ {i j : Nat}, i < 4 → j < 4 → 2 ^ (4 * i + j) < 2 ^ 16 := fun h1 h2 => Nat.pow_lt_pow_right (by decide) (by omega)
  unfold wset
  cases d with
  | true => rw [if_pos rfl]; exact Nat.or_lt_two_pow (n := 16) hw (Nat.or_lt_two_pow (p hx hy) (p hy hx))
  | false => rw [if_neg (by decide)]; exact Nat.lt_of_le_of_lt Nat.and_le_left hw
theorem s_setWayM {al : Nat → Int32} {x y : Nat} (hx : x < 4) (hy : y < 4) (z : Int32) : g_X10_setWay al (nI x) (nI y) z = some (upd (upd al (7 + (4 * x + y)) z) (7 + (4 * y + x)) z) := by
  unfold g_X10_setWay
  rw [ix7, ix7, if_pos (in_n (by omega)), if_pos (in_n (by omega)), nI_clamp (by omega), nI_clamp (by omega)]
set_option maxHeartbeats 2000000 in
theorem op_way {WI : q_WI} {N : Nat} : Op_way N (Rel WI) := by
  intro cx cf key ms y1 y2 y3 hR
  obtain ⟨⟨a, hI, hX, hM⟩, -⟩ := id hR
  obtain ⟨i1, i2, i3, i4, i5, i6, i7, i8, i9, i10⟩ := hI
  obtain ⟨x1, ⟨x2, x3⟩, ⟨x4, x5, x6, x7⟩, x8, x9, ⟨x10, x11⟩, x12, x13⟩ := hX
  obtain ⟨j0, j1, j2, j3, j4, j5, j6⟩ := id i1
  have hc : cx 3 = nI (a 359) := x1.1.2.2.2
  unfold g_X9_way g_X10_way
  rw [s_isCorner, s_in, Option.bind_some, Option.bind_some, if10, if10]
  by_cases hv : wi y1 0 3 = true
  · rw [if_pos hv, if_pos hv, s_isCorner, s_in, Option.bind_some, Option.bind_some, if10, if10]
    by_cases hw : wi y2 0 3 = true
    · rw [if_pos hw, if_pos hw]
      obtain ⟨x, -, hx, rfl⟩ := wi_nI (lo := 0) (hi := 3) (by decide) (by decide) hv
      obtain ⟨y, -, hy, rfl⟩ := wi_nI (lo := 0) (hi := 3) (by decide) (by decide) hw
      rw [ifi (e_eq (a := x) (b := y) (by omega) (by omega)), ifi (e_eq (a := x) (b := y) (by omega) (by omega))]
      by_cases hxy : x = y
      · rw [if_pos hxy, if_pos hxy, s_refB, s_refMB]
        exact ⟨_, _, rfl, rfl, rfl, Rel_ext (Rel_rfd 0 hR) rfl rfl⟩
      · rw [if_neg hxy, if_neg hxy, hc, s_hasWay (by omega) (by omega), s_hasWayM hM i2 (by omega) (by omega), Option.bind_some, Option.bind_some]
        by_cases hz : (if (a 359).testBit (4 * x + y) = true then (1 : Int32) else 0) = y3
        · rw [if_pos hz, if_pos hz, s_refN, s_refMN]
          refine ⟨_, _, rfl, rfl, rfl, Rel_ext (Rel_rfd 1 hR) ?_ rfl⟩
          show LX.map (va_up cx 3 (nI (a 359))) = LX.map cx
          rw [← hc, va_up_id]
        · have hm : (if y3 = 0 then (g_X10_setWay (cf 65) (nI x) (nI y) 0).bind fun u59 => some ((1 : Int32), u59, cf 67) else (g_X10_setWay (cf 65) (nI x) (nI y) 1).bind fun u59 => some (1, u59, cf 67)) = some (1, upd (upd (cf 65) (7 + (4 * x + y)) (nI (if y3 = 0 then 0 else 1))) (7 + (4 * y + x)) (nI (if y3 = 0 then 0 else 1)), cf 67) := by
            rw [s_setWayM (by omega) (by omega), s_setWayM (by omega) (by omega)]
            by_cases h : y3 = 0
            · rw [if_pos h, if_pos h]; rfl
            · rw [if_neg h, if_neg h]; rfl
          rw [if_neg hz, if_neg hz, hm, s_setWay (by omega) (by omega), Option.bind_some]
          refine ⟨_, _, rfl, rfl, rfl, ?_⟩
          generalize hd : (if y3 = 0 then 0 else 1 : Nat) = d
          have hdd : d = if decide (¬ y3 = 0) then 1 else 0 := by rw [← hd]; by_cases h : y3 = 0 <;> simp [h]
          generalize decide (¬ y3 = 0) = dd at hdd
          obtain ⟨a', ea, hb', hb2, hc', ho⟩ : ∃ a' : Nat → Nat, a' = va_up (va_up (va_up a 359 (wset (a 359) x y dd)) (7 + (4 * x + y)) d) (7 + (4 * y + x)) d ∧ a' (7 + (4 * x + y)) = d ∧ a' (7 + (4 * y + x)) = d ∧ a' 359 = wset (a 359) x y dd ∧ ∀ j, j ≠ 359 → j ≠ 7 + (4 * x + y) → j ≠ 7 + (4 * y + x) → a' j = a j :=
            ⟨_, rfl, by rw [va_up_no _ _ (by omega), va_up_at], va_up_at _ _ _, by rw [va_up_no _ _ (by omega), va_up_no _ _ (by omega), va_up_at], fun j h1 h2 h3 => by rw [va_up_no _ _ h3, va_up_no _ _ h2, va_up_no _ _ h1]⟩
          have e0 := ho 0 (by decide) (by omega) (by omega)
          have e1 := ho 1 (by decide) (by omega) (by omega)
          have e2 := ho 2 (by decide) (by omega) (by omega)
          have e3 := ho 3 (by decide) (by omega) (by omega)
          have e4 := ho 4 (by decide) (by omega) (by omega)
          have e5 := ho 5 (by decide) (by omega) (by omega)
          have e6 := ho 6 (by decide) (by omega) (by omega)
          have e7 := ho 357 (by decide) (by omega) (by omega)
          have e8 := ho 358 (by decide) (by omega) (by omega)
          have hg : ∀ lo hi, 23 ≤ lo → hi ≤ 359 → ag a a' lo hi := fun lo hi h h' j h1 h2 => ho j (by omega) (by omega) (by omega)
          have hval : ∀ k, k < 16 → a' (7 + k) = if (wset (a 359) x y dd).testBit k then 1 else 0 := by
            intro k hk
            rw [wset_bit (by omega)]
            by_cases k1 : k = 4 * x + y
            · rw [k1, hb', if_pos (Or.inl rfl), hdd]
            · by_cases k2 : k = 4 * y + x
              · rw [k2, hb2, if_pos (Or.inr rfl), hdd]
              · rw [ho _ (by omega) (by omega) (by omega), if_neg (show ¬ (k = 4 * x + y ∨ k = 4 * y + x) by omega), i2.2.1 k hk, tb]
          have hsym : ∀ i j, i < 4 → j < 4 → (wset (a 359) x y dd).testBit (4 * i + j) = (wset (a 359) x y dd).testBit (4 * j + i) := by
            intro i j hi hj
            rw [wset_bit (by omega), wset_bit (by omega)]
            have hs : (a 359).testBit (4 * i + j) = (a 359).testBit (4 * j + i) := by
              have := i2.2.2.1 i j hi hj
              rw [i2.2.1 _ (by omega), i2.2.1 _ (by omega), tb, tb] at this
              cases h1 : (a 359).testBit (4 * i + j) <;> cases h2 : (a 359).testBit (4 * j + i) <;> simp [h1, h2] at this ⊢
            rw [hs]
            by_cases q : 4 * i + j = 4 * x + y ∨ 4 * i + j = 4 * y + x
            · rw [if_pos q, if_pos (by omega)]
            · rw [if_neg q, if_neg (by omega)]
          have hR' : Rel WI (va_up cx 3 (nI (wset (a 359) x y dd))) (va_up cf 65 (upd (upd (cf 65) (7 + (4 * x + y)) (nI d)) (7 + (4 * y + x)) (nI d))) key ms := by
            refine Rel_now hR a' ⟨⟨by omega, by omega, by omega, by omega, by omega, by omega, by omega⟩, ⟨by rw [hc']; exact wset_lt (by omega) (by omega) i2.1, fun k hk => by rw [hval k hk, hc', tb], fun i j hi hj => by rw [hval _ (by omega), hval _ (by omega), hsym i j hi hj], fun i hi => ?_⟩, i3.cg i1 e1 (hg _ _ (by decide) (by decide)), i4.cg i1 e1 e2 (hg _ _ (by decide) (by decide)), i5.cg i1 e3 (hg _ _ (by decide) (by decide)), i6.cg i1 e4 (hg _ _ (by decide) (by decide)), i7.cg i1 (by omega) e5 (hg _ _ (by decide) (by decide)), i8.cg (hg _ _ (by decide) (by decide)), i9.cg i1 e6 (hg _ _ (by decide) (by decide)), i10.cg (hg _ _ (by decide) (by decide))⟩
              ⟨?_, ⟨x2.cg e1 (hg _ _ (by decide) (by omega)), x3.cg e1 (hg _ _ (by decide) (by omega))⟩, ⟨x4.cg e2 (hg _ _ (by decide) (by omega)), x5.cg e2 (hg _ _ (by decide) (by omega)), x6.cg e2 (hg _ _ (by decide) (by omega)), x7.cg e2 (hg _ _ (by decide) (by omega))⟩, x8.cg e3 (hg _ _ (by decide) (by omega)), x9.cg e4 (hg _ _ (by decide) (by omega)), ⟨x10.cg e5 (hg _ _ (by decide) (by omega)), x11.cg e5 (hg _ _ (by decide) (by omega))⟩, x12.cg (hg _ _ (by decide) (by decide)), x13.cg e6 (hg _ _ (by decide) (by omega))⟩
              (by
                rw [va_up_at]
                have h0 : KM (va_up a 359 (wset (a 359) x y dd)) (cf 65) 0 := fun k hk => by rw [va_up_no _ _ (by omega)]; exact hM k hk
                rw [ea]; exact (h0.up (by omega)).up (by omega)) (fun k hk => va_up_no _ _ (by omega)) (fun k _ hk => va_up_no _ _ hk) (fun k hk => by rw [va_up_at, upd_no (by omega), upd_no (by omega)])
            · rw [hval _ (by omega), wset_bit (by omega), if_neg (show ¬ (4 * i + i = 4 * x + y ∨ 4 * i + i = 4 * y + x) by omega)]
              have := i2.2.2.2 i hi
              rw [i2.2.1 _ (by omega), tb] at this
              exact this
            · unfold XS at x1 ⊢
              rw [e0, e1, e2, e3, e4, e5, e6, e7, e8, hc']
              exact ⟨⟨x1.1.1, x1.1.2.1, x1.1.2.2.1, rfl⟩, x1.2⟩
          exact Rel_ext hR' rfl rfl
    · rw [if_neg hw, if_neg hw, s_refB, s_refMB]
      exact ⟨_, _, rfl, rfl, rfl, Rel_ext (Rel_rfd 0 hR) rfl rfl⟩
  · rw [if_neg hv, if_neg hv, s_refB, s_refMB]
    exact ⟨_, _, rfl, rfl, rfl, Rel_ext (Rel_rfd 0 hR) rfl rfl⟩
