/-! read -/
set_option maxHeartbeats 2000000 in
theorem op_read {WI : q_WI} {N : Nat} (hN : 300 ≤ N) : Op_read N (Rel WI) := by
  intro cx cf key ms hR
  obtain ⟨⟨a, hI, hX, hM⟩, -⟩ := id hR
  obtain ⟨i1, i2, i3, i4, i5, i6, i7, i8, i9, i10⟩ := hI
  obtain ⟨x1, ⟨x2, x3⟩, ⟨x4, x5, x6, x7⟩, x8, x9, ⟨x10, x11⟩, x12, x13⟩ := hX
  obtain ⟨j0, j1, j2, j3, j4, j5, j6⟩ := id i1
  have hM0 : KM a (cf 65) 0 := hM
  have hT : TX (a 3) (fun k => a (129 + k)) (cf 6) (cf 65) := ⟨j3, fun k hk => ⟨x8 k hk, i5 k hk, hM0.at (by omega)⟩, hM0.at (by decide)⟩
  have hc : cx 10 = nI (a 3) := x1.2.2.1
  obtain ⟨gw0, w1, w2⟩ := s_22 (N := N) 0 (-1) 0 0 (cx 81) (cx 80) (cx 82) (cf 65) (cf 72) (cf 70) (cf 71) (cf 69) (cf 73) (cf 74) 16 0 N (cf 68) (by omega) (by omega) (fun j hj => absurd hj (by omega))
  obtain ⟨at_, st, so, va, n1, n2⟩ := LA_ex hN hT (p := 0) (Nat.zero_le _) (cx 80) (cx 81) (cx 82)
  have hD : LD 0 0 0 (cf 59) (cf 60) (cf 61) (cf 62) (cf 63) (cf 64) (cf 69) (cf 70) (cf 71) (cf 72) (cf 73) (cf 74) gw0 := ⟨by omega, by omega, ⟨by omega, fun i j _ _ => by rw [Nat.zero_testBit, Nat.zero_testBit], fun i _ => by rw [Nat.zero_testBit], fun k hk => by rw [w1 k hk, Nat.zero_testBit]; rfl⟩, fun k hk => absurd hk (by omega), fun k hk => absurd hk (by omega)⟩
  have hP := PARSE hN hT (a 3) 0 0 0 0 0 N N at_ st so va (cf 59) (cf 60) (cf 61) (cf 62) (cf 63) (cf 64) (cf 69) (cf 70) (cf 71) (cf 72) (cf 73) (cf 74) gw0 (by omega) (by omega) (by omega) (by omega) (by omega) hD n2
  have hm0 : g_X10_read N (cx 80) (cx 81) (cx 82) (cf 65) (cf 72) (cf 70) (cf 71) (cf 69) (cf 73) (cf 68) (cf 74) = g_X10_read_45 N N at_ (-1) (nI 0) (nI 0) so st va (cf 65) (cf 72) (cf 70) (cf 71) (cf 69) (cf 73) gw0 (cf 74) := by
    unfold g_X10_read
    refine Eq.trans w2 ?_
    rw [show g_X10_next N 0 (cx 80) (cx 81) (cx 82) (cf 65) = _ from n1, Option.bind_some]
    rfl
  have hc0 : g_X3_parse N 200 (cx 51) (cx 53) (cx 54) (cf 64) (cf 62) (cf 60) (cf 61) (cf 59) (cf 63) (cx 10) (cf 6) = g_X3_parse_19 N 200 (nI (a 3)) (cf 6) N (nI 0) (nI 0) (cx 54) (cx 51) (cx 53) (nI 0) (nI 0) (cf 64) (nI 0) (cf 62) (nI 0) (cf 60) (nI 0) (cf 61) (nI 0) (cf 59) (nI 0) (cf 63) := by
    unfold g_X3_parse
    rw [show g_X2_empty = some (0, 0, 0, 0, 0, 0, 0) from rfl, Option.bind_some, hc]
    rfl
  rcases hP with ⟨m, g, w, fS, fH, fh, ff, ft, fb, gS, gH, gh, gf, gt, gb, gw, d1, d2, a', s', o', v', d3⟩ | ⟨pl, d1, d2, b1, b2, b3, b4, b5, b6, b7, c1, c2, c3, c4, c5, c6, c7, d3⟩
  · obtain ⟨nx, nu, pc, tk, d4⟩ := d2 (cx 54) (cx 51) (cx 53)
    obtain ⟨hm5, hg24, ⟨hw0, hw1, hw2, hw3⟩, hps, hgs⟩ := d1
    have hpm : 2 ^ m ≤ 32 := Nat.pow_le_pow_right (n := 2) (by decide) hm5
    obtain ⟨al', k0, k1, k2, k3, k4, k5, k6⟩ := s_68 (N := N) hN hm5 hg24 a' o' s' v' (cf 65) gf gH gh gS gt gw gb
    have hmo := (hm0.trans d3).trans k0
    obtain ⟨u0, y0, z0⟩ := s_copy (N := N) (v := fS) (cap := 5) (by decide) hm5 (by omega) (cf 0)
    obtain ⟨u1, y1, z1⟩ := s_copy (N := N) (v := fH) (cap := 5) (by decide) hm5 (by omega) (cf 1)
    obtain ⟨u2, y2, z2⟩ := s_copy (N := N) (v := fh) (cap := 24) (by decide) hg24 (by omega) (cf 2)
    obtain ⟨u3, y3, z3⟩ := s_copy (N := N) (v := ff) (cap := 24) (by decide) hg24 (by omega) (cf 3)
    obtain ⟨u4, y4, z4⟩ := s_copy (N := N) (v := ft) (cap := 24) (by decide) hg24 (by omega) (cf 4)
    obtain ⟨u5, y5, z5⟩ := s_copy (N := N) (v := fb) (cap := 24) (by decide) hg24 (by omega) (cf 5)
    have hcl : g_X9_read N (cx 3) (cx 9) (cf 5) (cx 7) (cf 3) (cx 5) (cf 1) (cx 6) (cf 2) (cx 4) (cf 0) (cx 8) (cf 4) (cx 10) (cf 6) (cx 51) (cx 53) (cx 54) (cf 64) (cf 62) (cf 60) (cf 61) (cf 59) (cf 63) = some (nI g, nI w, nI g, u5, nI g, u3, nI m, u1, nI g, u2, nI m, u0, nI g, u4, nx, nu, pc, tk, nI w, nI g, fb, nI g, ff, nI m, fH, nI g, fh, nI m, fS, nI g, ft) := by
      unfold g_X9_read
      rw [hc0, d4, Option.bind_some]
      dsimp only
      unfold g_X2_copy g_X2_gos
      rw [if_pos (show (-1 : Int32) < 0 by decide), y0, Option.bind_some, y1, Option.bind_some, y2, Option.bind_some, y3, Option.bind_some, y4, Option.bind_some, y5, Option.bind_some, Option.bind_some]
      dsimp only
      rw [s_size, Option.bind_some, Option.bind_some]
    refine ⟨_, _, hcl, hmo, rfl, ?_⟩
    obtain ⟨A, hA⟩ : ∃ A : Nat → Nat, A = fun k => if k = 359 then w else if HT m g k then (al' k).toNatClampNeg else a k := ⟨_, rfl⟩
    have hAw : A 359 = w := by rw [hA]; exact if_pos rfl
    have hAn : ∀ k, k ≠ 359 → ¬ HT m g k → A k = a k := fun k h1 h2 => by rw [hA]; dsimp only; rw [if_neg h1, if_neg h2]
    have hAy : ∀ k x, HT m g k → x < 2147483648 → al' k = nI x → A k = x := fun k x h1 h2 h3 => by
      rw [hA]
      dsimp only
      rw [if_neg (by unfold HT at h1; omega), if_pos h1, h3, nI_clamp h2]
    have hA1 : A 1 = m := hAy 1 m (Or.inl rfl) (by omega) k1
    have hA2 : A 2 = g := hAy 2 g (Or.inr (Or.inl rfl)) (by omega) k2
    have hb2 : ∀ j, (if w.testBit j then (1 : Int32) else 0) = nI (w / 2 ^ j % 2) := fun j => by
      rw [Nat.testBit_eq_decide_div_mod_eq]
      rcases Nat.mod_two_eq_zero_or_one (w / 2 ^ j) with z | z
      · rw [z]; rfl
      · rw [z]; rfl
    have hAy7 : ∀ j, j < 16 → A (7 + j) = w / 2 ^ j % 2 := fun j hj => hAy _ _ (by unfold HT; omega) (by omega) (by rw [k3 j hj, hw3 j hj, hb2])
    have hAp : ∀ j, j < m → ∃ s h, s < 4 ∧ h < 4 ∧ fS j = nI s ∧ fH j = nI h ∧ A (23 + j) = s ∧ A (28 + j) = h := fun j hj => by
      obtain ⟨s, h, p1, p2, p3, p4, p5, p6⟩ := hps j hj
      exact ⟨s, h, p1, p2, p3, p5, hAy _ _ (by unfold HT; omega) (by omega) (by rw [(k4 j hj).1, p4]), hAy _ _ (by unfold HT; omega) (by omega) (by rw [(k4 j hj).2, p6])⟩
    have hAg : ∀ j, j < g → ∃ h x y b, h ≤ 23 ∧ x < 4 ∧ y < 4 ∧ b < 2 ^ m ∧ fh j = nI h ∧ ff j = nI x ∧ ft j = nI y ∧ fb j = nI b ∧ A (33 + j) = h ∧ A (57 + j) = x ∧ A (81 + j) = y ∧ A (105 + j) = b := fun j hj => by
      obtain ⟨h, x, y, b, p1, p2, p3, p4, p5, p6, p7, p8, p9, p10, p11, p12⟩ := hgs j hj
      obtain ⟨q1, q2, q3, q4⟩ := k5 j hj
      exact ⟨h, x, y, b, p1, p2, p3, p4, p5, p7, p9, p11, hAy _ _ (by unfold HT; omega) (by omega) (by rw [q1, p6]), hAy _ _ (by unfold HT; omega) (by omega) (by rw [q2, p8]), hAy _ _ (by unfold HT; omega) (by omega) (by rw [q3, p10]), hAy _ _ (by unfold HT; omega) (by omega) (by rw [q4, p12])⟩
    have hKM : KM A al' 0 := by
      intro k hk
      rw [Nat.zero_add]
      by_cases c : HT m g k
      · have e : ∃ x, x < 2147483648 ∧ al' k = nI x := by
          unfold HT at c
          rcases c with c | c | c | c | c | c | c | c | c
          · exact ⟨m, by omega, by rw [c]; exact k1⟩
          · exact ⟨g, by omega, by rw [c]; exact k2⟩
          · have e := k3 (k - 7) (by omega)
            rw [show 7 + (k - 7) = k by omega, hw3 _ (by omega), hb2] at e
            exact ⟨_, by omega, e⟩
          · have e := (k4 (k - 23) (by omega)).1
            obtain ⟨s, h, p1, p2, p3, p4, p5, p6⟩ := hps (k - 23) (by omega)
            rw [show 23 + (k - 23) = k by omega, p4] at e
            exact ⟨s, by omega, e⟩
          · have e := (k4 (k - 28) (by omega)).2
            obtain ⟨s, h, p1, p2, p3, p4, p5, p6⟩ := hps (k - 28) (by omega)
            rw [show 28 + (k - 28) = k by omega, p6] at e
            exact ⟨h, by omega, e⟩
          · have e := (k5 (k - 33) (by omega)).1
            obtain ⟨h, x, y, b, p1, p2, p3, p4, p5, p6, p7, p8, p9, p10, p11, p12⟩ := hgs (k - 33) (by omega)
            rw [show 33 + (k - 33) = k by omega, p6] at e
            exact ⟨h, by omega, e⟩
          · have e := (k5 (k - 57) (by omega)).2.1
            obtain ⟨h, x, y, b, p1, p2, p3, p4, p5, p6, p7, p8, p9, p10, p11, p12⟩ := hgs (k - 57) (by omega)
            rw [show 57 + (k - 57) = k by omega, p8] at e
            exact ⟨x, by omega, e⟩
          · have e := (k5 (k - 81) (by omega)).2.2.1
            obtain ⟨h, x, y, b, p1, p2, p3, p4, p5, p6, p7, p8, p9, p10, p11, p12⟩ := hgs (k - 81) (by omega)
            rw [show 81 + (k - 81) = k by omega, p10] at e
            exact ⟨y, by omega, e⟩
          · have e := (k5 (k - 105) (by omega)).2.2.2
            obtain ⟨h, x, y, b, p1, p2, p3, p4, p5, p6, p7, p8, p9, p10, p11, p12⟩ := hgs (k - 105) (by omega)
            rw [show 105 + (k - 105) = k by omega, p12] at e
            exact ⟨b, by omega, e⟩
        obtain ⟨x, h1, h2⟩ := e
        rw [h2, hAy k x c h1 h2]
      · rw [k6 k c, hAn k (by omega) c]
        exact hM0.at hk
    have hno : ∀ k, 129 ≤ k → ¬ HT m g k := fun k hk => by unfold HT; omega
    have hag : ∀ lo hi, 129 ≤ lo → hi ≤ 359 → ag a A lo hi := fun lo hi h1 h2 j h3 h4 => hAn j (by omega) (hno j (by omega))
    have e0 : A 0 = a 0 := hAn 0 (by decide) (by unfold HT; omega)
    have e3 : A 3 = a 3 := hAn 3 (by decide) (by unfold HT; omega)
    have e4 : A 4 = a 4 := hAn 4 (by decide) (by unfold HT; omega)
    have e5 : A 5 = a 5 := hAn 5 (by decide) (by unfold HT; omega)
    have e6 : A 6 = a 6 := hAn 6 (by decide) (by unfold HT; omega)
    have e7 : A 357 = a 357 := hAn 357 (by decide) (hno _ (by decide))
    have e8 : A 358 = a 358 := hAn 358 (by decide) (hno _ (by decide))
    have hINV : INV A := by
      refine ⟨⟨by omega, by omega, by omega, by omega, by omega, by omega, by omega⟩, ⟨by omega, fun k hk => ?_, fun i j hi hj => ?_, fun i hi => ?_⟩, fun p hp => ?_, fun k hk => ?_, i5.cg i1 e3 (hag _ _ (by decide) (by decide)), i6.cg i1 e4 (hag _ _ (by decide) (by decide)), i7.cg i1 (by omega) e5 (hag _ _ (by decide) (by decide)), i8.cg (hag _ _ (by decide) (by decide)), i9.cg i1 e6 (hag _ _ (by decide) (by decide)), i10.cg (hag _ _ (by decide) (by decide))⟩
      · rw [hAy7 k hk, hAw]
      · have h1 := hw1 i j hi hj
        rw [Nat.testBit_eq_decide_div_mod_eq, Nat.testBit_eq_decide_div_mod_eq, decide_eq_decide] at h1
        rw [hAy7 _ (by omega), hAy7 _ (by omega)]
        have p := Nat.mod_two_eq_zero_or_one (w / 2 ^ (4 * i + j))
        have q := Nat.mod_two_eq_zero_or_one (w / 2 ^ (4 * j + i))
        omega
      · have h1 := hw2 i hi
        rw [Nat.testBit_eq_decide_div_mod_eq] at h1
        have h2 := of_decide_eq_false h1
        rw [hAy7 _ (by omega)]
        omega
      · rw [hA1] at hp
        obtain ⟨s, h, p1, p2, p3, p4, p5, p6⟩ := hAp p hp
        rw [p5, p6]; exact ⟨p1, p2⟩
      · rw [hA2] at hk
        obtain ⟨h, x, y, b, p1, p2, p3, p4, p5, p6, p7, p8, p9, p10, p11, p12⟩ := hAg k hk
        rw [p9, p10, p11, p12, hA1]; exact ⟨p1, p2, p3, p4⟩
    have hKX : KX A (va_up (va_up (va_up (va_up (va_up (va_up (va_up cx 3 (nI w)) 9 (nI g)) 7 (nI g)) 5 (nI m)) 6 (nI g)) 4 (nI m)) 8 (nI g)) (va_up (va_up (va_up (va_up (va_up (va_up (va_up cf 5 u5) 3 u3) 1 u1) 2 u2) 0 u0) 4 u4) 65 al') 0 0 := by
      refine ⟨?_, ⟨fun k hk => ?_, fun k hk => ?_⟩, ⟨fun k hk => ?_, fun k hk => ?_, fun k hk => ?_, fun k hk => ?_⟩, x8.cg e3 (hag _ _ (by decide) (by omega)), x9.cg e4 (hag _ _ (by decide) (by omega)), ⟨x10.cg e5 (hag _ _ (by decide) (by omega)), x11.cg e5 (hag _ _ (by decide) (by omega))⟩, x12.cg (hag _ _ (by decide) (by decide)), x13.cg e6 (hag _ _ (by decide) (by omega))⟩
      · unfold XS at x1 ⊢
        rw [e0, e3, e4, e5, e6, e7, e8, hA1, hA2, hAw]
        exact ⟨⟨x1.1.1, x1.1.2.1, x1.1.2.2.1, rfl⟩, ⟨rfl, rfl, rfl, rfl, rfl, rfl⟩, x1.2.2⟩
      · rw [hA1] at hk
        obtain ⟨s, h, p1, p2, p3, p4, p5, p6⟩ := hAp k hk
        rw [p5]
        exact (z0 k hk).trans p3
      · rw [hA1] at hk
        obtain ⟨s, h, p1, p2, p3, p4, p5, p6⟩ := hAp k hk
        rw [p6]
        exact (z1 k hk).trans p4
      · rw [hA2] at hk
        obtain ⟨h, x, y, b, p1, p2, p3, p4, p5, p6, p7, p8, p9, p10, p11, p12⟩ := hAg k hk
        rw [p9]
        exact (z2 k hk).trans p5
      · rw [hA2] at hk
        obtain ⟨h, x, y, b, p1, p2, p3, p4, p5, p6, p7, p8, p9, p10, p11, p12⟩ := hAg k hk
        rw [p10]
        exact (z3 k hk).trans p6
      · rw [hA2] at hk
        obtain ⟨h, x, y, b, p1, p2, p3, p4, p5, p6, p7, p8, p9, p10, p11, p12⟩ := hAg k hk
        rw [p11]
        exact (z4 k hk).trans p7
      · rw [hA2] at hk
        obtain ⟨h, x, y, b, p1, p2, p3, p4, p5, p6, p7, p8, p9, p10, p11, p12⟩ := hAg k hk
        rw [p12]
        exact (z5 k hk).trans p8
    have hR' := Rel_now hR A hINV hKX (by rw [va_up_at]; exact hKM) (fun k hk => by rw [va_up_no _ _ (by omega), va_up_no _ _ (by omega), va_up_no _ _ (by omega), va_up_no _ _ (by omega), va_up_no _ _ (by omega), va_up_no _ _ (by omega), va_up_no _ _ (by omega)]) (fun k hk h65 => by rw [va_up_no _ _ h65, va_up_no _ _ (by omega), va_up_no _ _ (by omega), va_up_no _ _ (by omega), va_up_no _ _ (by omega), va_up_no _ _ (by omega), va_up_no _ _ (by omega)]) (fun k hk => by rw [va_up_at]; exact k6 k (hno k (by omega)))
    exact Rel_ext hR' rfl rfl
  · obtain ⟨r, d4⟩ := d2 (cx 54) (cx 51) (cx 53)
    have hpl0 : ¬ nI pl < 0 := fun h => absurd ((e_lt (b := 0) (by omega) (by decide)).mp h) (by omega)
    have hcl : ∃ z, g_X9_read N (cx 3) (cx 9) (cf 5) (cx 7) (cf 3) (cx 5) (cf 1) (cx 6) (cf 2) (cx 4) (cf 0) (cx 8) (cf 4) (cx 10) (cf 6) (cx 51) (cx 53) (cx 54) (cf 64) (cf 62) (cf 60) (cf 61) (cf 59) (cf 63) = some (-10 - nI pl, cx 3, cx 9, cf 5, cx 7, cf 3, cx 5, cf 1, cx 6, cf 2, cx 4, cf 0, cx 8, cf 4, z) := by
      unfold g_X9_read
      rw [hc0, d4, Option.bind_some, if_neg hpl0]
      exact ⟨_, rfl⟩
    obtain ⟨z, hcl⟩ := hcl
    refine ⟨_, _, hcl, hm0.trans d3, rfl, ?_⟩
    exact Rel_ext hR rfl rfl
