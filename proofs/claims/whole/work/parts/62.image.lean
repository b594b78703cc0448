/-! images -/
theorem AR.of {a : Nat → Nat} {c b : Nat} {v w : Nat → Int32} (h : AR a c b v) (hw : ∀ j, j < a c → w j = v j) : AR a c b w := fun k hk => (hw k hk).trans (h k hk)
theorem s_copyK {a : Nat → Nat} {N : Nat} (hN : 300 ≤ N) (hI : IC a) {f0 f1 f2 f3 f4 f5 f6 f7 f8 f9 f10 f11 : Nat → Int32} (h0 : AR a 1 23 f0) (h1 : AR a 1 28 f1) (h2 : AR a 2 33 f2) (h3 : AR a 2 57 f3) (h4 : AR a 2 81 f4) (h5 : AR a 2 105 f5) (h6 : AR a 3 129 f6) (h7 : AR a 4 329 f7) (h8 : AR a 5 337 f8) (h9 : AR a 5 341 f9) (h10 : AL a f10) (h11 : AR a 6 349 f11) (d0 d1 d2 d3 d4 d5 d6 d7 d8 d9 d10 d11 : Nat → Int32) : ∃ w0 w1 w2 w3 w4 w5 w6 w7 w8 w9 w10 w11, g_X1_copy N d11 d8 d9 d7 d5 d3 d1 d2 d0 d4 d10 d6 (nI (a 0)) (nI (a 357)) (nI (a 358)) (nI (a 6)) f11 (nI (a 5)) f8 (nI (a 5)) f9 (nI (a 4)) f7 (nI (a 359)) (nI (a 2)) f5 (nI (a 2)) f3 (nI (a 1)) f1 (nI (a 2)) f2 (nI (a 1)) f0 (nI (a 2)) f4 (nI 4) f10 (nI (a 3)) f6 = some (nI (a 358), nI (a 357), nI (a 0), nI (a 6), w11, nI (a 5), w8, nI (a 5), w9, nI (a 4), w7, nI (a 359), nI (a 2), w5, nI (a 2), w3, nI (a 1), w1, nI (a 2), w2, nI (a 1), w0, nI (a 2), w4, nI 4, w10, nI (a 3), w6) ∧ AR a 1 23 w0 ∧ AR a 1 28 w1 ∧ AR a 2 33 w2 ∧ AR a 2 57 w3 ∧ AR a 2 81 w4 ∧ AR a 2 105 w5 ∧ AR a 3 129 w6 ∧ AR a 4 329 w7 ∧ AR a 5 337 w8 ∧ AR a 5 341 w9 ∧ AL a w10 ∧ AR a 6 349 w11 := by
  obtain ⟨j0, j1, j2, j3, j4, j5, j6⟩ := id hI
  obtain ⟨w0, p0, q0⟩ := s_copy (cap := 5) (n := (a 1)) (N := N) (v := f0) (by decide) j1 (by omega) d0
  obtain ⟨w1, p1, q1⟩ := s_copy (cap := 5) (n := (a 1)) (N := N) (v := f1) (by decide) j1 (by omega) d1
  obtain ⟨w2, p2, q2⟩ := s_copy (cap := 24) (n := (a 2)) (N := N) (v := f2) (by decide) j2 (by omega) d2
  obtain ⟨w3, p3, q3⟩ := s_copy (cap := 24) (n := (a 2)) (N := N) (v := f3) (by decide) j2 (by omega) d3
  obtain ⟨w4, p4, q4⟩ := s_copy (cap := 24) (n := (a 2)) (N := N) (v := f4) (by decide) j2 (by omega) d4
  obtain ⟨w5, p5, q5⟩ := s_copy (cap := 24) (n := (a 2)) (N := N) (v := f5) (by decide) j2 (by omega) d5
  obtain ⟨w6, p6, q6⟩ := s_copy (cap := 200) (n := (a 3)) (N := N) (v := f6) (by decide) j3 (by omega) d6
  obtain ⟨w7, p7, q7⟩ := s_copy (cap := 8) (n := (a 4)) (N := N) (v := f7) (by decide) j4 (by omega) d7
  obtain ⟨w8, p8, q8⟩ := s_copy (cap := 4) (n := (a 5)) (N := N) (v := f8) (by decide) j5 (by omega) d8
  obtain ⟨w9, p9, q9⟩ := s_copy (cap := 4) (n := (a 5)) (N := N) (v := f9) (by decide) j5 (by omega) d9
  obtain ⟨w10, p10, q10⟩ := s_copy (cap := 4) (n := 4) (N := N) (v := f10) (by decide) (by decide) (by omega) d10
  obtain ⟨w11, p11, q11⟩ := s_copy (cap := 8) (n := (a 6)) (N := N) (v := f11) (by decide) j6 (by omega) d11
  refine ⟨w0, w1, w2, w3, w4, w5, w6, w7, w8, w9, w10, w11, ?_, h0.of q0, h1.of q1, h2.of q2, h3.of q3, h4.of q4, h5.of q5, h6.of q6, h7.of q7, h8.of q8, h9.of q9, fun k hk => (q10 k hk).trans (h10 k hk), h11.of q11⟩
  unfold g_X1_copy g_X2_copy
  rw [p0, Option.bind_some, p1, Option.bind_some, p2, Option.bind_some, p3, Option.bind_some, p4, Option.bind_some, p5, Option.bind_some, Option.bind_some, p6, Option.bind_some, p7, Option.bind_some, p8, Option.bind_some, p9, Option.bind_some, p10, Option.bind_some, p11, Option.bind_some]
theorem K2.cgL {a : Nat → Nat} {cx cx' : Nat → Int32} {cf cf' : Nat → Nat → Int32} {i : Nat} (h : K2 a cx cf i) (h1 : (List.range 16).map (fun k => cx' (16 * i + k)) = (List.range 16).map (fun k => cx (16 * i + k))) (h2 : (List.range 12).map (fun k => cf' (12 * i + k)) = (List.range 12).map (fun k => cf (12 * i + k))) (h3 : ∀ k, k < 359 → cf' 65 (360 * i + k) = cf 65 (360 * i + k)) : K2 a cx' cf' i :=
  h.congr (fun k hk => List.map_inj_left.mp h1 k (List.mem_range.mpr hk)) (fun k hk => List.map_inj_left.mp h2 k (List.mem_range.mpr hk)) h3
theorem s_copyAll {x1 x2 : Nat} (h1 : x1 < 3) (h2 : x2 < 3) (hne : x1 ≠ x2) : ∀ (m k f : Nat) (al : Nat → Int32), k + m = 360 → m < f → ∃ al', g_X10_copyAll_2 (nI x1) (nI x2) f (nI k) al = some al' ∧ (∀ j, j < 360 → k ≤ j → al' (360 * x2 + j) = al (360 * x1 + j)) ∧ (∀ j, j < 360 * x2 + k ∨ 360 * x2 + 360 ≤ j → al' j = al j) := by
  intro m
  induction m with
  | zero =>
    intro k f al e1 e2
    obtain ⟨f, rfl⟩ : ∃ z, f = z + 1 := ⟨f - 1, by omega⟩
    have e : k = 360 := by omega
    subst e
    exact ⟨al, by rw [g_X10_copyAll_2, if_pos (by decide)], fun j h1 h2 => absurd h1 (by omega), fun j _ => rfl⟩
  | succ m ih =>
    intro k f al e1 e2
    obtain ⟨f, rfl⟩ : ∃ z, f = z + 1 := ⟨f - 1, by omega⟩
    obtain ⟨al', q1, q2, q3⟩ := ih (k + 1) f (upd al (360 * x2 + k) (al (360 * x1 + k))) (by omega) (by omega)
    refine ⟨al', ?_, fun j hj hk => ?_, fun j hj => ?_⟩
    · rw [g_X10_copyAll_2, if_neg (show ¬ 360 ≤ nI k from fun h => absurd ((e_le (a := 360) (by decide) (by omega)).mp h) (by omega)), show (360 : Int32) * nI x1 = nI (360 * x1) from pk_mul 360 x1, show (360 : Int32) * nI x2 = nI (360 * x2) from pk_mul 360 x2, nI_add, nI_add, if_pos (in_n (by omega)), if_pos (in_n (by omega)), nI_clamp (by omega), nI_clamp (by omega), z_1]
      exact q1
    · rcases (show j = k ∨ k + 1 ≤ j by omega) with rfl | h
      · rw [q3 _ (by omega), upd_at]
      · rw [q2 j hj h, upd_no (by omega)]
    · rw [q3 j (by omega), upd_no (by omega)]
theorem kb_or : ∀ b0, b0 < 2 → ∀ b1, b1 < 2 → (nI (b0 + 2 * b1) ||| (1 <<< ((0 : Int32) &&& 31))) = nI (1 + 2 * b1) ∧ (nI (b0 + 2 * b1) ||| (1 <<< ((1 : Int32) &&& 31))) = nI (b0 + 2 * 1) := by decide
theorem kb_at : ∀ b0, b0 < 2 → ∀ b1, b1 < 2 → ((nI (b0 + 2 * b1) >>> ((0 : Int32) &&& 31)) &&& 1 = 0 ↔ b0 = 0) ∧ ((nI (b0 + 2 * b1) >>> ((1 : Int32) &&& 31)) &&& 1 = 0 ↔ b1 = 0) := by decide
set_option maxHeartbeats 4000000 in
theorem op_image {WI : q_WI} {N : Nat} (hN : 400 ≤ N) : Op_image N (Rel WI) := by
  intro cx cf key ms y1 hR
  have hN' := hN
  replace hN : 300 ≤ N := by omega
  unfold g_X9_image g_X10_image
  rw [s_isWithin, s_in, Option.bind_some, Option.bind_some, if10, if10]
  by_cases hv : wi y1 0 1 = true
  · rw [if_pos hv, if_pos hv]
    obtain ⟨k, -, hk, rfl⟩ := wi_nI (lo := 0) (hi := 1) (by decide) (by decide) hv
    obtain ⟨-, ⟨b0, b1, c1, c2, c3, c4, c5, c6, c7⟩, hF, hRR, hW⟩ := id hR
    obtain ⟨⟨a, hI, hX, hM⟩, -⟩ := id hR
    obtain ⟨i1, i2, i3, i4, i5, i6, i7, i8, i9, i10⟩ := hI
    obtain ⟨x1, ⟨x2, x3⟩, ⟨x4, x5, x6, x7⟩, x8, x9, ⟨x10, x11⟩, x12, x13⟩ := hX
    obtain ⟨j0, j1, j2, j3, j4, j5, j6⟩ := id i1
    rw [c3, show cx 0 = nI (a 0) from x1.1.1, show cx 1 = nI (a 357) from x1.1.2.1, show cx 2 = nI (a 358) from x1.1.2.2.1, show cx 3 = nI (a 359) from x1.1.2.2.2, show cx 4 = nI (a 1) from x1.2.1.1, show cx 5 = nI (a 1) from x1.2.1.2.1, show cx 6 = nI (a 2) from x1.2.1.2.2.1, show cx 7 = nI (a 2) from x1.2.1.2.2.2.1, show cx 8 = nI (a 2) from x1.2.1.2.2.2.2.1, show cx 9 = nI (a 2) from x1.2.1.2.2.2.2.2, show cx 10 = nI (a 3) from x1.2.2.1, show cx 11 = nI (a 4) from x1.2.2.2.1, show cx 12 = nI (a 5) from x1.2.2.2.2.1, show cx 13 = nI (a 5) from x1.2.2.2.2.2.1, show cx 14 = nI (4) from x1.2.2.2.2.2.2.1, show cx 15 = nI (a 6) from x1.2.2.2.2.2.2.2]
    rcases (show k = 0 ∨ k = 1 by omega) with rfl | rfl
    · obtain ⟨w0, w1, w2, w3, w4, w5, w6, w7, w8, w9, w10, w11, q, v0, v1, v2, v3, v4, v5, v6, v7, v8, v9, v10, v11⟩ := s_copyK (N := N) hN i1 x2 x3 x4 x5 x6 x7 x8 x9 x10 x11 x12 x13 (cf 12) (cf 13) (cf 14) (cf 15) (cf 16) (cf 17) (cf 18) (cf 19) (cf 20) (cf 21) (cf 22) (cf 23)
      obtain ⟨al, m1, m2, m3⟩ := s_copyAll (x1 := 0) (x2 := 1) (by decide) (by decide) (by decide) 360 0 N (cf 65) (by omega) (by omega)
      unfold g_X10_copyAll
      rw [if_pos (show nI 0 = 0 from rfl), q, Option.bind_some, show g_X10_copyAll_2 0 (1 + nI 0) N 0 (cf 65) = some al from m1, Option.bind_some, if_pos (show inb (nI 0) 2 = true from rfl), show (nI 0).toNatClampNeg = 0 from rfl, show vp_nar .boolean 1 = 1 from rfl, show nI (b0 + 2 * b1) ||| 1 <<< (nI 0 &&& 31) = nI (1 + 2 * b1) from (kb_or b0 c1 b1 c2).1]
      refine ⟨_, _, rfl, rfl, rfl, ?_⟩
      have hk0 : ∀ {b : Nat → Nat} {j : Nat}, j < 3 → j ≠ 1 → K2 b cx cf j → ∀ k, k < 359 → al (360 * j + k) = cf 65 (360 * j + k) := fun h1 h2 _ k hk => m3 _ (by omega)
      refine ⟨⟨a, (show K2 a cx cf 0 from ⟨⟨i1, i2, i3, i4, i5, i6, i7, i8, i9, i10⟩, ⟨x1, ⟨x2, x3⟩, ⟨x4, x5, x6, x7⟩, x8, x9, ⟨x10, x11⟩, x12, x13⟩, hM⟩).cgL rfl rfl (fun k hk => m3 _ (by omega))⟩, ⟨1, b1, by decide, c2, rfl, rfl, c5, ?_, ?_⟩, hF, hRR, hW⟩
      · intro _
        exact ⟨a, ⟨i1, i2, i3, i4, i5, i6, i7, i8, i9, i10⟩, ⟨⟨⟨rfl, rfl, rfl, rfl⟩, ⟨rfl, rfl, rfl, rfl, rfl, rfl⟩, rfl, rfl, rfl, rfl, rfl, rfl⟩, ⟨v0, v1⟩, ⟨v2, v3, v4, v5⟩, v6, v7, ⟨v8, v9⟩, v10, v11⟩, fun k hk => (m2 k (by omega) (by omega)).trans (hM k hk)⟩
      · intro hb
        obtain ⟨b, hb⟩ := c7 hb
        exact ⟨b, hb.cgL rfl rfl (fun k hk => m3 _ (by omega))⟩
    · obtain ⟨w0, w1, w2, w3, w4, w5, w6, w7, w8, w9, w10, w11, q, v0, v1, v2, v3, v4, v5, v6, v7, v8, v9, v10, v11⟩ := s_copyK (N := N) hN i1 x2 x3 x4 x5 x6 x7 x8 x9 x10 x11 x12 x13 (cf 24) (cf 25) (cf 26) (cf 27) (cf 28) (cf 29) (cf 30) (cf 31) (cf 32) (cf 33) (cf 34) (cf 35)
      obtain ⟨al, m1, m2, m3⟩ := s_copyAll (x1 := 0) (x2 := 2) (by decide) (by decide) (by decide) 360 0 N (cf 65) (by omega) (by omega)
      unfold g_X10_copyAll
      rw [if_neg (show ¬ nI 1 = 0 by decide), if_pos (show nI 1 = 1 from rfl), q, Option.bind_some, show g_X10_copyAll_2 0 (1 + nI 1) N 0 (cf 65) = some al from m1, Option.bind_some, if_pos (show inb (nI 1) 2 = true from rfl), show (nI 1).toNatClampNeg = 1 from rfl, show vp_nar .boolean 1 = 1 from rfl, show nI (b0 + 2 * b1) ||| 1 <<< (nI 1 &&& 31) = nI (b0 + 2 * 1) from (kb_or b0 c1 b1 c2).2]
      refine ⟨_, _, rfl, rfl, rfl, ?_⟩
      have hk0 : ∀ {b : Nat → Nat} {j : Nat}, j < 3 → j ≠ 2 → K2 b cx cf j → ∀ k, k < 359 → al (360 * j + k) = cf 65 (360 * j + k) := fun h1 h2 _ k hk => m3 _ (by omega)
      refine ⟨⟨a, (show K2 a cx cf 0 from ⟨⟨i1, i2, i3, i4, i5, i6, i7, i8, i9, i10⟩, ⟨x1, ⟨x2, x3⟩, ⟨x4, x5, x6, x7⟩, x8, x9, ⟨x10, x11⟩, x12, x13⟩, hM⟩).cgL rfl rfl (fun k hk => m3 _ (by omega))⟩, ⟨b0, 1, c1, by decide, rfl, c4, rfl, ?_, ?_⟩, hF, hRR, hW⟩
      · intro hb
        obtain ⟨b, hb⟩ := c6 hb
        exact ⟨b, hb.cgL rfl rfl (fun k hk => m3 _ (by omega))⟩
      · intro _
        exact ⟨a, ⟨i1, i2, i3, i4, i5, i6, i7, i8, i9, i10⟩, ⟨⟨⟨rfl, rfl, rfl, rfl⟩, ⟨rfl, rfl, rfl, rfl, rfl, rfl⟩, rfl, rfl, rfl, rfl, rfl, rfl⟩, ⟨v0, v1⟩, ⟨v2, v3, v4, v5⟩, v6, v7, ⟨v8, v9⟩, v10, v11⟩, fun k hk => (m2 k (by omega) (by omega)).trans (hM k hk)⟩
  · rw [if_neg hv, if_neg hv, s_refB, s_refMB]
    exact ⟨_, _, rfl, rfl, rfl, Rel_ext (Rel_rfd 0 hR) rfl rfl⟩
set_option maxHeartbeats 4000000 in
theorem op_from {WI : q_WI} {N : Nat} (hN : 400 ≤ N) : Op_from N (Rel WI) := by
  intro cx cf key ms y1 hR
  have hN' := hN
  replace hN : 300 ≤ N := by omega
  unfold g_X9_from g_X10_from g_X10_from_18
  rw [s_isWithin, s_in, Option.bind_some, Option.bind_some, Option.bind_some, if10, if10, if10]
  by_cases hv : wi y1 0 1 = true
  · rw [if_pos hv, if_pos hv, if_pos hv]
    obtain ⟨k, -, hk, rfl⟩ := wi_nI (lo := 0) (hi := 1) (by decide) (by decide) hv
    obtain ⟨-, ⟨b0, b1, c1, c2, c3, c4, c5, c6, c7⟩, hF, hRR, hW⟩ := id hR
    rcases (show k = 0 ∨ k = 1 by omega) with rfl | rfl
    · have hkp : (((cx 48) >>> (nI 0 &&& 31)) &&& 1 = 0) ↔ b0 = 0 := by rw [c3]; exact (kb_at b0 c1 b1 c2).1
      rw [ifi hkp, if_pos (show inb (nI 0) 2 = true from rfl), show (nI 0).toNatClampNeg = 0 from rfl, c4, ifi (e_eq0 (a := b0) (by omega))]
      by_cases hb : b0 = 0
      · rw [if_pos hb, if_pos hb, s_refN, s_refMN]
        exact ⟨_, _, rfl, rfl, rfl, Rel_ext (Rel_rfd 1 hR) rfl rfl⟩
      · rw [if_neg hb, if_neg hb]
        obtain ⟨a, hI, hX, hM⟩ := c6 (by omega)
        obtain ⟨i1, i2, i3, i4, i5, i6, i7, i8, i9, i10⟩ := hI
        obtain ⟨x1, ⟨x2, x3⟩, ⟨x4, x5, x6, x7⟩, x8, x9, ⟨x10, x11⟩, x12, x13⟩ := hX
        obtain ⟨j0, j1, j2, j3, j4, j5, j6⟩ := id i1
        rw [show cx 16 = nI (a 0) from x1.1.1, show cx 17 = nI (a 357) from x1.1.2.1, show cx 18 = nI (a 358) from x1.1.2.2.1, show cx 19 = nI (a 359) from x1.1.2.2.2, show cx 20 = nI (a 1) from x1.2.1.1, show cx 21 = nI (a 1) from x1.2.1.2.1, show cx 22 = nI (a 2) from x1.2.1.2.2.1, show cx 23 = nI (a 2) from x1.2.1.2.2.2.1, show cx 24 = nI (a 2) from x1.2.1.2.2.2.2.1, show cx 25 = nI (a 2) from x1.2.1.2.2.2.2.2, show cx 26 = nI (a 3) from x1.2.2.1, show cx 27 = nI (a 4) from x1.2.2.2.1, show cx 28 = nI (a 5) from x1.2.2.2.2.1, show cx 29 = nI (a 5) from x1.2.2.2.2.2.1, show cx 30 = nI (4) from x1.2.2.2.2.2.2.1, show cx 31 = nI (a 6) from x1.2.2.2.2.2.2.2]
        obtain ⟨w0, w1, w2, w3, w4, w5, w6, w7, w8, w9, w10, w11, q, v0, v1, v2, v3, v4, v5, v6, v7, v8, v9, v10, v11⟩ := s_copyK (N := N) hN i1 x2 x3 x4 x5 x6 x7 x8 x9 x10 x11 x12 x13 (cf 0) (cf 1) (cf 2) (cf 3) (cf 4) (cf 5) (cf 6) (cf 7) (cf 8) (cf 9) (cf 10) (cf 11)
        obtain ⟨al, m1, m2, m3⟩ := s_copyAll (x1 := 1) (x2 := 0) (by decide) (by decide) (by decide) 360 0 N (cf 65) (by omega) (by omega)
        unfold g_X10_copyAll
        rw [if_pos (show nI 0 = 0 from rfl), q, Option.bind_some, show g_X10_copyAll_2 (1 + nI 0) 0 N 0 (cf 65) = some al from m1, Option.bind_some]
        refine ⟨_, _, rfl, rfl, rfl, ?_⟩
        refine ⟨⟨a, ⟨i1, i2, i3, i4, i5, i6, i7, i8, i9, i10⟩, ⟨⟨⟨rfl, rfl, rfl, rfl⟩, ⟨rfl, rfl, rfl, rfl, rfl, rfl⟩, rfl, rfl, rfl, rfl, rfl, rfl⟩, ⟨v0, v1⟩, ⟨v2, v3, v4, v5⟩, v6, v7, ⟨v8, v9⟩, v10, v11⟩, fun k hk => (m2 k (by omega) (by omega)).trans (hM k hk)⟩, ⟨b0, b1, c1, c2, c3, c4, c5, ?_, ?_⟩, hF, hRR, hW⟩
        · intro hb
          obtain ⟨b, hb⟩ := c6 hb
          exact ⟨b, hb.cgL rfl rfl (fun k hk => m3 _ (by omega))⟩
        · intro hb
          obtain ⟨b, hb⟩ := c7 hb
          exact ⟨b, hb.cgL rfl rfl (fun k hk => m3 _ (by omega))⟩
    · have hkp : (((cx 48) >>> (nI 1 &&& 31)) &&& 1 = 0) ↔ b1 = 0 := by rw [c3]; exact (kb_at b0 c1 b1 c2).2
      rw [ifi hkp, if_pos (show inb (nI 1) 2 = true from rfl), show (nI 1).toNatClampNeg = 1 from rfl, c5, ifi (e_eq0 (a := b1) (by omega))]
      by_cases hb : b1 = 0
      · rw [if_pos hb, if_pos hb, s_refN, s_refMN]
        exact ⟨_, _, rfl, rfl, rfl, Rel_ext (Rel_rfd 1 hR) rfl rfl⟩
      · rw [if_neg hb, if_neg hb]
        obtain ⟨a, hI, hX, hM⟩ := c7 (by omega)
        obtain ⟨i1, i2, i3, i4, i5, i6, i7, i8, i9, i10⟩ := hI
        obtain ⟨x1, ⟨x2, x3⟩, ⟨x4, x5, x6, x7⟩, x8, x9, ⟨x10, x11⟩, x12, x13⟩ := hX
        obtain ⟨j0, j1, j2, j3, j4, j5, j6⟩ := id i1
        rw [show cx 32 = nI (a 0) from x1.1.1, show cx 33 = nI (a 357) from x1.1.2.1, show cx 34 = nI (a 358) from x1.1.2.2.1, show cx 35 = nI (a 359) from x1.1.2.2.2, show cx 36 = nI (a 1) from x1.2.1.1, show cx 37 = nI (a 1) from x1.2.1.2.1, show cx 38 = nI (a 2) from x1.2.1.2.2.1, show cx 39 = nI (a 2) from x1.2.1.2.2.2.1, show cx 40 = nI (a 2) from x1.2.1.2.2.2.2.1, show cx 41 = nI (a 2) from x1.2.1.2.2.2.2.2, show cx 42 = nI (a 3) from x1.2.2.1, show cx 43 = nI (a 4) from x1.2.2.2.1, show cx 44 = nI (a 5) from x1.2.2.2.2.1, show cx 45 = nI (a 5) from x1.2.2.2.2.2.1, show cx 46 = nI (4) from x1.2.2.2.2.2.2.1, show cx 47 = nI (a 6) from x1.2.2.2.2.2.2.2]
        obtain ⟨w0, w1, w2, w3, w4, w5, w6, w7, w8, w9, w10, w11, q, v0, v1, v2, v3, v4, v5, v6, v7, v8, v9, v10, v11⟩ := s_copyK (N := N) hN i1 x2 x3 x4 x5 x6 x7 x8 x9 x10 x11 x12 x13 (cf 0) (cf 1) (cf 2) (cf 3) (cf 4) (cf 5) (cf 6) (cf 7) (cf 8) (cf 9) (cf 10) (cf 11)
        obtain ⟨al, m1, m2, m3⟩ := s_copyAll (x1 := 2) (x2 := 0) (by decide) (by decide) (by decide) 360 0 N (cf 65) (by omega) (by omega)
        unfold g_X10_copyAll
        rw [if_neg (show ¬ nI 1 = 0 by decide), if_pos (show nI 1 = 1 from rfl), q, Option.bind_some, show g_X10_copyAll_2 (1 + nI 1) 0 N 0 (cf 65) = some al from m1, Option.bind_some]
        refine ⟨_, _, rfl, rfl, rfl, ?_⟩
        refine ⟨⟨a, ⟨i1, i2, i3, i4, i5, i6, i7, i8, i9, i10⟩, ⟨⟨⟨rfl, rfl, rfl, rfl⟩, ⟨rfl, rfl, rfl, rfl, rfl, rfl⟩, rfl, rfl, rfl, rfl, rfl, rfl⟩, ⟨v0, v1⟩, ⟨v2, v3, v4, v5⟩, v6, v7, ⟨v8, v9⟩, v10, v11⟩, fun k hk => (m2 k (by omega) (by omega)).trans (hM k hk)⟩, ⟨b0, b1, c1, c2, c3, c4, c5, ?_, ?_⟩, hF, hRR, hW⟩
        · intro hb
          obtain ⟨b, hb⟩ := c6 hb
          exact ⟨b, hb.cgL rfl rfl (fun k hk => m3 _ (by omega))⟩
        · intro hb
          obtain ⟨b, hb⟩ := c7 hb
          exact ⟨b, hb.cgL rfl rfl (fun k hk => m3 _ (by omega))⟩
  · rw [if_neg hv, if_neg hv, if_neg hv, s_refB, s_refMB]
    exact ⟨_, _, rfl, rfl, rfl, Rel_ext (Rel_rfd 0 hR) rfl rfl⟩
