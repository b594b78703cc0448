/-! rows of numbers -/
theorem s_get {cap n j : Nat} {v : Nat → Int32} (hc : cap < 2147483648) (hn : n ≤ cap) (hj : j < 2147483648) : g_X7_get cap (nI n) v (nI j) = some (if j < n then v j else 0) := by
  unfold g_X7_get
  rw [if_neg (nI_pos hj), ifi (e_le (a := n) (b := j) (by omega) hj), inb_nI hj]
  by_cases h : j < n
  · rw [if_neg (by omega), if_pos (by simp; omega), nI_clamp hj, if_pos h]
  · rw [if_pos (by omega), if_neg h]
theorem s_add {cap n : Nat} {v : Nat → Int32} {x : Int32} (hc : cap < 2147483648) (hn : n < cap) : g_X7_add cap (nI n) v x = some (nI (n + 1), upd v n x) := by
  unfold g_X7_add
  rw [if_neg (fun h => absurd ((e_le (by omega) (by omega)).mp h) (by omega)), inb_nI (by omega), if_pos (by simp; omega), nI_clamp (by omega), z_1]
theorem s_addF {cap n : Nat} {v : Nat → Int32} {x : Int32} (hc : cap < 2147483648) (hn : n = cap) : g_X7_add cap (nI n) v x = some (nI n, v) := by
  unfold g_X7_add
  rw [if_pos (nI_le (by omega) (by omega))]
theorem s_full {cap n : Nat} (hc : cap < 2147483648) (hn : n < 2147483648) : g_X7_isFull cap (nI n) = some (if decide (cap ≤ n) then 1 else 0) := by
  unfold g_X7_isFull
  rw [ifi (e_lt hn hc)]
  by_cases h : n < cap
  · rw [if_pos h]; simp; omega
  · rw [if_neg h]; simp; omega
theorem s_set {cap n j : Nat} {v : Nat → Int32} {x : Int32} (hc : cap < 2147483648) (hn : n ≤ cap) (hj : j < n) : g_X7_set cap (nI n) v (nI j) x = some (upd v j x) := by
  unfold g_X7_set
  rw [if_neg (nI_pos (by omega)), if_neg (fun h => absurd ((e_le (by omega) (by omega)).mp h) (by omega)), inb_nI (by omega), if_pos (by simp; omega), nI_clamp (by omega)]
theorem cl_add {k b : Nat} (hk : k < 2147483648) (hb : b + k < 2147483648) : (nI b + nI k).toNatClampNeg = b + k := by rw [nI_add, nI_clamp hb]
theorem upd_at {f : Nat → Int32} {k : Nat} {x : Int32} : upd f k x k = x := by unfold upd; rw [if_pos rfl]
theorem upd_no {f : Nat → Int32} {k j : Nat} {x : Int32} (h : j ≠ k) : upd f k x j = f j := by unfold upd; rw [if_neg h]
theorem nI_m1 (n : Nat) : nI (n + 1) - 1 = nI n := nI_pred n
theorem h65 {cf : Nat → Nat → Int32} {f : Nat → Int32} (h : ∀ k, 359 ≤ k → f k = cf 65 k) : ∀ k, 359 ≤ k → (va_up cf 65 f) 65 k = cf 65 k := by intro k hk; rw [va_up_at]; exact h k hk
theorem push_ex (a : Nat → Nat) {c b : Nat} (v : Nat) (hb : c < b) : ∃ a' : Nat → Nat, a' = va_up (va_up a (b + a c) v) c (a c + 1) ∧ a' c = a c + 1 ∧ a' (b + a c) = v ∧ ∀ j, j ≠ c → j ≠ b + a c → a' j = a j := by
  refine ⟨_, rfl, va_up_at _ _ _, ?_, fun j h1 h2 => ?_⟩
  · rw [va_up_no _ _ (by omega), va_up_at]
  · rw [va_up_no _ _ h1, va_up_no _ _ h2]
theorem s_size (x : Int32) : g_X7_size x = some x := rfl
theorem in6 : inb 6 1080 = true := rfl
theorem in4 : inb 4 1080 = true := rfl
theorem in5 : inb 5 1080 = true := rfl
theorem in1 : inb 1 1080 = true := rfl
theorem in3 : inb 3 1080 = true := rfl
theorem in_n {k : Nat} (h : k < 1080) : inb (nI k) 1080 = true := by rw [inb_nI (by omega)]; simpa using h
set_option maxHeartbeats 1000000 in
theorem op_company {WI : q_WI} {N : Nat} : Op_company N (Rel WI) := by
  intro cx cf key ms x1 hR
  unfold g_X9_company g_X10_company
  rw [s_isWithin, s_in, Option.bind_some, Option.bind_some, if10, if10]
  by_cases hv : wi x1 1 20 = true
  · rw [if_pos hv, if_pos hv]
    obtain ⟨v, hv1, hv2, rfl⟩ := wi_nI (lo := 1) (hi := 20) (by decide) (by decide) hv
    obtain ⟨⟨a, hI, hX, hM⟩, -⟩ := id hR
    obtain ⟨i1, i2, i3, i4, i5, i6, i7, i8, i9, i10⟩ := hI
    obtain ⟨x1, ⟨x2, x3⟩, ⟨x4, x5, x6, x7⟩, x8, x9, ⟨x10, x11⟩, x12, x13⟩ := hX
    obtain ⟨j0, j1, j2, j3, j4, j5, j6⟩ := id i1
    have h6 : cf 65 6 = nI (a 6) := hM.at (by decide)
    have hc : cx 15 = nI (a 6) := x1.2.2.2.2.2.2.2
    rw [hc, s_full (by decide) (by omega), Option.bind_some, if10, if_pos in6, show (6 : Int32).toNatClampNeg = 6 from rfl, h6, ifi (show nI (a 6) = 8 ↔ a 6 = 8 from e_eq (b := 8) (by omega) (by decide))]
    by_cases hf : a 6 = 8
    · rw [if_pos (by simp; omega), if_pos hf, s_refF, s_refMF]
      refine ⟨_, _, rfl, rfl, rfl, Rel_ext (Rel_rfd 2 hR) ?_ rfl⟩
      show LX.map (va_up cx 15 (nI (a 6))) = LX.map cx
      rw [← hc, va_up_id]
    · rw [if_neg (by simp; omega), if_neg hf, s_add (by decide) (by omega), Option.bind_some, s_size, Option.bind_some, nI_m1, show (349 : Int32) + nI (a 6) = nI (349 + a 6) from nI_add 349 (a 6), if_pos (in_n (by omega)), nI_clamp (by omega), upd_no (by omega), h6, z_1]
      refine ⟨_, _, rfl, rfl, rfl, ?_⟩
      obtain ⟨a', ea, hc', hb', ho⟩ := push_ex a (c := 6) (b := 349) v (by decide)
      have e0 := ho 0 (by decide) (by omega)
      have e1 := ho 1 (by decide) (by omega)
      have e2 := ho 2 (by decide) (by omega)
      have e3 := ho 3 (by decide) (by omega)
      have e4 := ho 4 (by decide) (by omega)
      have e5 := ho 5 (by decide) (by omega)
      have e7 := ho 357 (by decide) (by omega)
      have e8 := ho 358 (by decide) (by omega)
      have e9 := ho 359 (by decide) (by omega)
      have hg : ∀ lo hi, 7 ≤ lo → hi ≤ 349 ∨ 357 ≤ lo → ag a a' lo hi := fun lo hi h h' j h1 h2 => ho j (by omega) (by omega)
      have hR' : Rel WI (va_up cx 15 (nI (a 6 + 1))) (va_up (va_up cf 11 (upd (cf 11) (a 6) (nI v))) 65 (upd (upd (cf 65) (349 + a 6) (nI v)) 6 (nI (a 6 + 1)))) key ms := by
        refine Rel_now hR a' ⟨⟨by omega, by omega, by omega, by omega, by omega, by omega, by omega⟩, i2.cg (hg _ _ (by decide) (by decide)) e9, i3.cg i1 e1 (hg _ _ (by decide) (by decide)), i4.cg i1 e1 e2 (hg _ _ (by decide) (by decide)), i5.cg i1 e3 (hg _ _ (by decide) (by decide)), i6.cg i1 e4 (hg _ _ (by decide) (by decide)), i7.cg i1 (by omega) e5 (hg _ _ (by decide) (by decide)), i8.cg (hg _ _ (by decide) (by decide)), ?_, i10.cg (hg _ _ (by decide) (by decide))⟩
          ⟨?_, ⟨x2.cg e1 (hg _ _ (by decide) (by omega)), x3.cg e1 (hg _ _ (by decide) (by omega))⟩, ⟨x4.cg e2 (hg _ _ (by decide) (by omega)), x5.cg e2 (hg _ _ (by decide) (by omega)), x6.cg e2 (hg _ _ (by decide) (by omega)), x7.cg e2 (hg _ _ (by decide) (by omega))⟩, x8.cg e3 (hg _ _ (by decide) (by omega)), x9.cg e4 (hg _ _ (by decide) (by omega)), ⟨x10.cg e5 (hg _ _ (by decide) (by omega)), x11.cg e5 (hg _ _ (by decide) (by omega))⟩, x12.cg (hg _ _ (by decide) (by decide)), x13.push hc' (fun j h1 h2 => ho j (by omega) (by omega)) hb'⟩
          (by rw [va_up_at, ea]; exact (hM.up (by omega)).up (by decide)) (fun k hk => va_up_no _ _ (by omega)) (fun k _ hk => by rw [va_up_no _ _ hk, va_up_no _ _ (by omega)]) (fun k hk => by rw [va_up_at, upd_no (by omega), upd_no (by omega)])
        · intro k hk
          rcases (show k = a 6 ∨ k < a 6 by omega) with rfl | h
          · rw [hb']; exact ⟨hv1, hv2⟩
          · rw [ho _ (by omega) (by omega)]; exact i9 k h
        · unfold XS at x1 ⊢
          rw [e0, e1, e2, e3, e4, e5, e7, e8, e9, hc']
          exact ⟨x1.1, x1.2.1, x1.2.2.1, x1.2.2.2.1, x1.2.2.2.2.1, x1.2.2.2.2.2.1, x1.2.2.2.2.2.2.1, rfl⟩
      exact Rel_ext hR' rfl rfl
  · rw [if_neg hv, if_neg hv, s_refB, s_refMB]
    exact ⟨_, _, rfl, rfl, rfl, Rel_ext (Rel_rfd 0 hR) rfl rfl⟩
set_option maxHeartbeats 1000000 in
theorem op_knot {WI : q_WI} {N : Nat} : Op_knot N (Rel WI) := by
  intro cx cf key ms x1 hR
  unfold g_X9_knot g_X10_knot
  rw [s_isWithin, s_in, Option.bind_some, Option.bind_some, if10, if10]
  by_cases hv : wi x1 1 9 = true
  · rw [if_pos hv, if_pos hv]
    obtain ⟨v, hv1, hv2, rfl⟩ := wi_nI (lo := 1) (hi := 9) (by decide) (by decide) hv
    obtain ⟨⟨a, hI, hX, hM⟩, -⟩ := id hR
    obtain ⟨i1, i2, i3, i4, i5, i6, i7, i8, i9, i10⟩ := hI
    obtain ⟨x1, ⟨x2, x3⟩, ⟨x4, x5, x6, x7⟩, x8, x9, ⟨x10, x11⟩, x12, x13⟩ := hX
    obtain ⟨j0, j1, j2, j3, j4, j5, j6⟩ := id i1
    have h6 : cf 65 4 = nI (a 4) := hM.at (by decide)
    have hc : cx 11 = nI (a 4) := x1.2.2.2.1
    rw [hc, s_full (by decide) (by omega), Option.bind_some, if10, if_pos in4, show (4 : Int32).toNatClampNeg = 4 from rfl, h6, ifi (show nI (a 4) = 8 ↔ a 4 = 8 from e_eq (b := 8) (by omega) (by decide))]
    by_cases hf : a 4 = 8
    · rw [if_pos (by simp; omega), if_pos hf, s_refF, s_refMF]
      refine ⟨_, _, rfl, rfl, rfl, Rel_ext (Rel_rfd 2 hR) ?_ rfl⟩
      show LX.map (va_up cx 11 (nI (a 4))) = LX.map cx
      rw [← hc, va_up_id]
    · rw [if_neg (by simp; omega), if_neg hf, s_add (by decide) (by omega), Option.bind_some, s_size, Option.bind_some, nI_m1, show (329 : Int32) + nI (a 4) = nI (329 + a 4) from nI_add 329 (a 4), if_pos (in_n (by omega)), nI_clamp (by omega), upd_no (by omega), h6, z_1]
      refine ⟨_, _, rfl, rfl, rfl, ?_⟩
      obtain ⟨a', ea, hc', hb', ho⟩ := push_ex a (c := 4) (b := 329) v (by decide)
      have e0 := ho 0 (by decide) (by omega)
      have e1 := ho 1 (by decide) (by omega)
      have e2 := ho 2 (by decide) (by omega)
      have e3 := ho 3 (by decide) (by omega)
      have e6 := ho 6 (by decide) (by omega)
      have e5 := ho 5 (by decide) (by omega)
      have e7 := ho 357 (by decide) (by omega)
      have e8 := ho 358 (by decide) (by omega)
      have e9 := ho 359 (by decide) (by omega)
      have hg : ∀ lo hi, 7 ≤ lo → hi ≤ 329 ∨ 337 ≤ lo → ag a a' lo hi := fun lo hi h h' j h1 h2 => ho j (by omega) (by omega)
      have hR' : Rel WI (va_up cx 11 (nI (a 4 + 1))) (va_up (va_up cf 7 (upd (cf 7) (a 4) (nI v))) 65 (upd (upd (cf 65) (329 + a 4) (nI v)) 4 (nI (a 4 + 1)))) key ms := by
        refine Rel_now hR a' ⟨⟨by omega, by omega, by omega, by omega, by omega, by omega, by omega⟩, i2.cg (hg _ _ (by decide) (by decide)) e9, i3.cg i1 e1 (hg _ _ (by decide) (by decide)), i4.cg i1 e1 e2 (hg _ _ (by decide) (by decide)), i5.cg i1 e3 (hg _ _ (by decide) (by decide)), ?_, i7.cg i1 (by omega) e5 (hg _ _ (by decide) (by decide)), i8.cg (hg _ _ (by decide) (by decide)), i9.cg i1 e6 (hg _ _ (by decide) (by decide)), i10.cg (hg _ _ (by decide) (by decide))⟩
          ⟨?_, ⟨x2.cg e1 (hg _ _ (by decide) (by omega)), x3.cg e1 (hg _ _ (by decide) (by omega))⟩, ⟨x4.cg e2 (hg _ _ (by decide) (by omega)), x5.cg e2 (hg _ _ (by decide) (by omega)), x6.cg e2 (hg _ _ (by decide) (by omega)), x7.cg e2 (hg _ _ (by decide) (by omega))⟩, x8.cg e3 (hg _ _ (by decide) (by omega)), x9.push hc' (fun j h1 h2 => ho j (by omega) (by omega)) hb', ⟨x10.cg e5 (hg _ _ (by decide) (by omega)), x11.cg e5 (hg _ _ (by decide) (by omega))⟩, x12.cg (hg _ _ (by decide) (by decide)), x13.cg e6 (hg _ _ (by decide) (by omega))⟩
          (by rw [va_up_at, ea]; exact (hM.up (by omega)).up (by decide)) (fun k hk => va_up_no _ _ (by omega)) (fun k _ hk => by rw [va_up_no _ _ hk, va_up_no _ _ (by omega)]) (fun k hk => by rw [va_up_at, upd_no (by omega), upd_no (by omega)])
        · intro k hk
          rcases (show k = a 4 ∨ k < a 4 by omega) with rfl | h
          · rw [hb']; exact ⟨hv1, hv2⟩
          · rw [ho _ (by omega) (by omega)]; exact i6 k h
        · unfold XS at x1 ⊢
          rw [e0, e1, e2, e3, e5, e6, e7, e8, e9, hc']
          exact ⟨x1.1, x1.2.1, x1.2.2.1, rfl, x1.2.2.2.2⟩
      exact Rel_ext hR' rfl rfl
  · rw [if_neg hv, if_neg hv, s_refB, s_refMB]
    exact ⟨_, _, rfl, rfl, rfl, Rel_ext (Rel_rfd 0 hR) rfl rfl⟩
