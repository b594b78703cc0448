/-! counted, one -/
def kn (x : Int32) (n : Nat) : Bool := wi x 0 (nI n - 1)
theorem kn_of {x : Int32} {n : Nat} (hn : n < 2147483648) (h : kn x n = true) : ∃ k, k < n ∧ x = nI k := by
  unfold kn at h
  rcases (show n = 0 ∨ 1 ≤ n by omega) with rfl | h1
  · exfalso
    unfold wi at h
    rw [Bool.and_eq_true, decide_eq_true_eq, decide_eq_true_eq] at h
    have : (0 : Int32) ≤ nI 0 - 1 := by
      rw [Int32.le_iff_toInt_le] at h ⊢
      rw [Int32.le_iff_toInt_le] at h
      omega
    exact absurd this (by decide)
  · rw [z_sub1 h1] at h
    obtain ⟨k, -, hk, rfl⟩ := wi_nI (lo := 0) (hi := n - 1) (by decide) (by omega) h
    exact ⟨k, by omega, rfl⟩
theorem s_isKnot (n : Nat) (x : Int32) : g_X9_isKnot (nI n) x = some (if kn x n then 1 else 0) := by
  unfold g_X9_isKnot
  rw [s_size, Option.bind_some, s_isWithin, Option.bind_some, if_pos (zb_if _)]
  rfl
theorem s_isKnotM {al : Nat → Int32} {n : Nat} (h : al 4 = nI n) (x : Int32) : g_X10_isKnot al x = some (if kn x n then 1 else 0) := by
  unfold g_X10_isKnot
  rw [if_pos in4, show (4 : Int32).toNatClampNeg = 4 from rfl, h, s_in, Option.bind_some, if_pos (zb_if _)]
  rfl
set_option maxHeartbeats 2000000 in
theorem op_counted {WI : q_WI} {N : Nat} : Op_counted N (Rel WI) := by
  intro cx cf key ms y1 y2 hR
  obtain ⟨⟨a, hI, hX, hM⟩, -⟩ := id hR
  obtain ⟨i1, i2, i3, i4, i5, i6, i7, i8, i9, i10⟩ := hI
  obtain ⟨x1, ⟨x2, x3⟩, ⟨x4, x5, x6, x7⟩, x8, x9, ⟨x10, x11⟩, x12, x13⟩ := hX
  obtain ⟨j0, j1, j2, j3, j4, j5, j6⟩ := id i1
  have h4 : cf 65 4 = nI (a 4) := hM.at (by decide)
  have h5 : cf 65 5 = nI (a 5) := hM.at (by decide)
  have hk : cx 11 = nI (a 4) := x1.2.2.2.1
  have hc : cx 12 = nI (a 5) := x1.2.2.2.2.1
  have hd : cx 13 = nI (a 5) := x1.2.2.2.2.2.1
  unfold g_X9_counted g_X10_counted
  rw [hk, s_isKnot, s_isKnotM h4, Option.bind_some, Option.bind_some, if10, if10]
  by_cases hv : kn y1 (a 4) = true
  · rw [if_pos hv, if_pos hv, s_isWithin, s_in, Option.bind_some, Option.bind_some, if10, if10]
    by_cases hw : wi y2 1 72 = true
    · rw [if_pos hw, if_pos hw, hc, hd, s_full (by decide) (by omega), Option.bind_some, if10, if_pos in5, show (5 : Int32).toNatClampNeg = 5 from rfl, h5, ifi (show nI (a 5) = 4 ↔ a 5 = 4 from e_eq (b := 4) (by omega) (by decide))]
      obtain ⟨u, hu, rfl⟩ := kn_of (by omega) hv
      obtain ⟨v, hv1, hv2, rfl⟩ := wi_nI (lo := 1) (hi := 72) (by decide) (by decide) hw
      by_cases hf : a 5 = 4
      · rw [if_pos (by simp; omega), if_pos hf, s_refF, s_refMF]
        refine ⟨_, _, rfl, rfl, rfl, Rel_ext (Rel_rfd 2 hR) ?_ rfl⟩
        show LX.map (va_up (va_up cx 12 (nI (a 5))) 13 (nI (a 5))) = LX.map cx
        have : va_up (va_up cx 12 (nI (a 5))) 13 (nI (a 5)) = cx := by
          funext j
          unfold va_up
          split
          · next h => rw [h, hd]
          · split
            · next h => rw [h, hc]
            · rfl
        rw [this]
      · rw [if_neg (by simp; omega), if_neg hf, s_add (by decide) (by omega), Option.bind_some, s_add (by decide) (by omega), Option.bind_some, s_size, Option.bind_some, show (337 : Int32) + nI (a 5) = nI (337 + a 5) from nI_add 337 (a 5), show (341 : Int32) + nI (a 5) = nI (341 + a 5) from nI_add 341 (a 5), if_pos (in_n (by omega)), if_pos (in_n (by omega)), nI_clamp (by omega), nI_clamp (by omega), upd_no (by omega), upd_no (by omega), h5, z_1]
        refine ⟨_, _, rfl, rfl, rfl, ?_⟩
        obtain ⟨a', ea, hc', hb', hd', ho⟩ : ∃ a' : Nat → Nat, a' = va_up (va_up (va_up a (337 + a 5) u) (341 + a 5) v) 5 (a 5 + 1) ∧ a' 5 = a 5 + 1 ∧ a' (337 + a 5) = u ∧ a' (341 + a 5) = v ∧ ∀ j, j ≠ 5 → j ≠ 337 + a 5 → j ≠ 341 + a 5 → a' j = a j :=
          ⟨_, rfl, va_up_at _ _ _, by rw [va_up_no _ _ (by omega), va_up_no _ _ (by omega), va_up_at], by rw [va_up_no _ _ (by omega), va_up_at], fun j h1 h2 h3 => by rw [va_up_no _ _ h1, va_up_no _ _ h3, va_up_no _ _ h2]⟩
        have e0 := ho 0 (by decide) (by omega) (by omega)
        have e1 := ho 1 (by decide) (by omega) (by omega)
        have e2 := ho 2 (by decide) (by omega) (by omega)
        have e3 := ho 3 (by decide) (by omega) (by omega)
        have e4 := ho 4 (by decide) (by omega) (by omega)
        have e6 := ho 6 (by decide) (by omega) (by omega)
        have e7 := ho 357 (by decide) (by omega) (by omega)
        have e8 := ho 358 (by decide) (by omega) (by omega)
        have e9 := ho 359 (by decide) (by omega) (by omega)
        have hg : ∀ lo hi, 7 ≤ lo → hi ≤ 337 ∨ 345 ≤ lo → ag a a' lo hi := fun lo hi h h' j h1 h2 => ho j (by omega) (by omega) (by omega)
        have hR' : Rel WI (va_up (va_up cx 12 (nI (a 5 + 1))) 13 (nI (a 5 + 1))) (va_up (va_up (va_up cf 8 (upd (cf 8) (a 5) (nI u))) 9 (upd (cf 9) (a 5) (nI v))) 65 (upd (upd (upd (cf 65) (337 + a 5) (nI u)) (341 + a 5) (nI v)) 5 (nI (a 5 + 1)))) key ms := by
          refine Rel_now hR a' ⟨⟨by omega, by omega, by omega, by omega, by omega, by omega, by omega⟩, i2.cg (hg _ _ (by decide) (by decide)) e9, i3.cg i1 e1 (hg _ _ (by decide) (by decide)), i4.cg i1 e1 e2 (hg _ _ (by decide) (by decide)), i5.cg i1 e3 (hg _ _ (by decide) (by decide)), i6.cg i1 e4 (hg _ _ (by decide) (by decide)), ?_, i8.cg (hg _ _ (by decide) (by decide)), i9.cg i1 e6 (hg _ _ (by decide) (by decide)), i10.cg (hg _ _ (by decide) (by decide))⟩
            ⟨?_, ⟨x2.cg e1 (hg _ _ (by decide) (by omega)), x3.cg e1 (hg _ _ (by decide) (by omega))⟩, ⟨x4.cg e2 (hg _ _ (by decide) (by omega)), x5.cg e2 (hg _ _ (by decide) (by omega)), x6.cg e2 (hg _ _ (by decide) (by omega)), x7.cg e2 (hg _ _ (by decide) (by omega))⟩, x8.cg e3 (hg _ _ (by decide) (by omega)), x9.cg e4 (hg _ _ (by decide) (by omega)), ⟨x10.push hc' (fun j h1 h2 => ho j (by omega) (by omega) (by omega)) hb', x11.push hc' (fun j h1 h2 => ho j (by omega) (by omega) (by omega)) hd'⟩, x12.cg (hg _ _ (by decide) (by decide)), x13.cg e6 (hg _ _ (by decide) (by omega))⟩
            (by rw [va_up_at, ea]; exact ((hM.up (by omega)).up (by omega)).up (by decide)) (fun k hk => by rw [va_up_no _ _ (by omega), va_up_no _ _ (by omega)]) (fun k _ hk => by rw [va_up_no _ _ hk, va_up_no _ _ (by omega), va_up_no _ _ (by omega)]) (fun k hk => by rw [va_up_at, upd_no (by omega), upd_no (by omega), upd_no (by omega)])
          · intro k hk
            rw [e4]
            rcases (show k = a 5 ∨ k < a 5 by omega) with rfl | h
            · rw [hb', hd']; exact ⟨hu, hv1, hv2⟩
            · rw [ho (337 + k) (by omega) (by omega) (by omega), ho (341 + k) (by omega) (by omega) (by omega)]; exact i7 k h
          · unfold XS at x1 ⊢
            rw [e0, e1, e2, e3, e4, e6, e7, e8, e9, hc']
            exact ⟨x1.1, x1.2.1, x1.2.2.1, x1.2.2.2.1, rfl, rfl, x1.2.2.2.2.2.2⟩
        exact Rel_ext hR' rfl rfl
    · rw [if_neg hw, if_neg hw, s_refB, s_refMB]
      exact ⟨_, _, rfl, rfl, rfl, Rel_ext (Rel_rfd 0 hR) rfl rfl⟩
  · rw [if_neg hv, if_neg hv, s_refB, s_refMB]
    exact ⟨_, _, rfl, rfl, rfl, Rel_ext (Rel_rfd 0 hR) rfl rfl⟩
set_option maxHeartbeats 2000000 in
theorem op_one {WI : q_WI} {N : Nat} : Op_one N (Rel WI) := by
  intro cx cf key ms y1 y2 hR
  obtain ⟨⟨a, hI, hX, hM⟩, -⟩ := id hR
  obtain ⟨i1, i2, i3, i4, i5, i6, i7, i8, i9, i10⟩ := hI
  obtain ⟨x1, ⟨x2, x3⟩, ⟨x4, x5, x6, x7⟩, x8, x9, ⟨x10, x11⟩, x12, x13⟩ := hX
  obtain ⟨j0, j1, j2, j3, j4, j5, j6⟩ := id i1
  have h1 : cf 65 1 = nI (a 1) := hM.at (by decide)
  have hc : cx 4 = nI (a 1) := x1.2.1.1
  have hd : cx 5 = nI (a 1) := x1.2.1.2.1
  unfold g_X9_one g_X10_one
  rw [s_isCorner, s_in, Option.bind_some, Option.bind_some, if10, if10]
  by_cases hv : wi y1 0 3 = true
  · rw [if_pos hv, if_pos hv, s_isCorner, s_in, Option.bind_some, Option.bind_some, if10, if10]
    by_cases hw : wi y2 0 3 = true
    · rw [if_pos hw, if_pos hw, hc, hd, s_full (by decide) (by omega), Option.bind_some, if10, if_pos in1, show (1 : Int32).toNatClampNeg = 1 from rfl, h1, ifi (show nI (a 1) = 5 ↔ a 1 = 5 from e_eq (b := 5) (by omega) (by decide))]
      obtain ⟨u, -, hu, rfl⟩ := wi_nI (lo := 0) (hi := 3) (by decide) (by decide) hv
      obtain ⟨v, -, hv2, rfl⟩ := wi_nI (lo := 0) (hi := 3) (by decide) (by decide) hw
      by_cases hf : a 1 = 5
      · rw [if_pos (by simp; omega), if_pos hf, s_refF, s_refMF]
        refine ⟨_, _, rfl, rfl, rfl, Rel_ext (Rel_rfd 2 hR) ?_ rfl⟩
        show LX.map (va_up (va_up cx 5 (nI (a 1))) 4 (nI (a 1))) = LX.map cx
        have : va_up (va_up cx 5 (nI (a 1))) 4 (nI (a 1)) = cx := by
          funext j
          unfold va_up
          split
          · next h => rw [h, hc]
          · split
            · next h => rw [h, hd]
            · rfl
        rw [this]
      · have hadd : g_X2_addPerson (nI (a 1)) (cf 1) (nI (a 1)) (cf 0) (nI u) (nI v) = some (nI (a 1 + 1), upd (cf 1) (a 1) (nI v), nI (a 1 + 1), upd (cf 0) (a 1) (nI u)) := by
          unfold g_X2_addPerson
          rw [s_add (by decide) (by omega), Option.bind_some, s_add (by decide) (by omega)]
          rfl
        rw [if_neg (by simp; omega), if_neg hf, hadd, Option.bind_some, show g_X2_people (nI (a 1 + 1)) = some (nI (a 1 + 1)) from rfl, Option.bind_some, nI_m1, show (23 : Int32) + nI (a 1) = nI (23 + a 1) from nI_add 23 (a 1), show (28 : Int32) + nI (a 1) = nI (28 + a 1) from nI_add 28 (a 1), if_pos (in_n (by omega)), if_pos (in_n (by omega)), nI_clamp (by omega), nI_clamp (by omega), upd_no (by omega), upd_no (by omega), h1, z_1]
        refine ⟨_, _, rfl, rfl, rfl, ?_⟩
        obtain ⟨a', ea, hc', hb', hd', ho⟩ : ∃ a' : Nat → Nat, a' = va_up (va_up (va_up a (23 + a 1) u) (28 + a 1) v) 1 (a 1 + 1) ∧ a' 1 = a 1 + 1 ∧ a' (23 + a 1) = u ∧ a' (28 + a 1) = v ∧ ∀ j, j ≠ 1 → j ≠ 23 + a 1 → j ≠ 28 + a 1 → a' j = a j :=
          ⟨_, rfl, va_up_at _ _ _, by rw [va_up_no _ _ (by omega), va_up_no _ _ (by omega), va_up_at], by rw [va_up_no _ _ (by omega), va_up_at], fun j h1 h2 h3 => by rw [va_up_no _ _ h1, va_up_no _ _ h3, va_up_no _ _ h2]⟩
        have e0 := ho 0 (by decide) (by omega) (by omega)
        have e2 := ho 2 (by decide) (by omega) (by omega)
        have e3 := ho 3 (by decide) (by omega) (by omega)
        have e4 := ho 4 (by decide) (by omega) (by omega)
        have e5 := ho 5 (by decide) (by omega) (by omega)
        have e6 := ho 6 (by decide) (by omega) (by omega)
        have e7 := ho 357 (by decide) (by omega) (by omega)
        have e8 := ho 358 (by decide) (by omega) (by omega)
        have e9 := ho 359 (by decide) (by omega) (by omega)
        have hg : ∀ lo hi, 7 ≤ lo → hi ≤ 23 ∨ 33 ≤ lo → ag a a' lo hi := fun lo hi h h' j h1 h2 => ho j (by omega) (by omega) (by omega)
        have hR' : Rel WI (va_up (va_up cx 5 (nI (a 1 + 1))) 4 (nI (a 1 + 1))) (va_up (va_up (va_up cf 1 (upd (cf 1) (a 1) (nI v))) 0 (upd (cf 0) (a 1) (nI u))) 65 (upd (upd (upd (cf 65) (23 + a 1) (nI u)) (28 + a 1) (nI v)) 1 (nI (a 1 + 1)))) key ms := by
          refine Rel_now hR a' ⟨⟨by omega, by omega, by omega, by omega, by omega, by omega, by omega⟩, i2.cg (hg _ _ (by decide) (by decide)) e9, ?_, ?_, i5.cg i1 e3 (hg _ _ (by decide) (by decide)), i6.cg i1 e4 (hg _ _ (by decide) (by decide)), i7.cg i1 (by omega) e5 (hg _ _ (by decide) (by decide)), i8.cg (hg _ _ (by decide) (by decide)), i9.cg i1 e6 (hg _ _ (by decide) (by decide)), i10.cg (hg _ _ (by decide) (by decide))⟩
            ⟨?_, ⟨x2.push hc' (fun j h1 h2 => ho j (by omega) (by omega) (by omega)) hb', x3.push hc' (fun j h1 h2 => ho j (by omega) (by omega) (by omega)) hd'⟩, ⟨x4.cg e2 (hg _ _ (by decide) (by omega)), x5.cg e2 (hg _ _ (by decide) (by omega)), x6.cg e2 (hg _ _ (by decide) (by omega)), x7.cg e2 (hg _ _ (by decide) (by omega))⟩, x8.cg e3 (hg _ _ (by decide) (by omega)), x9.cg e4 (hg _ _ (by decide) (by omega)), ⟨x10.cg e5 (hg _ _ (by decide) (by omega)), x11.cg e5 (hg _ _ (by decide) (by omega))⟩, x12.cg (hg _ _ (by decide) (by decide)), x13.cg e6 (hg _ _ (by decide) (by omega))⟩
            (by rw [va_up_at, ea]; exact ((hM.up (by omega)).up (by omega)).up (by decide)) (fun k hk => by rw [va_up_no _ _ (by omega), va_up_no _ _ (by omega)]) (fun k _ hk => by rw [va_up_no _ _ hk, va_up_no _ _ (by omega), va_up_no _ _ (by omega)]) (fun k hk => by rw [va_up_at, upd_no (by omega), upd_no (by omega), upd_no (by omega)])
          · intro k hk
            rcases (show k = a 1 ∨ k < a 1 by omega) with rfl | h
            · rw [hb', hd']; exact ⟨by omega, by omega⟩
            · rw [ho (23 + k) (by omega) (by omega) (by omega), ho (28 + k) (by omega) (by omega) (by omega)]; exact i3 k h
          · intro k hk
            rw [e2] at hk
            rw [ho (33 + k) (by omega) (by omega) (by omega), ho (57 + k) (by omega) (by omega) (by omega), ho (81 + k) (by omega) (by omega) (by omega), ho (105 + k) (by omega) (by omega) (by omega), hc']
            have h9 := i4 k hk
            exact ⟨h9.1, h9.2.1, h9.2.2.1, Nat.lt_of_lt_of_le h9.2.2.2 (Nat.pow_le_pow_right (by decide) (by omega))⟩
          · unfold XS at x1 ⊢
            rw [e0, e2, e3, e4, e5, e6, e7, e8, e9, hc']
            exact ⟨x1.1, ⟨rfl, rfl, x1.2.1.2.2⟩, x1.2.2⟩
        exact Rel_ext hR' rfl rfl
    · rw [if_neg hw, if_neg hw, s_refB, s_refMB]
      exact ⟨_, _, rfl, rfl, rfl, Rel_ext (Rel_rfd 0 hR) rfl rfl⟩
  · rw [if_neg hv, if_neg hv, s_refB, s_refMB]
    exact ⟨_, _, rfl, rfl, rfl, Rel_ext (Rel_rfd 0 hR) rfl rfl⟩
