/-! ops that change counts or single numbers -/
theorem set_ex (a : Nat → Nat) (c v : Nat) : ∃ a' : Nat → Nat, a' = va_up a c v ∧ a' c = v ∧ ∀ j, j ≠ c → a' j = a j := ⟨_, rfl, va_up_at _ _ _, fun j h => va_up_no _ _ h⟩
set_option maxHeartbeats 1000000 in
theorem op_disperse {WI : q_WI} {N : Nat} : Op_disperse N (Rel WI) := by
  intro cx cf key ms hR
  obtain ⟨⟨a, hI, hX, hM⟩, -⟩ := id hR
  obtain ⟨i1, i2, i3, i4, i5, i6, i7, i8, i9, i10⟩ := hI
  obtain ⟨x1, ⟨x2, x3⟩, ⟨x4, x5, x6, x7⟩, x8, x9, ⟨x10, x11⟩, x12, x13⟩ := hX
  obtain ⟨j0, j1, j2, j3, j4, j5, j6⟩ := id i1
  have h6 : cf 65 6 = nI (a 6) := hM.at (by decide)
  have hc : cx 15 = nI (a 6) := x1.2.2.2.2.2.2.2
  refine ⟨_, _, rfl, rfl, hc.trans h6.symm, ?_⟩
  obtain ⟨a', ea, hc', ho⟩ := set_ex a 6 0
  have e0 := ho 0 (by decide)
  have e1 := ho 1 (by decide)
  have e2 := ho 2 (by decide)
  have e3 := ho 3 (by decide)
  have e4 := ho 4 (by decide)
  have e5 := ho 5 (by decide)
  have e7 := ho 357 (by decide)
  have e8 := ho 358 (by decide)
  have e9 := ho 359 (by decide)
  have hg : ∀ lo hi, 7 ≤ lo → ag a a' lo hi := fun lo hi h j h1 h2 => ho j (by omega)
  have hR' : Rel WI (va_up cx 15 (nI 0)) (va_up cf 65 (upd (cf 65) 6 (nI 0))) key ms := by
    refine Rel_now hR a' ⟨⟨by omega, by omega, by omega, by omega, by omega, by omega, by omega⟩, i2.cg (hg _ _ (by decide)) e9, i3.cg i1 e1 (hg _ _ (by decide)), i4.cg i1 e1 e2 (hg _ _ (by decide)), i5.cg i1 e3 (hg _ _ (by decide)), i6.cg i1 e4 (hg _ _ (by decide)), i7.cg i1 (by omega) e5 (hg _ _ (by decide)), i8.cg (hg _ _ (by decide)), fun k hk => absurd hk (by omega), i10.cg (hg _ _ (by decide))⟩
      ⟨?_, ⟨x2.cg e1 (hg _ _ (by decide)), x3.cg e1 (hg _ _ (by decide))⟩, ⟨x4.cg e2 (hg _ _ (by decide)), x5.cg e2 (hg _ _ (by decide)), x6.cg e2 (hg _ _ (by decide)), x7.cg e2 (hg _ _ (by decide))⟩, x8.cg e3 (hg _ _ (by decide)), x9.cg e4 (hg _ _ (by decide)), ⟨x10.cg e5 (hg _ _ (by decide)), x11.cg e5 (hg _ _ (by decide))⟩, x12.cg (hg _ _ (by decide)), AR.less hc'⟩
      (by rw [va_up_at, ea]; exact hM.up (by decide)) (fun k hk => va_up_no _ _ (by omega)) (fun k _ hk => va_up_no _ _ hk) (fun k hk => by rw [va_up_at, upd_no (by omega)])
    unfold XS at x1 ⊢
    rw [e0, e1, e2, e3, e4, e5, e7, e8, e9, hc']
    exact ⟨x1.1, x1.2.1, x1.2.2.1, x1.2.2.2.1, x1.2.2.2.2.1, x1.2.2.2.2.2.1, x1.2.2.2.2.2.2.1, rfl⟩
  exact Rel_ext hR' rfl rfl
set_option maxHeartbeats 1000000 in
theorem op_clear {WI : q_WI} {N : Nat} : Op_clear N (Rel WI) := by
  intro cx cf key ms hR
  obtain ⟨⟨a, hI, hX, hM⟩, -⟩ := id hR
  obtain ⟨i1, i2, i3, i4, i5, i6, i7, i8, i9, i10⟩ := hI
  obtain ⟨x1, ⟨x2, x3⟩, ⟨x4, x5, x6, x7⟩, x8, x9, ⟨x10, x11⟩, x12, x13⟩ := hX
  obtain ⟨j0, j1, j2, j3, j4, j5, j6⟩ := id i1
  have h6 : cf 65 3 = nI (a 3) := hM.at (by decide)
  have hc : cx 10 = nI (a 3) := x1.2.2.1
  refine ⟨_, _, rfl, rfl, hc.trans h6.symm, ?_⟩
  obtain ⟨a', ea, hc', ho⟩ := set_ex a 3 0
  have e0 := ho 0 (by decide)
  have e1 := ho 1 (by decide)
  have e2 := ho 2 (by decide)
  have e6 := ho 6 (by decide)
  have e4 := ho 4 (by decide)
  have e5 := ho 5 (by decide)
  have e7 := ho 357 (by decide)
  have e8 := ho 358 (by decide)
  have e9 := ho 359 (by decide)
  have hg : ∀ lo hi, 7 ≤ lo → ag a a' lo hi := fun lo hi h j h1 h2 => ho j (by omega)
  have hR' : Rel WI (va_up cx 10 (nI 0)) (va_up cf 65 (upd (cf 65) 3 (nI 0))) key ms := by
    refine Rel_now hR a' ⟨⟨by omega, by omega, by omega, by omega, by omega, by omega, by omega⟩, i2.cg (hg _ _ (by decide)) e9, i3.cg i1 e1 (hg _ _ (by decide)), i4.cg i1 e1 e2 (hg _ _ (by decide)), fun k hk => absurd hk (by omega), i6.cg i1 e4 (hg _ _ (by decide)), i7.cg i1 (by omega) e5 (hg _ _ (by decide)), i8.cg (hg _ _ (by decide)), i9.cg i1 e6 (hg _ _ (by decide)), i10.cg (hg _ _ (by decide))⟩
      ⟨?_, ⟨x2.cg e1 (hg _ _ (by decide)), x3.cg e1 (hg _ _ (by decide))⟩, ⟨x4.cg e2 (hg _ _ (by decide)), x5.cg e2 (hg _ _ (by decide)), x6.cg e2 (hg _ _ (by decide)), x7.cg e2 (hg _ _ (by decide))⟩, AR.less hc', x9.cg e4 (hg _ _ (by decide)), ⟨x10.cg e5 (hg _ _ (by decide)), x11.cg e5 (hg _ _ (by decide))⟩, x12.cg (hg _ _ (by decide)), x13.cg e6 (hg _ _ (by decide))⟩
      (by rw [va_up_at, ea]; exact hM.up (by decide)) (fun k hk => va_up_no _ _ (by omega)) (fun k _ hk => va_up_no _ _ hk) (fun k hk => by rw [va_up_at, upd_no (by omega)])
    unfold XS at x1 ⊢
    rw [e0, e1, e2, e6, e4, e5, e7, e8, e9, hc']
    exact ⟨x1.1, x1.2.1, rfl, x1.2.2.2⟩
  exact Rel_ext hR' rfl rfl
set_option maxHeartbeats 1000000 in
theorem op_untie {WI : q_WI} {N : Nat} : Op_untie N (Rel WI) := by
  intro cx cf key ms hR
  obtain ⟨⟨a, hI, hX, hM⟩, -⟩ := id hR
  obtain ⟨i1, i2, i3, i4, i5, i6, i7, i8, i9, i10⟩ := hI
  obtain ⟨x1, ⟨x2, x3⟩, ⟨x4, x5, x6, x7⟩, x8, x9, ⟨x10, x11⟩, x12, x13⟩ := hX
  obtain ⟨j0, j1, j2, j3, j4, j5, j6⟩ := id i1
  have h6 : cf 65 4 = nI (a 4) := hM.at (by decide)
  have hc : cx 11 = nI (a 4) := x1.2.2.2.1
  refine ⟨_, _, rfl, rfl, hc.trans h6.symm, ?_⟩
  obtain ⟨a', ea, hc', hc2, ho⟩ : ∃ a' : Nat → Nat, a' = va_up (va_up a 4 0) 5 0 ∧ a' 4 = 0 ∧ a' 5 = 0 ∧ ∀ j, j ≠ 4 → j ≠ 5 → a' j = a j := ⟨_, rfl, rfl, rfl, fun j h1 h2 => by rw [va_up_no _ _ h2, va_up_no _ _ h1]⟩
  have e0 := ho 0 (by decide) (by decide)
  have e1 := ho 1 (by decide) (by decide)
  have e2 := ho 2 (by decide) (by decide)
  have e3 := ho 3 (by decide) (by decide)
  have e6 := ho 6 (by decide) (by decide)
  have e7 := ho 357 (by decide) (by decide)
  have e8 := ho 358 (by decide) (by decide)
  have e9 := ho 359 (by decide) (by decide)
  have hg : ∀ lo hi, 7 ≤ lo → ag a a' lo hi := fun lo hi h j h1 h2 => ho j (by omega) (by omega)
  have hR' : Rel WI (va_up (va_up (va_up cx 12 (nI 0)) 13 (nI 0)) 11 (nI 0)) (va_up cf 65 (upd (upd (cf 65) 4 (nI 0)) 5 (nI 0))) key ms := by
    refine Rel_now hR a' ⟨⟨by omega, by omega, by omega, by omega, by omega, by omega, by omega⟩, i2.cg (hg _ _ (by decide)) e9, i3.cg i1 e1 (hg _ _ (by decide)), i4.cg i1 e1 e2 (hg _ _ (by decide)), i5.cg i1 e3 (hg _ _ (by decide)), fun k hk => absurd hk (by omega), fun k hk => absurd hk (by omega), i8.cg (hg _ _ (by decide)), i9.cg i1 e6 (hg _ _ (by decide)), i10.cg (hg _ _ (by decide))⟩
      ⟨?_, ⟨x2.cg e1 (hg _ _ (by decide)), x3.cg e1 (hg _ _ (by decide))⟩, ⟨x4.cg e2 (hg _ _ (by decide)), x5.cg e2 (hg _ _ (by decide)), x6.cg e2 (hg _ _ (by decide)), x7.cg e2 (hg _ _ (by decide))⟩, x8.cg e3 (hg _ _ (by decide)), AR.less hc', ⟨AR.less hc2, AR.less hc2⟩, x12.cg (hg _ _ (by decide)), x13.cg e6 (hg _ _ (by decide))⟩
      (by rw [va_up_at, ea]; exact (hM.up (by decide)).up (by decide)) (fun k hk => by rw [va_up_no _ _ (by omega), va_up_no _ _ (by omega), va_up_no _ _ (by omega)]) (fun k _ hk => va_up_no _ _ hk) (fun k hk => by rw [va_up_at, upd_no (by omega), upd_no (by omega)])
    unfold XS at x1 ⊢
    rw [e0, e1, e2, e3, e6, e7, e8, e9, hc', hc2]
    exact ⟨x1.1, x1.2.1, x1.2.2.1, rfl, rfl, rfl, x1.2.2.2.2.2.2⟩
  exact Rel_ext hR' rfl rfl
set_option maxHeartbeats 1000000 in
theorem op_last {WI : q_WI} {N : Nat} : Op_last N (Rel WI) := by
  intro cx cf key ms y1 y2 hR
  unfold g_X9_last g_X10_last
  rw [s_isCorner, s_in, Option.bind_some, Option.bind_some, if10, if10]
  by_cases hv : wi y1 0 3 = true
  · rw [if_pos hv, if_pos hv, s_isWithin, s_in, Option.bind_some, Option.bind_some, if10, if10]
    by_cases hw : wi y2 0 99 = true
    · rw [if_pos hw, if_pos hw]
      obtain ⟨c, -, hc, rfl⟩ := wi_nI (lo := 0) (hi := 3) (by decide) (by decide) hv
      obtain ⟨v, -, hv2, rfl⟩ := wi_nI (lo := 0) (hi := 99) (by decide) (by decide) hw
      obtain ⟨⟨a, hI, hX, hM⟩, -⟩ := id hR
      obtain ⟨i1, i2, i3, i4, i5, i6, i7, i8, i9, i10⟩ := hI
      obtain ⟨x1, ⟨x2, x3⟩, ⟨x4, x5, x6, x7⟩, x8, x9, ⟨x10, x11⟩, x12, x13⟩ := hX
      obtain ⟨j0, j1, j2, j3, j4, j5, j6⟩ := id i1
      have h6 : cf 65 (345 + c) = nI (a (345 + c)) := hM.at (by omega)
      have hcx : cx 14 = nI 4 := x1.2.2.2.2.2.2.1
      rw [hcx, s_get (by decide) (by decide) (by omega), Option.bind_some, s_set (by decide) (by decide) (by omega), Option.bind_some, if_pos (show c < 4 by omega), show (345 : Int32) + nI c = nI (345 + c) from nI_add 345 c, if_pos (in_n (by omega)), nI_clamp (by omega)]
      refine ⟨_, _, rfl, rfl, (x12 c (by omega)).trans h6.symm, ?_⟩
      obtain ⟨a', ea, hc', ho⟩ := set_ex a (345 + c) v
      have e0 := ho 0 (by omega)
      have e1 := ho 1 (by omega)
      have e2 := ho 2 (by omega)
      have e3 := ho 3 (by omega)
      have e4 := ho 4 (by omega)
      have e5 := ho 5 (by omega)
      have e6 := ho 6 (by omega)
      have e7 := ho 357 (by omega)
      have e8 := ho 358 (by omega)
      have e9 := ho 359 (by omega)
      have hg : ∀ lo hi, hi ≤ 345 ∨ 349 ≤ lo → ag a a' lo hi := fun lo hi h j h1 h2 => ho j (by omega)
      have hR' : Rel WI cx (va_up (va_up cf 10 (upd (cf 10) c (nI v))) 65 (upd (cf 65) (345 + c) (nI v))) key ms := by
        refine Rel_now hR a' ⟨⟨by omega, by omega, by omega, by omega, by omega, by omega, by omega⟩, i2.cg (hg _ _ (by decide)) e9, i3.cg i1 e1 (hg _ _ (by decide)), i4.cg i1 e1 e2 (hg _ _ (by decide)), i5.cg i1 e3 (hg _ _ (by decide)), i6.cg i1 e4 (hg _ _ (by decide)), i7.cg i1 (by omega) e5 (hg _ _ (by decide)), ?_, i9.cg i1 e6 (hg _ _ (by decide)), i10.cg (hg _ _ (by decide))⟩
          ⟨?_, ⟨x2.cg e1 (hg _ _ (by omega)), x3.cg e1 (hg _ _ (by omega))⟩, ⟨x4.cg e2 (hg _ _ (by omega)), x5.cg e2 (hg _ _ (by omega)), x6.cg e2 (hg _ _ (by omega)), x7.cg e2 (hg _ _ (by omega))⟩, x8.cg e3 (hg _ _ (by omega)), x9.cg e4 (hg _ _ (by omega)), ⟨x10.cg e5 (hg _ _ (by omega)), x11.cg e5 (hg _ _ (by omega))⟩, ?_, x13.cg e6 (hg _ _ (by omega))⟩
          (by rw [va_up_at, ea]; exact hM.up (by omega)) (fun k hk => rfl) (fun k _ hk => by rw [va_up_no _ _ hk, va_up_no _ _ (by omega)]) (fun k hk => by rw [va_up_at, upd_no (by omega)])
        · intro k hk
          rcases (show k = c ∨ k ≠ c by omega) with rfl | h
          · rw [hc']; exact hv2
          · rw [ho _ (by omega)]; exact i8 k hk
        · unfold XS at x1 ⊢
          rw [e0, e1, e2, e3, e4, e5, e6, e7, e8, e9]
          exact x1
        · intro k hk
          show upd (cf 10) c (nI v) k = _
          unfold upd
          by_cases h : k = c
          · rw [if_pos h, h, hc']
          · rw [if_neg h, ho _ (by omega)]; exact x12 k hk
      exact Rel_ext hR' rfl rfl
    · rw [if_neg hw, if_neg hw, s_refB, s_refMB]
      exact ⟨_, _, rfl, rfl, rfl, Rel_ext (Rel_rfd 0 hR) rfl rfl⟩
  · rw [if_neg hv, if_neg hv, s_refB, s_refMB]
    exact ⟨_, _, rfl, rfl, rfl, Rel_ext (Rel_rfd 0 hR) rfl rfl⟩
theorem op_part {WI : q_WI} {N : Nat} : Op_part N (Rel WI) := by
  intro cx cf key ms y1 hR
  unfold g_X9_part g_X10_part
  rw [s_isWithin, Option.bind_some, if10]
  by_cases h0 : y1 = 0
  · subst h0
    rw [if_pos (show wi 0 0 1 = true from rfl), if_pos rfl, if_pos rfl]
    exact ⟨_, _, rfl, rfl, hR.2.2.1.1, Rel_ext hR rfl rfl⟩
  · by_cases h1 : y1 = 1
    · subst h1
      rw [if_pos (show wi 1 0 1 = true from rfl), if_neg h0, if_neg h0, if_pos rfl]
      exact ⟨_, _, rfl, rfl, hR.2.2.1.2, Rel_ext hR rfl rfl⟩
    · rw [if_neg, if_neg h0, if_neg h1, s_refB, s_refMB]
      · exact ⟨_, _, rfl, rfl, rfl, Rel_ext (Rel_rfd 0 hR) rfl rfl⟩
      · intro h
        obtain ⟨k, -, hk, rfl⟩ := wi_nI (lo := 0) (hi := 1) (by decide) (by decide) h
        rcases (show k = 0 ∨ k = 1 by omega) with rfl | rfl
        · exact h0 rfl
        · exact h1 rfl
theorem op_status {WI : q_WI} {N : Nat} : Op_status N (Rel WI) := by
  intro cx cf key ms y1 hR
  unfold g_X9_status g_X10_status
  rw [s_isWithin, s_in, Option.bind_some, Option.bind_some, if10, if10]
  by_cases hv : wi y1 0 2 = true
  · rw [if_pos hv, if_pos hv]
    obtain ⟨k, -, hk, rfl⟩ := wi_nI (lo := 0) (hi := 2) (by decide) (by decide) hv
    have hi : inb (nI k) 3 = true := by rw [inb_nI (by omega)]; simp; omega
    rw [if_pos hi, if_pos hi, nI_clamp (by omega)]
    exact ⟨_, _, rfl, rfl, hR.2.2.2.1 k (by omega), Rel_ext hR rfl rfl⟩
  · rw [if_neg hv, if_neg hv, s_refB, s_refAB]
    exact ⟨_, _, rfl, rfl, rfl, Rel_ext (Rel_rfd 0 hR) rfl rfl⟩
theorem op_allowed {WI : q_WI} {N : Nat} (hN : 200 ≤ N) : Op_allowed N (Rel WI) := by
  intro cx cf key ms y1 y2 hR
  unfold g_X9_allowed g_X10_allowed
  rw [s_isRule, s_isRuleM, Option.bind_some, Option.bind_some, if10, if10]
  by_cases hv : wi y1 0 3 = true
  · rw [if_pos hv, if_pos hv, s_isWithin, s_in, Option.bind_some, Option.bind_some, if10, if10]
    by_cases hw : wi y2 1 99 = true
    · rw [if_pos hw, if_pos hw]
      obtain ⟨r, -, hr, rfl⟩ := wi_nI (lo := 0) (hi := 3) (by decide) (by decide) hv
      obtain ⟨n, hn1, hn, rfl⟩ := wi_nI (lo := 1) (hi := 99) (by decide) (by decide) hw
      obtain ⟨⟨a, hI, hX, hM⟩, -⟩ := id hR
      obtain ⟨i1, i2, i3, i4, i5, i6, i7, i8, i9, i10⟩ := hI
      obtain ⟨x1, ⟨x2, x3⟩, ⟨x4, x5, x6, x7⟩, x8, x9, ⟨x10, x11⟩, x12, x13⟩ := hX
      obtain ⟨j0, j1, j2, j3, j4, j5, j6⟩ := id i1
      rw [show cx 0 = nI (a 0) from x1.1.1, s_fits j0 hr (by omega) hN, s_may (show cf 65 0 = nI (a 0) from hM.at (by decide)) j0 hr hn hN, Option.bind_some, Option.bind_some, if10, if10]
      cases fitN (a 0) r n with
      | true => exact ⟨_, _, rfl, rfl, rfl, Rel_ext hR rfl rfl⟩
      | false => exact ⟨_, _, rfl, rfl, rfl, Rel_ext hR rfl rfl⟩
    · rw [if_neg hw, if_neg hw, s_refB, s_refMB]
      exact ⟨_, _, rfl, rfl, rfl, Rel_ext (Rel_rfd 0 hR) rfl rfl⟩
  · rw [if_neg hv, if_neg hv, s_refB, s_refMB]
    exact ⟨_, _, rfl, rfl, rfl, Rel_ext (Rel_rfd 0 hR) rfl rfl⟩
