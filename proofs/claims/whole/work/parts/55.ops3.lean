/-! put, counted, hired -/
def hir (c : Nat → Bool) : Nat → Nat → Int32
  | 0, _ => -1
  | m + 1, k => if c k then nI k else hir c m (k + 1)
def hcond (s r : Nat) (y : Int32) (k : Nat) : Bool := (decide (y = 0) || decide (k = 0) || fitN s r k) && fitN s r (k + 1)
theorem s_hired_18 {s r N : Nat} {y : Int32} {rf : Nat → Int32} (hs : s < 1048576) (hr : r ≤ 3) (hN : 200 ≤ N) : ∀ (m k f : Nat), 41 = k + m → m < f → g_X9_hired_18 N (nI s) (nI r) y f (nI k) rf = some (hir (hcond s r y) m k, rf) := by
  intro m
  induction m with
  | zero =>
    intro k f h1 h2
    obtain ⟨f, rfl⟩ : ∃ g, f = g + 1 := ⟨f - 1, by omega⟩
    rw [g_X9_hired_18, if_pos (show 40 < nI k from nI_lt (a := 40) (by omega) (by omega))]
    rfl
  | succ m ih =>
    intro k f h1 h2
    obtain ⟨f, rfl⟩ : ∃ g, f = g + 1 := ⟨f - 1, by omega⟩
    rw [g_X9_hired_18, if_neg (show ¬ 40 < nI k from fun h => absurd ((e_lt (a := 40) (by decide) (by omega)).mp h) (by omega))]
    have h44 : g_X9_hired_44 N (nI s) (nI r) (g_X9_hired_18 N (nI s) (nI r) y f) (nI k) rf = some (if fitN s r (k + 1) then nI k else hir (hcond s r y) m (k + 1), rf) := by
      unfold g_X9_hired_44 g_X9_hired_49
      rw [if_neg (by decide), show (1 : Int32) + nI k = nI (1 + k) from nI_add 1 k, s_fits hs hr (by omega) hN, Option.bind_some, if10, z_1, ih (k + 1) f (by omega) (by omega), show 1 + k = k + 1 by omega]
      cases fitN s r (k + 1) <;> rfl
    have h49 : g_X9_hired_49 N (nI s) (nI r) (g_X9_hired_18 N (nI s) (nI r) y f) (nI k) 0 rf = some (hir (hcond s r y) m (k + 1), rf) := by
      unfold g_X9_hired_49
      rw [if_pos rfl, z_1, ih (k + 1) f (by omega) (by omega)]
    rw [h44, h49, s_fits hs hr (by omega) hN, Option.bind_some, if10, ifi (e_eq0 (a := k) (by omega))]
    rw [show hir (hcond s r y) (m + 1) k = if hcond s r y k then nI k else hir (hcond s r y) m (k + 1) from rfl]
    generalize hir (hcond s r y) m (k + 1) = G
    unfold hcond
    by_cases hy : y = 0
    · rw [if_pos hy]; simp [hy]
    · rw [if_neg hy]
      by_cases hk : k = 0
      · rw [if_pos hk]; simp [hk]
      · rw [if_neg hk]
        cases h : fitN s r k <;> simp [hy, hk]
theorem s_hiredM_16 {s r N : Nat} {al : Nat → Int32} {y : Int32} {rf : Nat → Int32} (h0 : al 0 = nI s) (hs : s < 1048576) (hr : r ≤ 3) (hN : 200 ≤ N) : ∀ (m k f : Nat), 41 = k + m → m < f → g_X10_hired_16 N al (nI r) y f (nI k) rf = some (hir (hcond s r y) m k, rf) := by
  intro m
  induction m with
  | zero =>
    intro k f h1 h2
    obtain ⟨f, rfl⟩ : ∃ g, f = g + 1 := ⟨f - 1, by omega⟩
    rw [g_X10_hired_16, if_pos (show 40 < nI k from nI_lt (a := 40) (by omega) (by omega))]
    rfl
  | succ m ih =>
    intro k f h1 h2
    obtain ⟨f, rfl⟩ : ∃ g, f = g + 1 := ⟨f - 1, by omega⟩
    rw [g_X10_hired_16, if_neg (show ¬ 40 < nI k from fun h => absurd ((e_lt (a := 40) (by decide) (by omega)).mp h) (by omega)), show (1 : Int32) + nI k = nI (1 + k) from nI_add 1 k, s_may h0 hs hr (by omega) hN, Option.bind_some, if10, z_1, ih (k + 1) f (by omega) (by omega), s_may h0 hs hr (by omega) hN, Option.bind_some, if10, ifi (e_eq0 (a := k) (by omega)), show 1 + k = k + 1 by omega]
    rw [show hir (hcond s r y) (m + 1) k = if hcond s r y k then nI k else hir (hcond s r y) m (k + 1) from rfl]
    generalize hir (hcond s r y) m (k + 1) = G
    unfold hcond
    cases h : fitN s r (k + 1) with
    | false => simp
    | true =>
      by_cases hy : y = 0
      · rw [if_pos hy]; simp [hy]
      · rw [if_neg hy]
        by_cases hk : k = 0
        · rw [if_pos hk]; simp [hk]
        · rw [if_neg hk]
          cases h : fitN s r k <;> simp [hy, hk]
theorem op_hired {WI : q_WI} {N : Nat} (hN : 200 ≤ N) : Op_hired N (Rel WI) := by
  intro cx cf key ms y1 y2 hR
  unfold g_X9_hired g_X10_hired
  rw [s_isRule, s_isRuleM, Option.bind_some, Option.bind_some, if10, if10]
  by_cases hv : wi y1 0 3 = true
  · rw [if_pos hv, if_pos hv]
    obtain ⟨r, -, hr, rfl⟩ := wi_nI (lo := 0) (hi := 3) (by decide) (by decide) hv
    obtain ⟨⟨a, hI, hX, hM⟩, -⟩ := id hR
    obtain ⟨i1, i2, i3, i4, i5, i6, i7, i8, i9, i10⟩ := hI
    obtain ⟨x1, ⟨x2, x3⟩, ⟨x4, x5, x6, x7⟩, x8, x9, ⟨x10, x11⟩, x12, x13⟩ := hX
    obtain ⟨j0, j1, j2, j3, j4, j5, j6⟩ := id i1
    rw [show cx 0 = nI (a 0) from x1.1.1]
    have e1 := s_hired_18 (y := y2) (rf := cf 36) j0 hr hN 41 0 N (by omega) (by omega)
    have e2 := s_hiredM_16 (y := y2) (rf := cf 67) (show cf 65 0 = nI (a 0) from hM.at (by decide)) j0 hr hN 41 0 N (by omega) (by omega)
    exact ⟨_, _, e1, e2, rfl, Rel_ext hR rfl rfl⟩
  · rw [if_neg hv, if_neg hv, s_refB, s_refMB]
    exact ⟨_, _, rfl, rfl, rfl, Rel_ext (Rel_rfd 0 hR) rfl rfl⟩
theorem s_put0 (y x3 x4 : Int32) (f : Nat → Int32) : g_X9_put x4 x3 f 0 y = if wi y 1 60 then some (x4, x3, y, f) else some (-2, x3, x4, rfd f 0) := by
  unfold g_X9_put g_X9_put_32
  rw [if_pos rfl, s_isWithin, Option.bind_some, if10, if_neg (show ¬ (0 : Int32) = 1 by decide), s_refB]
  rfl
theorem s_put1 (y x3 x4 : Int32) (f : Nat → Int32) : g_X9_put x4 x3 f 1 y = if wi y 0 3 then some (x3, y, x4, f) else some (-2, x3, x4, rfd f 0) := by
  unfold g_X9_put g_X9_put_32
  rw [if_neg (show ¬ (1 : Int32) = 0 by decide), if_pos rfl, s_isWithin, Option.bind_some, if10, s_refB]
  rfl
theorem s_put2 (x y x3 x4 : Int32) (f : Nat → Int32) (h0 : ¬ x = 0) (h1 : ¬ x = 1) : g_X9_put x4 x3 f x y = some (-2, x3, x4, rfd f 0) := by
  unfold g_X9_put g_X9_put_32
  rw [if_neg h0, if_neg h1, s_refB]
  rfl
theorem s_putM0 (al f : Nat → Int32) (y : Int32) : g_X10_put al f 0 y = if wi y 1 60 then some (al 357, upd al 357 y, f) else some (-2, al, rfd f 0) := by
  unfold g_X10_put g_X10_put_19 g_X10_put_29
  rw [s_in, Option.bind_some, if10, if_pos (show wi 0 0 1 = true from rfl), if_pos rfl, if_pos rfl, s_in, Option.bind_some, if10, s_refMB]
  rfl
theorem s_putM1 (al f : Nat → Int32) (y : Int32) : g_X10_put al f 1 y = if wi y 0 3 then some (al 358, upd al 358 y, f) else some (-2, al, rfd f 0) := by
  unfold g_X10_put g_X10_put_19 g_X10_put_29
  rw [s_in, Option.bind_some, if10, if_pos (show wi 1 0 1 = true from rfl), if_neg (show ¬ (1 : Int32) = 0 by decide), if_neg (show ¬ (1 : Int32) = 0 by decide), s_in, Option.bind_some, if10, s_refMB]
  rfl
theorem s_putM2 (al f : Nat → Int32) (x y : Int32) (h : ¬ wi x 0 1 = true) : g_X10_put al f x y = some (-2, al, rfd f 0) := by
  unfold g_X10_put
  rw [s_in, Option.bind_some, if10, if_neg h, s_refMB]
  rfl
set_option maxHeartbeats 1000000 in
theorem op_put {WI : q_WI} {N : Nat} : Op_put N (Rel WI) := by
  intro cx cf key ms y1 y2 hR
  have bad : ∃ (r : Int32 × Int32 × Int32 × (Nat → Int32)) (r1 : Int32 × (Nat → Int32) × (Nat → Int32)), some (((-2 : Int32), cx 2, cx 1, rfd (cf 36) 0)) = some r ∧ some (((-2 : Int32), cf 65, rfd (cf 67) 0)) = some r1 ∧ r.1 = r1.1 ∧ Rel WI (va_up (va_up cx 2 r.2.1) 1 r.2.2.1) (va_up (va_up (va_up cf 36 r.2.2.2) 65 r1.2.1) 67 r1.2.2) key ms := ⟨_, _, rfl, rfl, rfl, Rel_ext (Rel_rfd 0 hR) rfl rfl⟩
  obtain ⟨⟨a, hI, hX, hM⟩, -⟩ := id hR
  obtain ⟨i1, i2, i3, i4, i5, i6, i7, i8, i9, i10⟩ := hI
  obtain ⟨x1, ⟨x2, x3⟩, ⟨x4, x5, x6, x7⟩, x8, x9, ⟨x10, x11⟩, x12, x13⟩ := hX
  obtain ⟨j0, j1, j2, j3, j4, j5, j6⟩ := id i1
  have good : ∀ (c i v : Nat) , (c = 1 ∧ i = 357 ∧ 1 ≤ v ∧ v ≤ 60) ∨ (c = 2 ∧ i = 358 ∧ v ≤ 3) → Rel WI (va_up cx c (nI v)) (va_up cf 65 (upd (cf 65) i (nI v))) key ms := by
    intro c i v hc
    obtain ⟨a', ea, hc', ho⟩ := set_ex a i v
    have e0 := ho 0 (by omega)
    have e1 := ho 1 (by omega)
    have e2 := ho 2 (by omega)
    have e3 := ho 3 (by omega)
    have e4 := ho 4 (by omega)
    have e5 := ho 5 (by omega)
    have e6 := ho 6 (by omega)
    have e9 := ho 359 (by omega)
    have hg : ∀ lo hi, hi ≤ 357 → ag a a' lo hi := fun lo hi h j h1 h2 => ho j (by omega)
    refine Rel_now hR a' ⟨⟨by omega, by omega, by omega, by omega, by omega, by omega, by omega⟩, i2.cg (hg _ _ (by decide)) e9, i3.cg i1 e1 (hg _ _ (by decide)), i4.cg i1 e1 e2 (hg _ _ (by decide)), i5.cg i1 e3 (hg _ _ (by decide)), i6.cg i1 e4 (hg _ _ (by decide)), i7.cg i1 (by omega) e5 (hg _ _ (by decide)), i8.cg (hg _ _ (by decide)), i9.cg i1 e6 (hg _ _ (by decide)), ?_⟩
      ⟨?_, ⟨x2.cg e1 (hg _ _ (by omega)), x3.cg e1 (hg _ _ (by omega))⟩, ⟨x4.cg e2 (hg _ _ (by omega)), x5.cg e2 (hg _ _ (by omega)), x6.cg e2 (hg _ _ (by omega)), x7.cg e2 (hg _ _ (by omega))⟩, x8.cg e3 (hg _ _ (by omega)), x9.cg e4 (hg _ _ (by omega)), ⟨x10.cg e5 (hg _ _ (by omega)), x11.cg e5 (hg _ _ (by omega))⟩, x12.cg (hg _ _ (by omega)), x13.cg e6 (hg _ _ (by omega))⟩
      (by rw [va_up_at, ea]; exact hM.up (by omega)) (fun k hk => va_up_no _ _ (by omega)) (fun k _ hk => va_up_no _ _ hk) (fun k hk => by rw [va_up_at, upd_no (by omega)])
    · rcases hc with ⟨rfl, rfl, hv⟩ | ⟨rfl, rfl, hv⟩
      · exact ⟨by omega, by omega, by rw [ho 358 (by decide)]; exact i10.2.2⟩
      · exact ⟨by rw [ho 357 (by decide)]; exact i10.1, by rw [ho 357 (by decide)]; exact i10.2.1, by omega⟩
    · unfold XS at x1 ⊢
      rw [e0, e1, e2, e3, e4, e5, e6, e9]
      rcases hc with ⟨rfl, rfl, hv⟩ | ⟨rfl, rfl, hv⟩
      · rw [hc', ho 358 (by decide)]
        exact ⟨⟨x1.1.1, rfl, x1.1.2.2⟩, x1.2⟩
      · rw [hc', ho 357 (by decide)]
        exact ⟨⟨x1.1.1, x1.1.2.1, rfl, x1.1.2.2.2⟩, x1.2⟩
  by_cases h0 : y1 = 0
  · subst h0
    rw [s_put0, s_putM0]
    by_cases hv : wi y2 1 60 = true
    · rw [if_pos hv, if_pos hv]
      obtain ⟨v, hv1, hv2, rfl⟩ := wi_nI (lo := 1) (hi := 60) (by decide) (by decide) hv
      exact ⟨_, _, rfl, rfl, x1.1.2.1.trans (hM.at (i := 357) (by decide)).symm, Rel_ext (good 1 357 v (Or.inl ⟨rfl, rfl, hv1, hv2⟩)) rfl rfl⟩
    · rw [if_neg hv, if_neg hv]; exact bad
  · by_cases h1 : y1 = 1
    · subst h1
      rw [s_put1, s_putM1]
      by_cases hv : wi y2 0 3 = true
      · rw [if_pos hv, if_pos hv]
        obtain ⟨v, hv1, hv2, rfl⟩ := wi_nI (lo := 0) (hi := 3) (by decide) (by decide) hv
        exact ⟨_, _, rfl, rfl, x1.1.2.2.1.trans (hM.at (i := 358) (by decide)).symm, Rel_ext (good 2 358 v (Or.inr ⟨rfl, rfl, hv2⟩)) rfl rfl⟩
      · rw [if_neg hv, if_neg hv]; exact bad
    · rw [s_put2 _ _ _ _ _ h0 h1, s_putM2]
      · exact bad
      · intro h
        obtain ⟨k, -, hk, rfl⟩ := wi_nI (lo := 0) (hi := 1) (by decide) (by decide) h
        rcases (show k = 0 ∨ k = 1 by omega) with rfl | rfl
        · exact h0 rfl
        · exact h1 rfl
