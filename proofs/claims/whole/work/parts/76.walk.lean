/-! walks: the search, what is kept of it -/
theorem l_push {x y k : Nat} (s : Int64) (hs : (s.toBitVec.smod 64).toNat = k) (hy : y < 2 ^ k) : (lN x <<< s) ||| lN y = lN (x * 2 ^ k + y) := by
  apply Int64.toBitVec_inj.1
  rw [Int64.toBitVec_or, Int64.toBitVec_shiftLeft]
  show (BitVec.ofNat 64 x <<< (s.toBitVec.smod 64)) ||| BitVec.ofNat 64 y = BitVec.ofNat 64 (x * 2 ^ k + y)
  rw [BitVec.shiftLeft_eq', hs, ← Nat.shiftLeft_eq, Nat.shiftLeft_add_eq_or_of_lt hy]
  apply BitVec.eq_of_getLsbD_eq
  intro i hi
  rw [BitVec.getLsbD_or, BitVec.getLsbD_shiftLeft, BitVec.getLsbD_ofNat, BitVec.getLsbD_ofNat, BitVec.getLsbD_ofNat, Nat.testBit_or, Nat.testBit_shiftLeft]
  by_cases c : i < k
  · simp [hi, c, Nat.not_le.mpr c]
  · simp [hi, c, show i - k < 64 by omega, show k ≤ i by omega]
def KK (w ft P S H : Nat) : Nat := (((w * 2 ^ 6 + ft) * 2 ^ 3 + P) * 2 ^ 10 + S) * 2 ^ 10 + H
theorem z_key {w ft P S H : Nat} (hw : w < 65536) (hft : ft < 64) (hP : P ≤ 5) (hS : S < 1024) (hH : H < 1024) : (((((((((nI w).toInt64 <<< ((6 : Int32).toInt64 &&& 63)) ||| (nI ft).toInt64) <<< ((3 : Int32).toInt64 &&& 63)) ||| (nI P).toInt64) <<< ((10 : Int32).toInt64 &&& 63)) ||| (nI S).toInt64) <<< ((10 : Int32).toInt64 &&& 63)) ||| (nI H).toInt64) = lN (KK w ft P S H) := by
  rw [nI_l (by omega), nI_l (by omega), nI_l (by omega), nI_l (by omega), nI_l (by omega), l_push (k := 6) _ (by decide) (by omega), l_push (k := 3) _ (by decide) (by omega), l_push (k := 10) _ (by decide) (by omega), l_push (k := 10) _ (by decide) (by omega)]
  rfl
theorem KK_lt {w ft P S H : Nat} (hw : w < 65536) (hft : ft < 64) (hP : P ≤ 5) (hS : S < 1024) (hH : H < 1024) : KK w ft P S H < 2 ^ 63 := by unfold KK; omega
theorem KK_inj {w ft P S H w' ft' P' S' H' : Nat} (hft : ft < 64) (hP : P ≤ 5) (hS : S < 1024) (hH : H < 1024) (hft' : ft' < 64) (hP' : P' ≤ 5) (hS' : S' < 1024) (hH' : H' < 1024) (h : KK w ft P S H = KK w' ft' P' S' H') : w = w' ∧ ft = ft' ∧ P = P' ∧ S = S' ∧ H = H' := by unfold KK at h; omega
theorem lN_nm1 {n : Nat} (h : n < 2 ^ 63) : ¬ lN n = -1 := by
  intro e
  have h1 := pk_lT h
  rw [e] at h1
  have h2 : (-1 : Int64).toInt = -1 := by decide
  omega
/-- what is kept is right -/
def RES (w ft P S H : Nat) (soon nev : Int32) (path : Nat → Int32) : Prop := ∃ h, DST (2 ^ (2 * P)) (ST w ft P) S h ∧ soon = eh (h H) ∧ nev = nA P H h (nI (2 ^ P - 1)) (2 ^ (2 * P)) ∧ (h H < 9999 → ∃ h' pth, DST (2 ^ (2 * P)) (ST w ft P) H h' ∧ ROW (2 ^ (2 * P)) (ST w ft P) S (h H) h' pth ∧ ∀ i, i ≤ h H → path i = nI (pth i))
def WIc : q_WI := fun key _ _ _ soon nev path => key = -1 ∨ ∃ w ft P S H, (w < 65536 ∧ ft < 64 ∧ P ≤ 5 ∧ S < 2 ^ (2 * P) ∧ H < 2 ^ (2 * P)) ∧ key = lN (KK w ft P S H) ∧ RES w ft P S H soon nev path
theorem s_anew {w ft P S H N : Nat} (hN : 2000 ≤ N) (hw : w < 65536) (hft : ft < 64) (hP : P ≤ 5) (hsy : ∀ x y, ST w ft P x y → ST w ft P y x) (hS : S < 2 ^ (2 * P)) (hH : H < 2 ^ (2 * P)) (cc nc : Int32) (ch goers group hours near path queue : Nat → Int32) : ∃ cc' nc' nev soon ch' goers' group' hours' near' path' queue', g_X8_searchAnew N (nI P) (nI w) (nI ft) nc cc ch goers group hours near path queue (nI S) (nI H) = some (cc', nc', nev, soon, ch', goers', group', hours', near', path', queue') ∧ RES w ft P S H soon nev path' := by
  have hp2 := p2P hP
  obtain ⟨h, cc1, nc1, ch1, goers1, group1, hours1, near1, queue1, s1, s2, s3⟩ := s_spread (N := N) hN hw hft hP hS cc nc ch goers group hours near queue
  have hb : ∀ t, t < 2 ^ (2 * P) → h t ≤ 9999 := fun t ht => by rcases s2.2.2.1 t ht with e | e <;> omega
  have hnev : g_X8_findNever N (nI P) hours1 (nI H) = some (nA P H h (nI (2 ^ P - 1)) (2 ^ (2 * P))) := by
    unfold g_X8_findNever
    have hpp := Nat.two_pow_pos P
    rw [z_pow (by omega), z_sub1 (by omega)]
    exact s_findNever_14 hN hP (by omega) s3 hb (Or.inr trivial) (nI (2 ^ P - 1)) (2 ^ (2 * P)) 0 N (by omega) (by omega)
  unfold g_X8_searchAnew
  rw [s1, Option.bind_some, if_pos (in1024 (by omega)), nI_clamp (by omega)]
  dsimp only
  rw [hnev, Option.bind_some, ifi (show hours1 H = -1 ↔ h H = 9999 from by rw [s3 H hH]; exact eh_m1 (hb H hH))]
  by_cases c : h H = 9999
  · rw [if_pos c]
    exact ⟨_, _, _, _, _, _, _, _, _, _, _, rfl, h, s2, s3 H hH, rfl, fun hh => by omega⟩
  · rw [if_neg c]
    have hD : h H < 1024 := by rcases s2.2.2.1 H hH with e | e <;> omega
    obtain ⟨h2, cc2, nc2, ch2, goers2, group2, hours2, near2, queue2, t1, t2, t3⟩ := s_spread (N := N) hN hw hft hP hH cc1 nc1 ch1 goers1 group1 hours1 near1 queue1
    have hsym := s2.sym hsy t2
    obtain ⟨pth, cc3, nc3, ch3, goers3, group3, near3, path3, u1, u2, u3⟩ := s_findPath (N := N) hN hw hft hP hsy hD t3 t2 hS hsym.symm cc2 nc2 ch2 goers2 group2 near2 path
    rw [t1, Option.bind_some]
    dsimp only
    rw [s3 H hH, show eh (h H) = nI (h H) from if_neg c, u1, Option.bind_some]
    exact ⟨_, _, _, _, _, _, _, _, _, _, _, rfl, h, s2, (if_neg c).symm, rfl, fun _ => ⟨h2, pth, t2, u2, u3⟩⟩
/-- the sizes that fit, as bits -/
def ftv (a : Nat → Nat) (r : Nat) : Nat → Nat
  | 0 => 0
  | n + 1 => ftv a r n ||| (if fitN (a 0) r (n + 1) then 2 ^ (n + 1) else 0)
theorem ftv_lt (a : Nat → Nat) (r : Nat) : ∀ n, ftv a r n < 2 ^ (n + 1) := by
  intro n
  induction n with
  | zero => exact (by decide : (0 : Nat) < 2 ^ 1)
  | succ n ih =>
    rw [ftv]
    refine Nat.or_lt_two_pow (Nat.lt_of_lt_of_le ih (Nat.pow_le_pow_right (by decide) (by omega))) ?_
    split
    · exact Nat.pow_lt_pow_right (by decide) (by omega)
    · exact Nat.two_pow_pos _
theorem ftv_tb (a : Nat → Nat) (r : Nat) : ∀ n k, 1 ≤ k → k ≤ n → (ftv a r n).testBit k = fitN (a 0) r k := by
  intro n
  induction n with
  | zero => intro k h1 h2; omega
  | succ n ih =>
    intro k h1 h2
    rw [ftv, Nat.testBit_or]
    by_cases e : k = n + 1
    · subst e
      rw [Nat.testBit_lt_two_pow (ftv_lt a r n), Bool.false_or]
      cases fitN (a 0) r (n + 1) with
      | true => rw [if_pos rfl, Nat.testBit_two_pow]; simp
      | false => rw [if_neg (by decide), Nat.zero_testBit]
    · rw [ih k h1 (by omega)]
      cases fitN (a 0) r (n + 1) with
      | true => rw [if_pos rfl, Nat.testBit_two_pow, decide_eq_false (by omega), Bool.or_false]
      | false => rw [if_neg (by decide), Nat.zero_testBit, Bool.or_false]
theorem IW.sy {a : Nat → Nat} (hW : IW a) : ∀ i j, i < 4 → j < 4 → (a 359).testBit (4 * i + j) = (a 359).testBit (4 * j + i) := by
  intro i j hi hj
  have := hW.2.2.1 i j hi hj
  rw [hW.2.1 _ (by omega), hW.2.1 _ (by omega), tb, tb] at this
  cases h1 : (a 359).testBit (4 * i + j) <;> cases h2 : (a 359).testBit (4 * j + i) <;> simp [h1, h2] at this ⊢
theorem s_search_29 {a : Nat → Nat} {f0 f1 : Nat → Int32} {N r : Nat} (hN : 2000 ≤ N) (hI : INV a) (h0 : AR a 1 23 f0) (h1 : AR a 1 28 f1) (hr : r ≤ 3) (key : Int64) (soon nev x6 x7 x8 : Int32) (path : Nat → Int32) (hWI : WIc key x6 x7 x8 soon nev path) (cc nc : Int32) (ch goers group hours near queue : Nat → Int32) : ∀ (m n fu : Nat), n + m = 5 → m < fu → ∃ cc' nc' soon' nev' ch' goers' group' hours' near' path' queue', g_X8_search_29 N (nI (a 0)) (nI (a 1)) f1 (nI (a 1)) f0 (nI r) fu (nI (n + 1)) cc (nI (ftv a r n)) key nc nev (nI (a 1)) soon (nI (a 359)) ch goers group hours near path queue = some (cc', nI (ftv a r 5), lN (KK (a 359) (ftv a r 5) (a 1) (sv a 23 (a 1)) (sv a 28 (a 1))), nc', nev', nI (a 1), soon', nI (a 359), ch', goers', group', hours', near', path', queue') ∧ RES (a 359) (ftv a r 5) (a 1) (sv a 23 (a 1)) (sv a 28 (a 1)) soon' nev' path' := by
  obtain ⟨i1, i2, i3, i4, i5, i6, i7, i8, i9, i10⟩ := id hI
  obtain ⟨j0, j1, j2, j3, j4, j5, j6⟩ := id i1
  have hp2 := p2P j1
  intro m
  induction m with
  | zero =>
    intro n fu e1 e2
    obtain ⟨fu, rfl⟩ : ∃ z, fu = z + 1 := ⟨fu - 1, by omega⟩
    have e : n = 5 := by omega
    subst e
    have hft : ftv a r 5 < 64 := ftv_lt a r 5
    have hS := sv_lt (a := a) (b := 23) (a 1) (fun p hp => (i3 p hp).1)
    have hH := sv_lt (a := a) (b := 28) (a 1) (fun p hp => (i3 p hp).2)
    have hKl := KK_lt i2.1 hft j1 (show sv a 23 (a 1) < 1024 by omega) (show sv a 28 (a 1) < 1024 by omega)
    have hsy : ∀ x y, ST (a 359) (ftv a r 5) (a 1) x y → ST (a 359) (ftv a r 5) (a 1) y x := fun x y h => ST_sym i2.sy h
    rw [g_X8_search_29, if_pos (by decide), s_state (by omega) i1 h0 (fun p hp => (i3 p hp).1), Option.bind_some, s_state (by omega) i1 h1 (fun p hp => (i3 p hp).2), Option.bind_some, z_key i2.1 hft j1 (by omega) (by omega), ifi (lg_cmp_eq (lN (KK (a 359) (ftv a r 5) (a 1) (sv a 23 (a 1)) (sv a 28 (a 1)))) key)]
    by_cases c : lN (KK (a 359) (ftv a r 5) (a 1) (sv a 23 (a 1)) (sv a 28 (a 1))) = key
    · rw [if_pos c]
      refine ⟨cc, nc, soon, nev, ch, goers, group, hours, near, path, queue, by rw [c], ?_⟩
      rcases hWI with hk | ⟨w, ft, P, S, H, ⟨k1, k2, k3, k4, k5⟩, k6, k7⟩
      · rw [hk] at c; exact absurd c (lN_nm1 hKl)
      · have hp3 := p2P k3
        rw [k6] at c
        have := (pk_lEQ hKl (KK_lt k1 k2 k3 (by omega) (by omega))).mp c
        obtain ⟨l1, l2, l3, l4, l5⟩ := KK_inj hft j1 (by omega) (by omega) k2 k3 (by omega) (by omega) this
        rw [l4, l5, l1, l2, l3]
        exact k7
    · rw [if_neg c]
      obtain ⟨cc', nc', nev', soon', ch', goers', group', hours', near', path', queue', q1, q2⟩ := s_anew (N := N) hN i2.1 hft j1 hsy hS hH cc nc ch goers group hours near path queue
      rw [q1, Option.bind_some]
      exact ⟨_, _, _, _, _, _, _, _, _, _, _, rfl, q2⟩
  | succ m ih =>
    intro n fu e1 e2
    obtain ⟨fu, rfl⟩ : ∃ z, fu = z + 1 := ⟨fu - 1, by omega⟩
    have ih' := ih (n + 1) fu (by omega) (by omega)
    rw [show ftv a r (n + 1) = ftv a r n ||| (if fitN (a 0) r (n + 1) then 2 ^ (n + 1) else 0) from rfl] at ih'
    rw [g_X8_search_29, if_neg (show ¬ 5 < nI (n + 1) from fun h => absurd ((e_lt (a := 5) (by decide) (by omega)).mp h) (by omega)), s_fits j0 hr (by omega) (by omega), Option.bind_some, if10, z_pow (by omega), z_or, show nI (ftv a r n) ||| 0 = nI (ftv a r n ||| 0) from z_or _ 0, z_1]
    cases hq : fitN (a 0) r (n + 1) with
    | true => rw [hq, if_pos rfl] at ih'; rw [if_pos rfl]; exact ih'
    | false => rw [hq, if_neg (by decide)] at ih'; rw [if_neg (by decide)]; exact ih'
theorem s_search {a : Nat → Nat} {f0 f1 : Nat → Int32} {N r : Nat} (hN : 2000 ≤ N) (hI : INV a) (h0 : AR a 1 23 f0) (h1 : AR a 1 28 f1) (hr : r ≤ 3) (key : Int64) (soon nev x6 x7 x8 : Int32) (path : Nat → Int32) (hWI : WIc key x6 x7 x8 soon nev path) (cc nc : Int32) (ch goers group hours near queue : Nat → Int32) : ∃ cc' nc' soon' nev' ch' goers' group' hours' near' path' queue', g_X8_search N key soon nev nc cc ch goers group hours near path queue (nI (a 0)) (nI (a 359)) (nI (a 1)) f1 (nI (a 1)) f0 (nI r) = some (cc', nI (ftv a r 5), lN (KK (a 359) (ftv a r 5) (a 1) (sv a 23 (a 1)) (sv a 28 (a 1))), nc', nev', nI (a 1), soon', nI (a 359), ch', goers', group', hours', near', path', queue') ∧ RES (a 359) (ftv a r 5) (a 1) (sv a 23 (a 1)) (sv a 28 (a 1)) soon' nev' path' := by
  unfold g_X8_search g_X2_wayBits
  rw [s_people, Option.bind_some, Option.bind_some]
  exact s_search_29 hN hI h0 h1 hr key soon nev x6 x7 x8 path hWI cc nc ch goers group hours near queue 5 0 N (by omega) (by omega)
/-! the relation, what is kept of a walk changed -/
def LXw : List Nat := [0, 1, 2, 3, 4, 5, 6, 7, 8, 9, 10, 11, 12, 13, 14, 15, 16, 17, 18, 19, 20, 21, 22, 23, 24, 25, 26, 27, 28, 29, 30, 31, 32, 33, 34, 35, 36, 37, 38, 39, 40, 41, 42, 43, 44, 45, 46, 47, 48, 49, 50, 77, 78]
def LFw : List Nat := [0, 1, 2, 3, 4, 5, 6, 7, 8, 9, 10, 11, 12, 13, 14, 15, 16, 17, 18, 19, 20, 21, 22, 23, 24, 25, 26, 27, 28, 29, 30, 31, 32, 33, 34, 35, 36, 65, 66, 67]
theorem LXw_in : ∀ i, i < 3 → ∀ k, k < 16 → 16 * i + k ∈ LXw := by decide
theorem LFw_in : ∀ i, i < 3 → ∀ k, k < 12 → 12 * i + k ∈ LFw := by decide
theorem Rel_walk {WI : q_WI} {cx cx' : Nat → Int32} {cf cf' : Nat → Nat → Int32} {key key' ms ms' : Int64} (hR : Rel WI cx cf key ms) (h1 : LXw.map cx' = LXw.map cx) (h2 : LFw.map cf' = LFw.map cf) (hW : WI key' (cx' 56) (cx' 57) (cx' 58) (cx' 59) (cx' 60) (cf' 50)) : Rel WI cx' cf' key' ms' := by
  have hx := List.map_inj_left.mp h1
  have hf := List.map_inj_left.mp h2
  have ke : ∀ {a : Nat → Nat} {i : Nat}, i < 3 → K2 a cx cf i → K2 a cx' cf' i := fun hi h => h.congr (fun k hk => hx _ (LXw_in _ hi k hk)) (fun k hk => hf _ (LFw_in _ hi k hk)) (fun k _ => by rw [hf 65 (by decide)])
  obtain ⟨⟨a, ha⟩, ⟨b0, b1, c1, c2, c3, c4, c5, c6, c7⟩, hF, hRR, -⟩ := hR
  refine ⟨⟨a, ke (by decide) ha⟩, ⟨b0, b1, c1, c2, ?_, ?_, ?_, ?_, ?_⟩, ?_, ?_, hW⟩
  · rw [hx 48 (by decide)]; exact c3
  · rw [hf 66 (by decide)]; exact c4
  · rw [hf 66 (by decide)]; exact c5
  · intro hb; obtain ⟨a, ha⟩ := c6 hb; exact ⟨a, ke (by decide) ha⟩
  · intro hb; obtain ⟨a, ha⟩ := c7 hb; exact ⟨a, ke (by decide) ha⟩
  · exact ⟨by rw [hx 49 (by decide), hx 77 (by decide)]; exact hF.1, by rw [hx 50 (by decide), hx 78 (by decide)]; exact hF.2⟩
  · intro i hi; rw [hf 36 (by decide), hf 67 (by decide)]; exact hRR i hi
set_option maxHeartbeats 2000000 in
theorem op_soonest {N : Nat} (hN : 2000 ≤ N) : Op_soonest N (Rel WIc) := by
  intro cx cf key ms y1 hR
  unfold g_X9_soonest g_X10_soonest
  rw [s_isRule, s_isRuleM, Option.bind_some, Option.bind_some, if10, if10]
  by_cases hv : wi y1 0 3 = true
  · rw [if_pos hv, if_pos hv]
    obtain ⟨r, -, hr, rfl⟩ := wi_nI (lo := 0) (hi := 3) (by decide) (by decide) hv
    obtain ⟨⟨a, hI, hX, hM⟩, -⟩ := id hR
    obtain ⟨i1, i2, i3, i4, i5, i6, i7, i8, i9, i10⟩ := hI
    obtain ⟨x1, ⟨x2, x3⟩, ⟨x4, x5, x6, x7⟩, x8, x9, ⟨x10, x11⟩, x12, x13⟩ := hX
    obtain ⟨j0, j1, j2, j3, j4, j5, j6⟩ := id i1
    have hS := sv_lt (a := a) (b := 23) (a 1) (fun p hp => (i3 p hp).1)
    have hH := sv_lt (a := a) (b := 28) (a 1) (fun p hp => (i3 p hp).2)
    have hp2 := p2P j1
    have hft : ftv a r 5 < 64 := ftv_lt a r 5
    have hfb : FB a r (ftv a r 5) := fun n h1 h2 => ftv_tb a r 5 n h1 h2
    have hINV : INV a := ⟨i1, i2, i3, i4, i5, i6, i7, i8, i9, i10⟩
    have hsy : ∀ x y, ST (a 359) (ftv a r 5) (a 1) x y → ST (a 359) (ftv a r 5) (a 1) y x := fun x y h => ST_sym i2.sy h
    obtain ⟨cc', nc', soon', nev', ch', goers', group', hours', near', path', queue', q1, q2⟩ := s_search (N := N) hN hINV x2 x3 hr key (cx 59) (cx 60) (cx 56) (cx 57) (cx 58) (cf 50) hR.2.2.2.2 (cx 62) (cx 61) (cf 49) (cf 52) (cf 51) (cf 46) (cf 48) (cf 47)
    have hWI : WIc (lN (KK (a 359) (ftv a r 5) (a 1) (sv a 23 (a 1)) (sv a 28 (a 1)))) (nI (a 1)) (nI (a 359)) (nI (ftv a r 5)) soon' nev' path' := Or.inr ⟨_, _, _, _, _, ⟨i2.1, hft, j1, hS, hH⟩, rfl, q2⟩
    obtain ⟨h, d1, d2, d3, d4⟩ := q2
    rw [show cx 0 = nI (a 0) from x1.1.1, show cx 3 = nI (a 359) from x1.1.2.2.2, show cx 4 = nI (a 1) from x1.2.1.1, show cx 5 = nI (a 1) from x1.2.1.2.1]
    obtain ⟨h2, far, gone, queue, f1, f2, f3⟩ := s_findFar (N := N) hN i1 i2 hM hr hfb hS (cf 83) (cf 85) (cf 84)
    have huq := f2.uq d1 hH
    have hb : h (sv a 28 (a 1)) ≤ 9999 := by rcases d1.2.2.1 _ hH with e | e <;> omega
    rw [q1, Option.bind_some, show g_X10_stateOf N (cf 65) 23 = some (nI (sv a 23 (a 1))) from s_stateOf (b := 23) (by omega) i1 hM (by omega), Option.bind_some, f1, Option.bind_some, show g_X10_stateOf N (cf 65) 28 = some (nI (sv a 28 (a 1))) from s_stateOf (b := 28) (by omega) i1 hM (by omega), Option.bind_some, if_pos (in1024 (by omega)), nI_clamp (by omega)]
    have hcond : far (sv a 28 (a 1)) = 9999 ↔ h (sv a 28 (a 1)) = 9999 := by rw [f3 _ hH, huq]; exact e_eq (b := 9999) (by omega) (by decide)
    have hsn : (if h (sv a 28 (a 1)) = 9999 then -1 else far (sv a 28 (a 1))) = soon' := by
      rw [d2, f3 _ hH, huq]; rfl
    by_cases c : h (sv a 28 (a 1)) = 9999
    · rw [if_pos (hcond.mpr c)]
      rw [if_pos c] at hsn
      exact ⟨_, _, rfl, rfl, hsn.symm, Rel_walk hR rfl rfl hWI⟩
    · rw [if_neg (fun hh => c (hcond.mp hh))]
      rw [if_neg c] at hsn
      exact ⟨_, _, rfl, rfl, hsn.symm, Rel_walk hR rfl rfl hWI⟩
  · rw [if_neg hv, if_neg hv, s_refB, s_refMB]
    exact ⟨_, _, rfl, rfl, rfl, Rel_ext (Rel_rfd 0 hR) rfl rfl⟩
set_option maxHeartbeats 2000000 in
theorem op_never {N : Nat} (hN : 2000 ≤ N) : Op_never N (Rel WIc) := by
  intro cx cf key ms y1 hR
  unfold g_X9_never g_X10_never
  rw [s_isRule, s_isRuleM, Option.bind_some, Option.bind_some, if10, if10]
  by_cases hv : wi y1 0 3 = true
  · rw [if_pos hv, if_pos hv]
    obtain ⟨r, -, hr, rfl⟩ := wi_nI (lo := 0) (hi := 3) (by decide) (by decide) hv
    obtain ⟨⟨a, hI, hX, hM⟩, -⟩ := id hR
    obtain ⟨i1, i2, i3, i4, i5, i6, i7, i8, i9, i10⟩ := hI
    obtain ⟨x1, ⟨x2, x3⟩, ⟨x4, x5, x6, x7⟩, x8, x9, ⟨x10, x11⟩, x12, x13⟩ := hX
    obtain ⟨j0, j1, j2, j3, j4, j5, j6⟩ := id i1
    have hS := sv_lt (a := a) (b := 23) (a 1) (fun p hp => (i3 p hp).1)
    have hH := sv_lt (a := a) (b := 28) (a 1) (fun p hp => (i3 p hp).2)
    have hp2 := p2P j1
    have hft : ftv a r 5 < 64 := ftv_lt a r 5
    have hfb : FB a r (ftv a r 5) := fun n h1 h2 => ftv_tb a r 5 n h1 h2
    have hINV : INV a := ⟨i1, i2, i3, i4, i5, i6, i7, i8, i9, i10⟩
    have hsy : ∀ x y, ST (a 359) (ftv a r 5) (a 1) x y → ST (a 359) (ftv a r 5) (a 1) y x := fun x y h => ST_sym i2.sy h
    obtain ⟨cc', nc', soon', nev', ch', goers', group', hours', near', path', queue', q1, q2⟩ := s_search (N := N) hN hINV x2 x3 hr key (cx 59) (cx 60) (cx 56) (cx 57) (cx 58) (cf 50) hR.2.2.2.2 (cx 62) (cx 61) (cf 49) (cf 52) (cf 51) (cf 46) (cf 48) (cf 47)
    have hWI : WIc (lN (KK (a 359) (ftv a r 5) (a 1) (sv a 23 (a 1)) (sv a 28 (a 1)))) (nI (a 1)) (nI (a 359)) (nI (ftv a r 5)) soon' nev' path' := Or.inr ⟨_, _, _, _, _, ⟨i2.1, hft, j1, hS, hH⟩, rfl, q2⟩
    obtain ⟨h, d1, d2, d3, d4⟩ := q2
    rw [show cx 0 = nI (a 0) from x1.1.1, show cx 3 = nI (a 359) from x1.1.2.2.2, show cx 4 = nI (a 1) from x1.2.1.1, show cx 5 = nI (a 1) from x1.2.1.2.1]
    obtain ⟨h2, far, gone, queue, f1, f2, f3⟩ := s_findFar (N := N) hN i1 i2 hM hr hfb hS (cf 83) (cf 85) (cf 84)
    have huq : ∀ t, t < 2 ^ (2 * a 1) → h2 t = h t := fun t ht => f2.uq d1 ht
    have hb : ∀ t, t < 2 ^ (2 * a 1) → h2 t ≤ 9999 := fun t ht => by rcases f2.2.2.1 _ ht with e | e <;> omega
    have hpp := Nat.two_pow_pos (a 1)
    have hnv := s_never_38 (N := N) (gone := gone) (queue := queue) (rf := cf 67) hN i1 hM f3 hb (fun p hp => (sv_dg (b := 28) (a 1) hp (fun p hp => (i3 p hp).2)).symm) (nI (2 ^ a 1 - 1)) (2 ^ (2 * a 1)) 0 N (by omega) (by omega)
    rw [q1, Option.bind_some, show g_X10_stateOf N (cf 65) 23 = some (nI (sv a 23 (a 1))) from s_stateOf (b := 23) (by omega) i1 hM (by omega), Option.bind_some, f1, Option.bind_some, if_pos in1, show (1 : Int32).toNatClampNeg = 1 from rfl, hM.at (i := 1) (by decide), z_pow (by omega), z_sub1 (by omega)]
    dsimp only
    rw [show g_X10_never_38 N (cf 65) N (nI (2 ^ a 1 - 1)) 0 far gone queue (cf 67) = _ from hnv, nA_cg _ huq]
    exact ⟨_, _, rfl, rfl, d3, Rel_walk hR rfl rfl hWI⟩
  · rw [if_neg hv, if_neg hv, s_refB, s_refMB]
    exact ⟨_, _, rfl, rfl, rfl, Rel_ext (Rel_rfd 0 hR) rfl rfl⟩
theorem s_at_95 {a : Nat → Nat} {al far queue rf : Nat → Int32} {N r ft i cur t : Nat} {h : Nat → Nat} (hN : 2000 ≤ N) (hI : IC a) (hW : IW a) (hM : KM a al 0) (hr : r ≤ 3) (hft : FB a r ft) (hE : ∀ t, t < 2 ^ (2 * a 1) → far t = nI (h t)) (hb : ∀ t, t < 2 ^ (2 * a 1) → h t ≤ 9999) (hc : cur < 2 ^ (2 * a 1)) (ht : t < 2 ^ (2 * a 1)) (hi : i < 5000) (h1 : 1 ≤ h cur) (h2 : ST (a 359) ft (a 1) cur t) (h3 : h t = h cur - 1) (h4 : ∀ u, u < 2 ^ (2 * a 1) → ST (a 359) ft (a 1) cur u → h u = h cur - 1 → t ≤ u) (K : Int32 → Int32 → (Nat → Int32) → (Nat → Int32) → (Nat → Int32) → (Nat → Int32) → Option (Int32 × (Nat → Int32) × (Nat → Int32) × (Nat → Int32) × (Nat → Int32))) : ∀ (m u n : Nat) (gone : Nat → Int32), u + m = t → m < n → ∃ gone', g_X10_at_95 N al (nI r) K n (nI cur) (nI i) (nI u) far gone queue rf = K (nI t) (nI (i + 1)) far gone' queue rf := by
  have hp2 := p2P hI.2.1
  intro m
  induction m with
  | zero =>
    intro u n gone e1 e2
    obtain ⟨n, rfl⟩ : ∃ z, n = z + 1 := ⟨n - 1, by omega⟩
    have e : u = t := by omega
    subst e
    have hbc := hb cur hc
    obtain ⟨b, gone1, c1, c2⟩ := s_isStep (by omega) hI hW hM hr hft (show cur < 2147483648 by omega) (show u < 2147483648 by omega) gone (N := N)
    refine ⟨gone1, ?_⟩
    rw [g_X10_at_95, if_pos (in1024 (by omega)), if_pos (in1024 (by omega)), nI_clamp (by omega), nI_clamp (by omega), hE u ht, hE cur hc, z_sub1 h1, if_pos (by rw [h3]), c1, Option.bind_some, z_1 i]
    cases b with
    | false => exact absurd (c2.mpr h2) (by decide)
    | true => rfl
  | succ m ih =>
    intro u n gone e1 e2
    obtain ⟨n, rfl⟩ : ∃ z, n = z + 1 := ⟨n - 1, by omega⟩
    have hbc := hb cur hc
    have hbu := hb u (by omega)
    obtain ⟨b, gone1, c1, c2⟩ := s_isStep (by omega) hI hW hM hr hft (show cur < 2147483648 by omega) (show u < 2147483648 by omega) gone (N := N)
    rw [g_X10_at_95, if_pos (in1024 (by omega)), if_pos (in1024 (by omega)), nI_clamp (by omega), nI_clamp (by omega), hE u (by omega), hE cur hc, z_sub1 h1, ifi (e_eq (a := h u) (b := h cur - 1) (by omega) (by omega)), c1, Option.bind_some, z_1 u]
    by_cases c : h u = h cur - 1
    · rw [if_pos c]
      cases b with
      | false => exact ih (u + 1) n gone1 (by omega) (by omega)
      | true =>
        have := h4 u (by omega) (c2.mp rfl) c
        omega
    · rw [if_neg c]
      exact ih (u + 1) n gone (by omega) (by omega)
theorem s_at_86 {a : Nat → Nat} {al far queue rf : Nat → Int32} {N r ft hh p D s : Nat} {h pth : Nat → Nat} (hN : 2000 ≤ N) (hI : IC a) (hW : IW a) (hM : KM a al 0) (hr : r ≤ 3) (hft : FB a r ft) (hE : ∀ t, t < 2 ^ (2 * a 1) → far t = nI (h t)) (hb : ∀ t, t < 2 ^ (2 * a 1) → h t ≤ 9999) (hD : D < 1024) (hhD : hh ≤ D) (hp : p < a 1) (hR : ROW (2 ^ (2 * a 1)) (ST (a 359) ft (a 1)) s D h pth) : ∀ (m i n : Nat) (gone : Nat → Int32), i + m = hh → m < n → ∃ gone', g_X10_at_86 N al (nI r) (nI hh) (nI p) n (nI (pth i)) (nI i) far gone queue rf = some (nI (dg (a 1) (pth hh) p), far, gone', queue, rf) := by
  have hp2 := p2P hI.2.1
  obtain ⟨r1, r2, r3⟩ := hR
  intro m
  induction m with
  | zero =>
    intro i n gone e1 e2
    obtain ⟨n, rfl⟩ : ∃ z, n = z + 1 := ⟨n - 1, by omega⟩
    have e : i = hh := by omega
    subst e
    obtain ⟨k1, k2⟩ := r2 i hhD
    exact ⟨gone, by rw [g_X10_at_86, if_pos (nI_le (by omega) (by omega)), s_whereIn hI hM (by omega) hp, Option.bind_some]⟩
  | succ m ih =>
    intro i n gone e1 e2
    obtain ⟨n, rfl⟩ : ∃ z, n = z + 1 := ⟨n - 1, by omega⟩
    obtain ⟨k1, k2⟩ := r2 i (by omega)
    obtain ⟨k3, k4⟩ := r2 (i + 1) (by omega)
    obtain ⟨k5, k6⟩ := r3 i (by omega)
    obtain ⟨gone1, c1⟩ := s_at_95 (queue := queue) (rf := rf) (i := i) (N := N) hN hI hW hM hr hft hE hb k1 k3 (by omega) (by omega) k5 (by omega) (fun u u1 u2 u3 => k6 u u1 u2 (by omega)) (g_X10_at_86 N al (nI r) (nI hh) (nI p) n) (pth (i + 1)) 0 N gone (by omega) (by omega)
    obtain ⟨gone', d1⟩ := ih (i + 1) n gone1 (by omega) (by omega)
    refine ⟨gone', ?_⟩
    rw [g_X10_at_86, if_neg (fun h => absurd ((e_le (by omega) (by omega)).mp h) (by omega))]
    exact c1.trans d1
theorem ROW.cg {n : Nat} {S : Nat → Nat → Prop} {s D : Nat} {h h' p : Nat → Nat} (hh : ∀ t, t < n → h t = h' t) (H : ROW n S s D h p) : ROW n S s D h' p := by
  obtain ⟨a1, a2, a3⟩ := H
  exact ⟨a1, fun i hi => ⟨(a2 i hi).1, by rw [← hh _ (a2 i hi).1]; exact (a2 i hi).2⟩, fun i hi => ⟨(a3 i hi).1, fun u u1 u2 u3 => (a3 i hi).2 u u1 u2 (by rw [hh u u1]; exact u3)⟩⟩
set_option maxHeartbeats 4000000 in
theorem op_at {N : Nat} (hN : 2000 ≤ N) : Op_at N (Rel WIc) := by
  intro cx cf key ms y1 y2 y3 hR
  unfold g_X9_at g_X10_at
  have hrf : ∀ x : Int32, g_X9_refuse (cf 36) (-2) x = some (x, rfd (cf 36) 0) := fun x => rfl
  have hrn : ∀ x : Int32, g_X9_refuse (cf 36) (-3) x = some (x, rfd (cf 36) 1) := fun x => rfl
  have hrm : ∀ x : Int32, g_X10_refuseAs (cf 67) (-3) x = some (x, rfd (cf 67) 1) := fun x => rfl
  rw [s_isRule, s_isRuleM, Option.bind_some, Option.bind_some, if10, if10]
  by_cases hv : wi y1 0 3 = true
  · rw [if_pos hv, if_pos hv]
    by_cases h2 : y2 < 0
    · rw [if_pos h2, if_pos h2, s_refAB, hrf]
      exact ⟨_, _, rfl, rfl, rfl, Rel_ext (Rel_rfd 0 hR) rfl rfl⟩
    · rw [if_neg h2, if_neg h2]
      obtain ⟨r, -, hr, rfl⟩ := wi_nI (lo := 0) (hi := 3) (by decide) (by decide) hv
      obtain ⟨hh, hhl, rfl⟩ := nI_of h2
      obtain ⟨⟨a, hI, hX, hM⟩, -⟩ := id hR
      obtain ⟨i1, i2, i3, i4, i5, i6, i7, i8, i9, i10⟩ := hI
      obtain ⟨x1, ⟨x2, x3⟩, ⟨x4, x5, x6, x7⟩, x8, x9, ⟨x10, x11⟩, x12, x13⟩ := hX
      obtain ⟨j0, j1, j2, j3, j4, j5, j6⟩ := id i1
      rw [show cx 4 = nI (a 1) from x1.2.1.1, s_isPerson, s_isPersonM (show cf 65 1 = nI (a 1) from hM.at (by decide)), Option.bind_some, Option.bind_some, if10, if10]
      by_cases h3 : kn y3 (a 1) = true
      · rw [if_pos h3, if_pos h3]
        obtain ⟨p, hp, rfl⟩ := kn_of (by omega) h3
        have hS := sv_lt (a := a) (b := 23) (a 1) (fun p hp => (i3 p hp).1)
        have hH := sv_lt (a := a) (b := 28) (a 1) (fun p hp => (i3 p hp).2)
        have hp2 := p2P j1
        have hft : ftv a r 5 < 64 := ftv_lt a r 5
        have hfb : FB a r (ftv a r 5) := fun n h1 h2 => ftv_tb a r 5 n h1 h2
        have hINV : INV a := ⟨i1, i2, i3, i4, i5, i6, i7, i8, i9, i10⟩
        have hsy : ∀ x y, ST (a 359) (ftv a r 5) (a 1) x y → ST (a 359) (ftv a r 5) (a 1) y x := fun x y h => ST_sym i2.sy h
        obtain ⟨cc', nc', soon', nev', ch', goers', group', hours', near', path', queue', q1, q2⟩ := s_search (N := N) hN hINV x2 x3 hr key (cx 59) (cx 60) (cx 56) (cx 57) (cx 58) (cf 50) hR.2.2.2.2 (cx 62) (cx 61) (cf 49) (cf 52) (cf 51) (cf 46) (cf 48) (cf 47)
        have hWI : WIc (lN (KK (a 359) (ftv a r 5) (a 1) (sv a 23 (a 1)) (sv a 28 (a 1)))) (nI (a 1)) (nI (a 359)) (nI (ftv a r 5)) soon' nev' path' := Or.inr ⟨_, _, _, _, _, ⟨i2.1, hft, j1, hS, hH⟩, rfl, q2⟩
        obtain ⟨h, d1, d2, d3, d4⟩ := q2
        rw [show cx 0 = nI (a 0) from x1.1.1, show cx 3 = nI (a 359) from x1.1.2.2.2, show cx 5 = nI (a 1) from x1.2.1.2.1]
        obtain ⟨hb2, far, gone, queue, f1, f2, f3⟩ := s_findFar (N := N) hN i1 i2 hM hr hfb hH (cf 83) (cf 85) (cf 84)
        have hsym := d1.sym hsy f2
        have hbH : h (sv a 28 (a 1)) ≤ 9999 := by rcases d1.2.2.1 _ hH with e | e <;> omega
        have hbb : ∀ t, t < 2 ^ (2 * a 1) → hb2 t ≤ 9999 := fun t ht => by rcases f2.2.2.1 _ ht with e | e <;> omega
        rw [q1, Option.bind_some, show g_X10_stateOf N (cf 65) 28 = some (nI (sv a 28 (a 1))) from s_stateOf (b := 28) (by omega) i1 hM (by omega), Option.bind_some, f1, Option.bind_some, show g_X10_stateOf N (cf 65) 23 = some (nI (sv a 23 (a 1))) from s_stateOf (b := 23) (by omega) i1 hM (by omega), Option.bind_some, if_pos (in1024 (by omega)), nI_clamp (by omega)]
        dsimp only
        have hcM : far (sv a 23 (a 1)) = 9999 ↔ h (sv a 28 (a 1)) = 9999 := by rw [f3 _ hS, hsym]; exact e_eq (b := 9999) (by omega) (by decide)
        have hcC : soon' = -1 ↔ h (sv a 28 (a 1)) = 9999 := by rw [d2]; exact eh_m1 hbH
        rw [ifi hcM, ifi hcC]
        by_cases c : h (sv a 28 (a 1)) = 9999
        · rw [if_pos c, if_pos c, hrm, hrn]
          exact ⟨_, _, rfl, rfl, rfl, Rel_walk (Rel_rfd 1 hR) rfl rfl hWI⟩
        · rw [if_neg c, if_neg c]
          have hD : h (sv a 28 (a 1)) < 1024 := by rcases d1.2.2.1 _ hH with e | e <;> omega
          have hleM : nI hh ≤ far (sv a 23 (a 1)) ↔ hh ≤ h (sv a 28 (a 1)) := by rw [f3 _ hS, ← hsym]; exact e_le (by omega) (by omega)
          have hleC : nI hh ≤ soon' ↔ hh ≤ h (sv a 28 (a 1)) := by rw [d2, show eh (h (sv a 28 (a 1))) = nI (h (sv a 28 (a 1))) from if_neg c]; exact e_le (by omega) (by omega)
          rw [ifi hleM, ifi hleC]
          by_cases c2 : hh ≤ h (sv a 28 (a 1))
          · rw [if_pos c2, if_pos c2]
            obtain ⟨h', pth, g1, g2, g3⟩ := d4 (by omega)
            have hrow := g2.cg (h' := hb2) (fun t ht => g1.uq f2 ht)
            have hst : pth 0 = sv a 23 (a 1) := g2.1
            obtain ⟨gone', k1⟩ := s_at_86 (queue := queue) (rf := cf 67) (N := N) hN i1 i2 hM hr hfb f3 hbb hD c2 hp hrow hh 0 N gone (by omega) (by omega)
            rw [hst] at k1
            have hpl := (hrow.2.1 hh c2).1
            have hcb : g_X8_cornerBehind (nI (a 1)) path' (nI hh) (nI p) = some (nI (dg (a 1) (pth hh) p)) := by
              unfold g_X8_cornerBehind
              rw [s_isWithin, Option.bind_some, if10, if_pos (show wi (nI hh) 0 1023 = true from by
                rw [show wi (nI hh) 0 1023 = (decide (0 ≤ hh) && decide (hh ≤ 1023)) from wi_of (lo := 0) (hi := 1023) (by omega) (by decide) (by decide)]; simp; omega), if_pos (in1024 (by omega)), nI_clamp (by omega), g3 hh c2, s_corner j1 (by omega) hp, Option.bind_some]
            rw [hcb, Option.bind_some, show g_X10_at_86 N (cf 65) (nI r) (nI hh) (nI p) N (nI (sv a 23 (a 1))) 0 far gone queue (cf 67) = _ from k1]
            exact ⟨_, _, rfl, rfl, rfl, Rel_walk hR rfl rfl hWI⟩
          · rw [if_neg c2, if_neg c2]
            exact ⟨_, _, rfl, rfl, rfl, Rel_walk hR rfl rfl hWI⟩
      · rw [if_neg h3, if_neg h3, s_refAB, hrf]
        refine ⟨_, _, rfl, rfl, rfl, Rel_ext (Rel_rfd 0 hR) rfl rfl⟩
  · rw [if_neg hv, if_neg hv, s_refAB, hrf]
    exact ⟨_, _, rfl, rfl, rfl, Rel_ext (Rel_rfd 0 hR) rfl rfl⟩
