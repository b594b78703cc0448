/-! type, still, count -/
theorem by_sA : ∀ k, k < 8 → (((8 * nI k).toInt64.toUInt64 &&& Int64.toUInt64 63).toBitVec % 64).toNat = 8 * k := by decide
theorem by_sB : ∀ k, k < 8 → (((8 * nI k).toInt64 &&& 63).toBitVec.smod 64).toNat = 8 * k := by decide
def byt (x : Int64) (k : Nat) : Nat := x.toBitVec.toNat / 2 ^ (8 * k) % 256
theorem byt_lt (x : Int64) (k : Nat) : byt x k < 256 := Nat.mod_lt _ (by decide)
theorem byt_bit (x : Int64) (k i : Nat) : (byt x k).testBit i = (decide (i < 8) && x.toBitVec.getLsbD (8 * k + i)) := by
  unfold byt
  rw [show (256 : Nat) = 2 ^ 8 from rfl, Nat.testBit_mod_two_pow, Nat.testBit_div_two_pow, BitVec.getLsbD, Nat.add_comm]
theorem l255 (i : Nat) : (255 : Int64).toBitVec.getLsbD i = decide (i < 8) := by
  show (255 : Nat).testBit i = _
  rw [show (255 : Nat) = 2 ^ 8 - 1 from rfl, Nat.testBit_two_pow_sub_one]
theorem by_A (x : Int64) {k : Nat} (hk : k < 8) : ((x.toUInt64 >>> ((8 * nI k).toInt64.toUInt64 &&& Int64.toUInt64 63)).toInt64 &&& 255).toInt32 = nI (byt x k) := by
  apply Int32.toBitVec_inj.1
  apply BitVec.eq_of_getLsbD_eq
  intro i hi
  show _ = (BitVec.ofNat 32 (byt x k)).getLsbD i
  rw [BitVec.getLsbD_ofNat, byt_bit, Int64.toBitVec_toInt32, BitVec.getLsbD_signExtend, Int64.toBitVec_and, BitVec.getLsbD_and, l255, UInt64.toBitVec_toInt64, UInt64.toBitVec_shiftRight, BitVec.ushiftRight_eq', by_sA k hk, BitVec.getLsbD_ushiftRight, Int64.toBitVec_toUInt64]
  by_cases h : i < 8
  · simp [h, hi, show i < 64 by omega]
  · simp [h, hi, show i < 64 by omega]
theorem by_B (x : Int64) {k : Nat} (hk : k < 8) : ((x >>> ((8 * nI k).toInt64 &&& 63)) &&& 255).toInt32 = nI (byt x k) := by
  apply Int32.toBitVec_inj.1
  apply BitVec.eq_of_getLsbD_eq
  intro i hi
  show _ = (BitVec.ofNat 32 (byt x k)).getLsbD i
  rw [BitVec.getLsbD_ofNat, byt_bit, Int64.toBitVec_toInt32, BitVec.getLsbD_signExtend, Int64.toBitVec_and, BitVec.getLsbD_and, l255, Int64.toBitVec_shiftRight, BitVec.sshiftRight', by_sB k hk, BitVec.getLsbD_sshiftRight]
  by_cases h : i < 8
  · simp [h, hi, show i < 64 by omega, show 8 * k + i < 64 by omega]
  · simp [h, hi, show i < 64 by omega]
theorem s_typeLoop {WI : q_WI} {key ms : Int64} (x : Int64) : ∀ (m f f' : Nat) (cx : Nat → Int32) (cf : Nat → Nat → Int32) (rf rf' : Nat → Int32) (a : Nat → Nat), m ≤ 8 → m < f → m < f' → Rel WI cx cf key ms → K2 a cx cf 0 → a 3 + m ≤ 200 →
    ∃ n v al, n < 201 ∧ g_X9_type_51 x f (nI m + (-1)) (cx 10) (cf 6) rf = some (nI n, nI n, v, rf) ∧ g_X10_type_43 x f' (nI m + (-1)) (cf 65) rf' = some (nI n, al, rf') ∧ Rel WI (va_up cx 10 (nI n)) (va_up (va_up cf 6 v) 65 al) key ms := by
  intro m
  induction m with
  | zero =>
    intro f f' cx cf rf rf' a h0 h1 h2 hR hK h3
    obtain ⟨f, rfl⟩ : ∃ z, f = z + 1 := ⟨f - 1, by omega⟩
    obtain ⟨f', rfl⟩ : ∃ z, f' = z + 1 := ⟨f' - 1, by omega⟩
    have hc : cx 10 = nI (a 3) := hK.2.1.1.2.2.1
    have hm : cf 65 3 = nI (a 3) := hK.2.2.at (by decide)
    refine ⟨a 3, cf 6, cf 65, by omega, ?_, ?_, ?_⟩
    · rw [g_X9_type_51, if_pos (by decide), s_size, Option.bind_some, hc]
    · rw [g_X10_type_43, if_pos (by decide), if_pos in3, show (3 : Int32).toNatClampNeg = 3 from rfl, hm]
    · rw [← hc, va_up_id]
      refine Rel_ext hR rfl ?_
      rw [show va_up cf 6 (cf 6) = cf from va_up_id cf 6, va_up_id]
  | succ m ih =>
    intro f f' cx cf rf rf' a h0 h1 h2 hR hK h3
    obtain ⟨f, rfl⟩ : ∃ z, f = z + 1 := ⟨f - 1, by omega⟩
    obtain ⟨f', rfl⟩ : ∃ z, f' = z + 1 := ⟨f' - 1, by omega⟩
    obtain ⟨hI, hX, hM⟩ := hK
    obtain ⟨i1, i2, i3, i4, i5, i6, i7, i8, i9, i10⟩ := hI
    obtain ⟨x1, ⟨x2, x3⟩, ⟨x4, x5, x6, x7⟩, x8, x9, ⟨x10, x11⟩, x12, x13⟩ := hX
    obtain ⟨j0, j1, j2, j3, j4, j5, j6⟩ := id i1
    have hc : cx 10 = nI (a 3) := x1.2.2.1
    have hm : cf 65 3 = nI (a 3) := hM.at (by decide)
    obtain ⟨a', ea, hc', hb', ho⟩ := push_ex a (c := 3) (b := 129) (byt x m) (by decide)
    have e0 := ho 0 (by decide) (by omega)
    have e1 := ho 1 (by decide) (by omega)
    have e2 := ho 2 (by decide) (by omega)
    have e4 := ho 4 (by decide) (by omega)
    have e5 := ho 5 (by decide) (by omega)
    have e6 := ho 6 (by decide) (by omega)
    have e7 := ho 357 (by decide) (by omega)
    have e8 := ho 358 (by decide) (by omega)
    have e9 := ho 359 (by decide) (by omega)
    have hg : ∀ lo hi, 7 ≤ lo → hi ≤ 129 ∨ 329 ≤ lo → ag a a' lo hi := fun lo hi h h' j h1 h2 => ho j (by omega) (by omega)
    have hR' : Rel WI (va_up cx 10 (nI (a 3 + 1))) (va_up (va_up cf 6 (upd (cf 6) (a 3) (nI (byt x m)))) 65 (upd (upd (cf 65) (129 + a 3) (nI (byt x m))) 3 (nI (a 3 + 1)))) key ms ∧ K2 a' (va_up cx 10 (nI (a 3 + 1))) (va_up (va_up cf 6 (upd (cf 6) (a 3) (nI (byt x m)))) 65 (upd (upd (cf 65) (129 + a 3) (nI (byt x m))) 3 (nI (a 3 + 1)))) 0 := by
      have k1 : INV a' := by
        refine ⟨⟨by omega, by omega, by omega, by omega, by omega, by omega, by omega⟩, i2.cg (hg _ _ (by decide) (by decide)) e9, i3.cg i1 e1 (hg _ _ (by decide) (by decide)), i4.cg i1 e1 e2 (hg _ _ (by decide) (by decide)), ?_, i6.cg i1 e4 (hg _ _ (by decide) (by decide)), i7.cg i1 (by omega) e5 (hg _ _ (by decide) (by decide)), i8.cg (hg _ _ (by decide) (by decide)), i9.cg i1 e6 (hg _ _ (by decide) (by decide)), i10.cg (hg _ _ (by decide) (by decide))⟩
        intro k hk
        rcases (show k = a 3 ∨ k < a 3 by omega) with rfl | h
        · rw [hb']; exact byt_lt x m
        · rw [ho _ (by omega) (by omega)]; exact i5 k h
      have k2 : KX a' (va_up cx 10 (nI (a 3 + 1))) (va_up (va_up cf 6 (upd (cf 6) (a 3) (nI (byt x m)))) 65 (upd (upd (cf 65) (129 + a 3) (nI (byt x m))) 3 (nI (a 3 + 1)))) 0 0 := by
        refine ⟨?_, ⟨x2.cg e1 (hg _ _ (by decide) (by omega)), x3.cg e1 (hg _ _ (by decide) (by omega))⟩, ⟨x4.cg e2 (hg _ _ (by decide) (by omega)), x5.cg e2 (hg _ _ (by decide) (by omega)), x6.cg e2 (hg _ _ (by decide) (by omega)), x7.cg e2 (hg _ _ (by decide) (by omega))⟩, x8.push hc' (fun j h1 h2 => ho j (by omega) (by omega)) hb', x9.cg e4 (hg _ _ (by decide) (by omega)), ⟨x10.cg e5 (hg _ _ (by decide) (by omega)), x11.cg e5 (hg _ _ (by decide) (by omega))⟩, x12.cg (hg _ _ (by decide) (by decide)), x13.cg e6 (hg _ _ (by decide) (by omega))⟩
        unfold XS at x1 ⊢
        rw [e0, e1, e2, e4, e5, e6, e7, e8, e9, hc']
        exact ⟨x1.1, x1.2.1, rfl, x1.2.2.2⟩
      have k3 : KM a' ((va_up (va_up cf 6 (upd (cf 6) (a 3) (nI (byt x m)))) 65 (upd (upd (cf 65) (129 + a 3) (nI (byt x m))) 3 (nI (a 3 + 1)))) 65) 0 := by
        rw [va_up_at, ea]; exact (hM.up (by omega)).up (by decide)
      exact ⟨Rel_now hR a' k1 k2 k3 (fun k hk => va_up_no _ _ (by omega)) (fun k _ hk => by rw [va_up_no _ _ hk, va_up_no _ _ (by omega)]) (fun k hk => by rw [va_up_at, upd_no (by omega), upd_no (by omega)]), k1, k2, k3⟩
    obtain ⟨n, v, al, q0, q1, q2, q3⟩ := ih f f' _ _ rf rf' a' (by omega) (by omega) (by omega) hR'.1 hR'.2 (by omega)
    refine ⟨n, v, al, q0, ?_, ?_, ?_⟩
    · rw [g_X9_type_51, pk_m1, if_neg (nI_pos (by omega)), by_A x (by omega), hc, s_add (by decide) (by omega), Option.bind_some]
      exact q1
    · rw [g_X10_type_43, pk_m1, if_neg (nI_pos (by omega)), by_B x (by omega), if_pos in3, show (3 : Int32).toNatClampNeg = 3 from rfl, hm, show (129 : Int32) + nI (a 3) = nI (129 + a 3) from nI_add 129 (a 3), if_pos (in_n (by omega)), nI_clamp (by omega), upd_no (by omega), hm, z_1]
      exact q2
    · exact Rel_ext q3 rfl rfl
theorem op_type {WI : q_WI} {N : Nat} (hN : 200 ≤ N) : Op_type N (Rel WI) := by
  intro cx cf key ms y1 y2 hR
  unfold g_X9_type g_X10_type
  rw [s_isWithin, s_in, Option.bind_some, Option.bind_some, if10, if10]
  by_cases hv : wi y2 1 8 = true
  · rw [if_pos hv, if_pos hv]
    obtain ⟨l, hl1, hl2, rfl⟩ := wi_nI (lo := 1) (hi := 8) (by decide) (by decide) hv
    obtain ⟨⟨a, hK⟩, -⟩ := id hR
    have hc : cx 10 = nI (a 3) := hK.2.1.1.2.2.1
    have hm : cf 65 3 = nI (a 3) := hK.2.2.at (by decide)
    have j3 := hK.1.1.2.2.2.1
    rw [hc, s_size, Option.bind_some, if_pos in3, show (3 : Int32).toNatClampNeg = 3 from rfl, hm, nI_add, ifi (show nI (a 3 + l) ≤ 200 ↔ a 3 + l ≤ 200 from e_le (b := 200) (by omega) (by decide)), ifi (show nI (a 3 + l) ≤ 200 ↔ a 3 + l ≤ 200 from e_le (b := 200) (by omega) (by decide))]
    by_cases hf : a 3 + l ≤ 200
    · rw [if_pos hf, if_pos hf, m1_add]
      obtain ⟨n, v, al, q0, q1, q2, q3⟩ := s_typeLoop y1 l N N cx cf (cf 36) (cf 67) a hl2 (by omega) (by omega) hR hK hf
      rw [hc] at q1
      refine ⟨_, _, q1, q2, rfl, Rel_ext q3 rfl rfl⟩
    · rw [if_neg hf, if_neg hf, s_refF, s_refMF]
      refine ⟨_, _, rfl, rfl, rfl, Rel_ext (Rel_rfd 2 hR) ?_ rfl⟩
      show LX.map (va_up cx 10 (nI (a 3))) = LX.map cx
      rw [← hc, va_up_id]
  · rw [if_neg hv, if_neg hv, s_refB, s_refMB]
    exact ⟨_, _, rfl, rfl, rfl, Rel_ext (Rel_rfd 0 hR) rfl rfl⟩
/-- how many of the first p start at c -/
def cnt (a : Nat → Nat) (c : Nat) : Nat → Nat
  | 0 => 0
  | p + 1 => cnt a c p + (if a (23 + p) = c then 1 else 0)
theorem cnt_le (a : Nat → Nat) (c p : Nat) : cnt a c p ≤ p := by
  induction p with
  | zero => exact Nat.le_refl _
  | succ p ih => rw [cnt]; split <;> omega
theorem s_people (x : Int32) : g_X2_people x = some x := rfl
theorem s_starters_4 {a : Nat → Nat} {f0 : Nat → Int32} (hI : IC a) (hP : IP a) (h0 : AR a 1 23 f0) {c : Nat} (hc : c < 4) : ∀ (m p f : Nat), p + m = a 1 → m < f → g_X2_starters_4 (nI (a 1)) f0 (nI c) f (nI (cnt a c p)) (nI p) = some (nI (cnt a c (a 1))) := by
  have j1 := hI.2.1
  intro m
  induction m with
  | zero =>
    intro p f h1 h2
    obtain ⟨f, rfl⟩ : ∃ z, f = z + 1 := ⟨f - 1, by omega⟩
    rw [g_X2_starters_4, s_people, Option.bind_some, if_pos (nI_le (by omega) (by omega)), show p = a 1 by omega]
  | succ m ih =>
    intro p f h1 h2
    obtain ⟨f, rfl⟩ : ∃ z, f = z + 1 := ⟨f - 1, by omega⟩
    have hp := hP p (by omega)
    rw [g_X2_starters_4, s_people, Option.bind_some, if_neg (fun h => absurd ((e_le (by omega) (by omega)).mp h) (by omega)), s_get (by decide) j1 (by omega), Option.bind_some, if_pos (show p < a 1 by omega), h0 p (by omega), ifi (e_eq (by omega) (by omega)), z_1, z_1]
    have ih' := ih (p + 1) f (by omega) (by omega)
    rw [cnt] at ih'
    by_cases h : a (23 + p) = c
    · rw [if_pos h] at ih' ⊢; exact ih'
    · rw [if_neg h] at ih' ⊢; exact ih'
theorem s_starters {a : Nat → Nat} {f0 : Nat → Int32} {N : Nat} (hN : 200 ≤ N) (hI : IC a) (hP : IP a) (h0 : AR a 1 23 f0) {c : Nat} (hc : c < 4) : g_X2_starters N (nI (a 1)) f0 (nI c) = some (nI (cnt a c (a 1))) := s_starters_4 hI hP h0 hc (a 1) 0 N (by omega) (by have := hI.2.1; omega)
/-- some way leads out to one of the first b -/
def wayOut (w c : Nat) : Nat → Bool
  | 0 => false
  | b + 1 => wayOut w c b || w.testBit (4 * c + b)
/-- a company of at most n may leave -/
def mayLeave (a : Nat → Nat) (r c : Nat) : Nat → Bool
  | 0 => false
  | n + 1 => mayLeave a r c n || (fitN (a 0) r (n + 1) && decide (n + 1 ≠ a (345 + c)))
theorem s_hasWayOut_2 {w c : Nat} (hc : c < 4) : ∀ (m b f : Nat), b + m = 4 → m < f → wayOut w c b = false → g_X2_hasWayOut_2 (nI w) (nI c) f (nI b) = some (if wayOut w c 4 then 1 else 0) := by
  intro m
  induction m with
  | zero =>
    intro b f h1 h2 h3
    obtain ⟨f, rfl⟩ : ∃ z, f = z + 1 := ⟨f - 1, by omega⟩
    have e : b = 4 := by omega
    subst e
    rw [g_X2_hasWayOut_2, if_pos (by decide), h3]; rfl
  | succ m ih =>
    intro b f h1 h2 h3
    obtain ⟨f, rfl⟩ : ∃ z, f = z + 1 := ⟨f - 1, by omega⟩
    rw [g_X2_hasWayOut_2, if_neg (show ¬ 4 ≤ nI b from fun h => absurd ((e_le (a := 4) (by decide) (by omega)).mp h) (by omega)), s_hasWay hc (by omega), Option.bind_some, if10, z_1]
    cases hb : w.testBit (4 * c + b) with
    | true =>
      have : ∀ d, d + (b + 1) ≤ 4 → wayOut w c (b + 1 + d) = true := by
        intro d
        induction d with
        | zero => intro _; show (wayOut w c b || w.testBit (4 * c + b)) = true; rw [hb]; simp
        | succ d ihd => intro hd; show (wayOut w c (b + 1 + d) || _) = true; rw [ihd (by omega)]; rfl
      have := this m (by omega)
      rw [show b + 1 + m = 4 by omega] at this
      rw [if_pos rfl, this]; rfl
    | false =>
      rw [if_neg (by decide)]
      exact ih (b + 1) f (by omega) (by omega) (by show (wayOut w c b || w.testBit (4 * c + b)) = false; rw [h3, hb]; rfl)
theorem mayLeave_up (a : Nat → Nat) (r c n : Nat) (h : mayLeave a r c n = true) : ∀ d, mayLeave a r c (n + d) = true := by
  intro d
  induction d with
  | zero => exact h
  | succ d ih => show (mayLeave a r c (n + d) || _) = true; rw [ih]; rfl
theorem s_canLeave_15 {a : Nat → Nat} {f0 f10 : Nat → Int32} {N r c : Nat} (hN : 200 ≤ N) (hI : IC a) (hP : IP a) (hL : IL a) (h0 : AR a 1 23 f0) (h10 : AL a f10) (hr : r ≤ 3) (hc : c < 4) : ∀ (m n f : Nat), n + m = cnt a c (a 1) → m < f → mayLeave a r c n = false → g_X1_canLeave_15 N (nI (a 0)) (nI (a 1)) f0 (nI 4) f10 (nI r) (nI c) f (nI (n + 1)) = some (if mayLeave a r c (cnt a c (a 1)) then 1 else 0) := by
  have j1 := hI.2.1
  have hcl := cnt_le a c (a 1)
  intro m
  induction m with
  | zero =>
    intro n f h1 h2 h3
    obtain ⟨f, rfl⟩ : ∃ z, f = z + 1 := ⟨f - 1, by omega⟩
    rw [g_X1_canLeave_15, s_starters hN hI hP h0 hc, Option.bind_some, if_pos (nI_lt (by omega) (by omega)), show cnt a c (a 1) = n by omega, h3]; rfl
  | succ m ih =>
    intro n f h1 h2 h3
    obtain ⟨f, rfl⟩ : ∃ z, f = z + 1 := ⟨f - 1, by omega⟩
    have hl := hL c hc
    rw [g_X1_canLeave_15, s_starters hN hI hP h0 hc, Option.bind_some, if_neg (fun h => absurd ((e_lt (by omega) (by omega)).mp h) (by omega)), s_fits hI.1 hr (by omega) hN, Option.bind_some, if10, s_get (by decide) (by decide) (by omega), Option.bind_some, if_pos hc, h10 c hc, ifi (e_eq (by omega) (by omega)), z_1]
    have hs : mayLeave a r c (n + 1) = (fitN (a 0) r (n + 1) && decide (n + 1 ≠ a (345 + c))) := by
      show (mayLeave a r c n || _) = _
      rw [h3]; rfl
    have hgo := ih (n + 1) f (by omega) (by omega)
    cases hf : fitN (a 0) r (n + 1) with
    | false => rw [if_neg (by decide)]; exact hgo (by rw [hs, hf]; rfl)
    | true =>
      rw [if_pos rfl]
      by_cases h : n + 1 = a (345 + c)
      · rw [if_pos h]; exact hgo (by rw [hs, hf]; simp [h])
      · rw [if_neg h]
        have := mayLeave_up a r c (n + 1) (by rw [hs, hf]; simp [h]) m
        rw [show n + 1 + m = cnt a c (a 1) by omega] at this
        rw [this]; rfl
def canGo (a : Nat → Nat) (r c : Nat) : Bool := wayOut (a 359) c 4 && mayLeave a r c (cnt a c (a 1))
theorem s_canLeave {a : Nat → Nat} {f0 f10 : Nat → Int32} {N r c : Nat} (hN : 200 ≤ N) (hI : IC a) (hP : IP a) (hL : IL a) (h0 : AR a 1 23 f0) (h10 : AL a f10) (hr : r ≤ 3) (hc : c < 4) : g_X1_canLeave N (nI (a 0)) (nI (a 359)) (nI (a 1)) f0 (nI 4) f10 (nI r) (nI c) = some (if canGo a r c then 1 else 0) := by
  have hcl := cnt_le a c (a 1)
  have j1 := hI.2.1
  unfold g_X1_canLeave g_X2_hasWayOut
  rw [show g_X2_hasWayOut_2 (nI (a 359)) (nI c) N 0 = _ from s_hasWayOut_2 hc 4 0 N (by omega) (by omega) rfl, Option.bind_some, if10]
  unfold canGo
  cases wayOut (a 359) c 4 with
  | false => rfl
  | true =>
    rw [if_pos rfl, Bool.true_and]
    exact s_canLeave_15 hN hI hP hL h0 h10 hr hc (cnt a c (a 1)) 0 N (by omega) (by omega) rfl
theorem s_still_85 {a : Nat → Nat} {al : Nat → Int32} {N r c : Nat} (hN : 200 ≤ N) (hI : IC a) (hW : IW a) (hL : IL a) (hM : KM a al 0) (hr : r ≤ 3) (hc : c < 4) {b : Nat} (hb : b < 4) (fl : Bool) (x2 : Int32) (rf : Nat → Int32) (K : Int32 → Int32 → Int32 → Int32 → Int32 → (Nat → Int32) → Option (Int32 × (Nat → Int32))) {t : Nat} (ht : t ≤ 5) : ∀ (m n f : Nat), n + m = t → m < f → g_X10_still_85 N al (nI r) K f x2 (nI c) (nI t) (if fl || ((a 359).testBit (4 * c + b) && mayLeave a r c n) then 1 else 0) (nI b) (nI (n + 1)) rf = K x2 (nI c) (nI t) (if fl || ((a 359).testBit (4 * c + b) && mayLeave a r c t) then 1 else 0) (nI (b + 1)) rf := by
  intro m
  induction m with
  | zero =>
    intro n f h1 h2
    obtain ⟨f, rfl⟩ : ∃ z, f = z + 1 := ⟨f - 1, by omega⟩
    have e : n = t := by omega
    subst e
    rw [g_X10_still_85, if_pos (nI_lt (by omega) (by omega)), z_1]
  | succ m ih =>
    intro n f h1 h2
    obtain ⟨f, rfl⟩ : ∃ z, f = z + 1 := ⟨f - 1, by omega⟩
    have hl := hL c hc
    have ih' := ih (n + 1) f (by omega) (by omega)
    rw [show mayLeave a r c (n + 1) = (mayLeave a r c n || (fitN (a 0) r (n + 1) && decide (n + 1 ≠ a (345 + c)))) from rfl] at ih'
    rw [g_X10_still_85, if_neg (fun h => absurd ((e_lt (by omega) (by omega)).mp h) (by omega)), if10, z_1, s_hasWayM hM hW hc hb, Option.bind_some, if10, s_may (hM.at (i := 0) (by decide)) hI.1 hr (by omega) hN, Option.bind_some, if10, show (345 : Int32) + nI c = nI (345 + c) from nI_add 345 c, if_pos (in_n (by omega)), nI_clamp (by omega), hM.at (by omega), ifi (e_eq (by omega) (by omega))]
    rw [← ih']
    cases fl with
    | true => rfl
    | false =>
      cases (a 359).testBit (4 * c + b) with
      | false => rfl
      | true =>
        cases mayLeave a r c n with
        | true => rfl
        | false =>
          cases fitN (a 0) r (n + 1) with
          | false => rfl
          | true =>
            by_cases h : n + 1 = a (345 + c)
            · rw [if_pos h]; simp [h]
            · rw [if_neg h]; simp [h]
theorem s_still_76 {a : Nat → Nat} {al : Nat → Int32} {N r c : Nat} (hN : 200 ≤ N) (hI : IC a) (hW : IW a) (hL : IL a) (hM : KM a al 0) (hr : r ≤ 3) (hc : c < 4) (x2 : Int32) (rf : Nat → Int32) (K : Int32 → Int32 → (Nat → Int32) → Option (Int32 × (Nat → Int32))) {t : Nat} (ht : t ≤ 5) : ∀ (m b f : Nat), b + m = 4 → m < f → g_X10_still_76 N al (nI r) K f x2 (nI c) (nI t) (if wayOut (a 359) c b && mayLeave a r c t then 1 else 0) (nI b) rf = K (if decide (0 < t) && !(wayOut (a 359) c 4 && mayLeave a r c t) then x2 ||| (1 <<< (nI c &&& 31)) else x2) (nI (c + 1)) rf := by
  intro m
  induction m with
  | zero =>
    intro b f h1 h2
    obtain ⟨f, rfl⟩ : ∃ z, f = z + 1 := ⟨f - 1, by omega⟩
    have e : b = 4 := by omega
    subst e
    rw [g_X10_still_76, if_pos (by decide), ifi (show nI t ≤ 0 ↔ t ≤ 0 from e_le (b := 0) (by omega) (by decide)), if10, z_1, Int32.or_zero]
    by_cases h : t ≤ 0
    · rw [if_pos h, if_neg (by simp; omega)]
    · rw [if_neg h]
      have : decide (0 < t) = true := by simp; omega
      rw [this]
      cases (wayOut (a 359) c 4 && mayLeave a r c t) <;> rfl
  | succ m ih =>
    intro b f h1 h2
    obtain ⟨f, rfl⟩ : ∃ z, f = z + 1 := ⟨f - 1, by omega⟩
    have ih' := ih (b + 1) f (by omega) (by omega)
    rw [g_X10_still_76, if_neg (show ¬ 4 ≤ nI b from fun h => absurd ((e_le (a := 4) (by decide) (by omega)).mp h) (by omega))]
    have h := s_still_85 hN hI hW hL hM hr hc (b := b) (by omega) (wayOut (a 359) c b && mayLeave a r c t) x2 rf (g_X10_still_76 N al (nI r) K f) ht t 0 N (by omega) (by omega)
    rw [show mayLeave a r c 0 = false from rfl, Bool.and_false, Bool.or_false] at h
    refine h.trans ?_
    rw [← ih']
    show _ = g_X10_still_76 N al (nI r) K f x2 (nI c) (nI t) (if (wayOut (a 359) c b || (a 359).testBit (4 * c + b)) && mayLeave a r c t then 1 else 0) (nI (b + 1)) rf
    cases wayOut (a 359) c b <;> cases (a 359).testBit (4 * c + b) <;> cases mayLeave a r c t <;> rfl
theorem s_still_29 {a : Nat → Nat} {al : Nat → Int32} {N r c : Nat} (hN : 200 ≤ N) (hI : IC a) (hW : IW a) (hP : IP a) (hL : IL a) (hM : KM a al 0) (hr : r ≤ 3) (hc : c < 4) (x2 : Int32) (rf : Nat → Int32) (K : Int32 → Int32 → (Nat → Int32) → Option (Int32 × (Nat → Int32))) : ∀ (m p f : Nat), p + m = a 1 → m < f → g_X10_still_29 N al (nI r) K f x2 (nI c) (nI (cnt a c p)) (nI p) rf = K (if decide (0 < cnt a c (a 1)) && !(canGo a r c) then x2 ||| (1 <<< (nI c &&& 31)) else x2) (nI (c + 1)) rf := by
  have j1 := hI.2.1
  intro m
  induction m with
  | zero =>
    intro p f h1 h2
    obtain ⟨f, rfl⟩ : ∃ z, f = z + 1 := ⟨f - 1, by omega⟩
    rw [g_X10_still_29, if_pos in1, show (1 : Int32).toNatClampNeg = 1 from rfl, hM.at (by decide), if_pos (nI_le (by omega) (by omega)), show p = a 1 by omega]
    have := cnt_le a c (a 1)
    exact s_still_76 hN hI hW hL hM hr hc x2 rf K (by omega) 4 0 N (by omega) (by omega)
  | succ m ih =>
    intro p f h1 h2
    obtain ⟨f, rfl⟩ : ∃ z, f = z + 1 := ⟨f - 1, by omega⟩
    have hp := hP p (by omega)
    have ih' := ih (p + 1) f (by omega) (by omega)
    rw [cnt] at ih'
    rw [g_X10_still_29, if_pos in1, show (1 : Int32).toNatClampNeg = 1 from rfl, hM.at (by decide), if_neg (fun h => absurd ((e_le (by omega) (by omega)).mp h) (by omega)), show (23 : Int32) + nI p = nI (23 + p) from nI_add 23 p, if_pos (in_n (by omega)), nI_clamp (by omega), hM.at (by omega), ifi (e_eq (by omega) (by omega)), z_1, z_1, show nI (cnt a c p) + 0 = nI (cnt a c p + 0) from nI_add _ 0]
    by_cases h : a (23 + p) = c
    · rw [if_pos h] at ih' ⊢; exact ih'
    · rw [if_neg h] at ih' ⊢; exact ih'
theorem s_still {a : Nat → Nat} {al f0 f10 : Nat → Int32} {N r : Nat} (hN : 200 ≤ N) (hI : IC a) (hW : IW a) (hP : IP a) (hL : IL a) (hM : KM a al 0) (h0 : AR a 1 23 f0) (h10 : AL a f10) (hr : r ≤ 3) (rf rf' : Nat → Int32) : ∀ (m c f f' : Nat) (x2 : Int32), c + m = 4 → m < f → m < f' → ∃ z, g_X9_still_20 N (nI (a 0)) (nI (a 359)) (nI (a 1)) f0 (nI 4) f10 (nI r) f x2 (nI c) rf = some (z, rf) ∧ g_X10_still_18 N al (nI r) f' x2 (nI c) rf' = some (z, rf') := by
  have j1 := hI.2.1
  intro m
  induction m with
  | zero =>
    intro c f f' x2 h1 h2 h3
    obtain ⟨f, rfl⟩ : ∃ z, f = z + 1 := ⟨f - 1, by omega⟩
    obtain ⟨f', rfl⟩ : ∃ z, f' = z + 1 := ⟨f' - 1, by omega⟩
    have e : c = 4 := by omega
    subst e
    exact ⟨x2, by rw [g_X9_still_20, if_pos (by decide)], by rw [g_X10_still_18, if_pos (by decide)]⟩
  | succ m ih =>
    intro c f f' x2 h1 h2 h3
    obtain ⟨f, rfl⟩ : ∃ z, f = z + 1 := ⟨f - 1, by omega⟩
    obtain ⟨f', rfl⟩ : ∃ z, f' = z + 1 := ⟨f' - 1, by omega⟩
    have hcl := cnt_le a c (a 1)
    obtain ⟨z, q1, q2⟩ := ih (c + 1) f f' (if decide (0 < cnt a c (a 1)) && !(canGo a r c) then x2 ||| (1 <<< (nI c &&& 31)) else x2) (by omega) (by omega) (by omega)
    have h4 : ¬ 4 ≤ nI c := fun h => absurd ((e_le (a := 4) (by decide) (by omega)).mp h) (by omega)
    refine ⟨z, ?_, ?_⟩
    · rw [g_X9_still_20, if_neg h4, s_starters hN hI hP h0 (by omega), Option.bind_some, ifi (show nI (cnt a c (a 1)) ≤ 0 ↔ cnt a c (a 1) ≤ 0 from e_le (b := 0) (by omega) (by decide)), s_canLeave hN hI hP hL h0 h10 hr (by omega), Option.bind_some, if10, z_1, ← q1]
      by_cases h : cnt a c (a 1) ≤ 0
      · have : decide (0 < cnt a c (a 1)) = false := by simp; omega
        rw [if_pos h, this]; rfl
      · have : decide (0 < cnt a c (a 1)) = true := by simp; omega
        rw [if_neg h, this]
        cases canGo a r c <;> rfl
    · rw [g_X10_still_18, if_neg h4, ← q2]
      exact s_still_29 hN hI hW hP hL hM hr (by omega) x2 rf' _ (a 1) 0 N (by omega) (by omega)
theorem op_still {WI : q_WI} {N : Nat} (hN : 200 ≤ N) : Op_still N (Rel WI) := by
  intro cx cf key ms y1 hR
  unfold g_X9_still g_X10_still
  rw [s_isRule, s_isRuleM, Option.bind_some, Option.bind_some, if10, if10]
  by_cases hv : wi y1 0 3 = true
  · rw [if_pos hv, if_pos hv]
    obtain ⟨r, -, hr, rfl⟩ := wi_nI (lo := 0) (hi := 3) (by decide) (by decide) hv
    obtain ⟨⟨a, hI, hX, hM⟩, -⟩ := id hR
    obtain ⟨i1, i2, i3, i4, i5, i6, i7, i8, i9, i10⟩ := hI
    obtain ⟨x1, ⟨x2, x3⟩, ⟨x4, x5, x6, x7⟩, x8, x9, ⟨x10, x11⟩, x12, x13⟩ := hX
    obtain ⟨j0, j1, j2, j3, j4, j5, j6⟩ := id i1
    rw [show cx 0 = nI (a 0) from x1.1.1, show cx 3 = nI (a 359) from x1.1.2.2.2, show cx 4 = nI (a 1) from x1.2.1.1, show cx 14 = nI 4 from x1.2.2.2.2.2.2.1]
    obtain ⟨z, q1, q2⟩ := s_still hN i1 i2 i3 i8 hM x2 x12 hr (cf 36) (cf 67) 4 0 N N 0 (by omega) (by omega) (by omega)
    exact ⟨_, _, q1, q2, rfl, Rel_ext hR rfl rfl⟩
  · rw [if_neg hv, if_neg hv, s_refB, s_refMB]
    exact ⟨_, _, rfl, rfl, rfl, Rel_ext (Rel_rfd 0 hR) rfl rfl⟩
/-! how many ways -/
theorem bc_all : ∀ c, c < 64 → g_X2_wayCount (nI (18 * (c % 2) + 260 * (c / 2 % 2) + 4104 * (c / 4 % 2) + 576 * (c / 8 % 2) + 8320 * (c / 16 % 2) + 18432 * (c / 32 % 2))) = some (nI (c % 2 + c / 2 % 2 + c / 4 % 2 + c / 8 % 2 + c / 16 % 2 + c / 32 % 2)) := by decide +kernel
def wsum (a : Nat → Nat) : Nat → Nat
  | 0 => 0
  | k + 1 => wsum a k + a (7 + k)
theorem wsum_le {a : Nat → Nat} (hW : IW a) : ∀ k, k ≤ 16 → wsum a k ≤ k := by
  intro k
  induction k with
  | zero => intro _; exact Nat.le_refl _
  | succ k ih =>
    intro h
    have := ih (by omega)
    have h1 := hW.2.1 k (by omega)
    have h2 : a 359 / 2 ^ k % 2 < 2 := Nat.mod_lt _ (by decide)
    rw [wsum]; omega
theorem s_waysNow_4 {a : Nat → Nat} {al : Nat → Int32} (hW : IW a) (hM : KM a al 0) : ∀ (m k f : Nat), k + m = 16 → m < f → g_X10_waysNow_4 al f (nI (wsum a k)) (nI k) = some (nI (wsum a 16 / 2)) := by
  intro m
  induction m with
  | zero =>
    intro k f h1 h2
    obtain ⟨f, rfl⟩ : ∃ z, f = z + 1 := ⟨f - 1, by omega⟩
    have e : k = 16 := by omega
    subst e
    have := wsum_le hW 16 (by omega)
    rw [g_X10_waysNow_4, if_pos (by decide), show nI (wsum a 16) / 2 = nI (wsum a 16 / 2) from pk_div (d := 2) (by omega) (by decide) (by decide)]
  | succ m ih =>
    intro k f h1 h2
    obtain ⟨f, rfl⟩ : ∃ z, f = z + 1 := ⟨f - 1, by omega⟩
    rw [g_X10_waysNow_4, if_neg (show ¬ 16 ≤ nI k from fun h => absurd ((e_le (a := 16) (by decide) (by omega)).mp h) (by omega)), show (7 : Int32) + nI k = nI (7 + k) from nI_add 7 k, if_pos (in_n (by omega)), nI_clamp (by omega), hM.at (by omega), nI_add, z_1]
    exact ih (k + 1) f (by omega) (by omega)
theorem ways_form {a : Nat → Nat} (hW : IW a) : a 359 = 18 * a 8 + 260 * a 9 + 4104 * a 10 + 576 * a 13 + 8320 * a 14 + 18432 * a 18 ∧ wsum a 16 = 2 * (a 8 + a 9 + a 10 + a 13 + a 14 + a 18) := by
  have h0 := hW.1
  have e : ∀ k, a 359 / 2 ^ k = 2 * (a 359 / 2 ^ (k + 1)) + a 359 / 2 ^ k % 2 := by
    intro k
    rw [Nat.pow_succ, ← Nat.div_div_eq_div_mul]
    omega
  have b : ∀ k, k < 16 → a 359 / 2 ^ k = 2 * (a 359 / 2 ^ (k + 1)) + a (7 + k) := fun k hk => by rw [hW.2.1 k hk]; exact e k
  have z : a 359 / 2 ^ 16 = 0 := Nat.div_eq_of_lt h0
  have z0 : a 359 / 2 ^ 0 = a 359 := by simp
  have s : ∀ i j, i < 4 → j < 4 → a (7 + (4 * i + j)) = a (7 + (4 * j + i)) := hW.2.2.1
  have d : ∀ i, i < 4 → a (7 + (4 * i + i)) = 0 := hW.2.2.2
  have b0 := b 0 (by decide)
  have b1 := b 1 (by decide)
  have b2 := b 2 (by decide)
  have b3 := b 3 (by decide)
  have b4 := b 4 (by decide)
  have b5 := b 5 (by decide)
  have b6 := b 6 (by decide)
  have b7 := b 7 (by decide)
  have b8 := b 8 (by decide)
  have b9 := b 9 (by decide)
  have b10 := b 10 (by decide)
  have b11 := b 11 (by decide)
  have b12 := b 12 (by decide)
  have b13 := b 13 (by decide)
  have b14 := b 14 (by decide)
  have b15 := b 15 (by decide)
  have d0 := d 0 (by decide)
  have d1 := d 1 (by decide)
  have d2 := d 2 (by decide)
  have d3 := d 3 (by decide)
  have s1 := s 0 1 (by decide) (by decide)
  have s2 := s 0 2 (by decide) (by decide)
  have s3 := s 0 3 (by decide) (by decide)
  have s4 := s 1 2 (by decide) (by decide)
  have s5 := s 1 3 (by decide) (by decide)
  have s6 := s 2 3 (by decide) (by decide)
  simp only [Nat.zero_add, Nat.reduceAdd, Nat.reduceMul] at b0 b1 b2 b3 b4 b5 b6 b7 b8 b9 b10 b11 b12 b13 b14 b15 d0 d1 d2 d3 s1 s2 s3 s4 s5 s6
  simp only [wsum, Nat.reduceAdd, Nat.add_zero, Nat.zero_add]
  generalize a 359 / 2 ^ 0 = q0 at *
  generalize a 359 / 2 ^ 1 = q1 at *
  generalize a 359 / 2 ^ 2 = q2 at *
  generalize a 359 / 2 ^ 3 = q3 at *
  generalize a 359 / 2 ^ 4 = q4 at *
  generalize a 359 / 2 ^ 5 = q5 at *
  generalize a 359 / 2 ^ 6 = q6 at *
  generalize a 359 / 2 ^ 7 = q7 at *
  generalize a 359 / 2 ^ 8 = q8 at *
  generalize a 359 / 2 ^ 9 = q9 at *
  generalize a 359 / 2 ^ 10 = q10 at *
  generalize a 359 / 2 ^ 11 = q11 at *
  generalize a 359 / 2 ^ 12 = q12 at *
  generalize a 359 / 2 ^ 13 = q13 at *
  generalize a 359 / 2 ^ 14 = q14 at *
  generalize a 359 / 2 ^ 15 = q15 at *
  generalize a 359 / 2 ^ 16 = q16 at *
  clear e b s d hW
  omega
theorem s_wayCount {a : Nat → Nat} (hW : IW a) : g_X2_wayCount (nI (a 359)) = some (nI (wsum a 16 / 2)) := by
  have ⟨h1, h2⟩ := ways_form hW
  have b : ∀ k, k < 16 → a (7 + k) < 2 := fun k hk => by rw [hW.2.1 k hk]; exact Nat.mod_lt _ (by decide)
  rw [h1, h2, Nat.mul_div_cancel_left _ (by decide)]
  have b1 : a 8 < 2 := b 1 (by decide)
  have b2 : a 9 < 2 := b 2 (by decide)
  have b3 : a 10 < 2 := b 3 (by decide)
  have b6 : a 13 < 2 := b 6 (by decide)
  have b7 : a 14 < 2 := b 7 (by decide)
  have b11 : a 18 < 2 := b 11 (by decide)
  have := bc_all (a 8 + 2 * a 9 + 4 * a 10 + 8 * a 13 + 16 * a 14 + 32 * a 18) (by omega)
  rw [show (a 8 + 2 * a 9 + 4 * a 10 + 8 * a 13 + 16 * a 14 + 32 * a 18) % 2 = a 8 by omega, show (a 8 + 2 * a 9 + 4 * a 10 + 8 * a 13 + 16 * a 14 + 32 * a 18) / 2 % 2 = a 9 from by rw [show (a 8 + 2 * a 9 + 4 * a 10 + 8 * a 13 + 16 * a 14 + 32 * a 18) / 2 = a 9 + 2 * a 10 + 4 * a 13 + 8 * a 14 + 16 * a 18 by omega]; omega, show (a 8 + 2 * a 9 + 4 * a 10 + 8 * a 13 + 16 * a 14 + 32 * a 18) / 4 % 2 = a 10 from by rw [show (a 8 + 2 * a 9 + 4 * a 10 + 8 * a 13 + 16 * a 14 + 32 * a 18) / 4 = a 10 + 2 * a 13 + 4 * a 14 + 8 * a 18 by omega]; omega, show (a 8 + 2 * a 9 + 4 * a 10 + 8 * a 13 + 16 * a 14 + 32 * a 18) / 8 % 2 = a 13 from by rw [show (a 8 + 2 * a 9 + 4 * a 10 + 8 * a 13 + 16 * a 14 + 32 * a 18) / 8 = a 13 + 2 * a 14 + 4 * a 18 by omega]; omega, show (a 8 + 2 * a 9 + 4 * a 10 + 8 * a 13 + 16 * a 14 + 32 * a 18) / 16 % 2 = a 14 from by rw [show (a 8 + 2 * a 9 + 4 * a 10 + 8 * a 13 + 16 * a 14 + 32 * a 18) / 16 = a 14 + 2 * a 18 by omega]; omega, show (a 8 + 2 * a 9 + 4 * a 10 + 8 * a 13 + 16 * a 14 + 32 * a 18) / 32 % 2 = a 18 from by rw [show (a 8 + 2 * a 9 + 4 * a 10 + 8 * a 13 + 16 * a 14 + 32 * a 18) / 32 = a 18 by omega]; omega] at this
  exact this
/-- how many there are of each kind -/
def hm (a : Nat → Nat) (i : Nat) : Nat := if i = 0 then wsum a 16 / 2 else a i
theorem s_howMany {a : Nat → Nat} (hW : IW a) {i : Nat} (hi : i ≤ 6) : g_X9_howMany (nI (a 6)) (nI (a 5)) (nI (a 4)) (nI (a 359)) (nI (a 2)) (nI (a 1)) (nI (a 3)) (nI i) = some (nI (hm a i)) := by
  unfold g_X9_howMany
  rw [s_wayCount hW]
  rcases (show i = 0 ∨ i = 1 ∨ i = 2 ∨ i = 3 ∨ i = 4 ∨ i = 5 ∨ i = 6 by omega) with rfl | rfl | rfl | rfl | rfl | rfl | rfl <;> rfl
theorem s_countOf {a : Nat → Nat} {al : Nat → Int32} {N : Nat} (hN : 200 ≤ N) (hW : IW a) (hM : KM a al 0) {i : Nat} (hi : i ≤ 6) : g_X10_countOf N al (nI i) = some (nI (hm a i)) := by
  unfold g_X10_countOf g_X10_waysNow
  rw [show g_X10_waysNow_4 al N 0 0 = some (nI (wsum a 16 / 2)) from s_waysNow_4 hW hM 16 0 N (by omega) (by omega), ifi (e_eq0 (a := i) (by omega)), Option.bind_some, if_pos (in_n (by omega)), nI_clamp (by omega), hM.at (by omega)]
  unfold hm
  exact some_if _ _ _ |>.trans (by split <;> rfl)
theorem op_count {WI : q_WI} {N : Nat} (hN : 200 ≤ N) : Op_count N (Rel WI) := by
  intro cx cf key ms y1 hR
  unfold g_X9_count g_X10_count
  rw [s_isWithin, s_in, Option.bind_some, Option.bind_some, if10, if10]
  by_cases hv : wi y1 0 6 = true
  · rw [if_pos hv, if_pos hv]
    obtain ⟨k, -, hk, rfl⟩ := wi_nI (lo := 0) (hi := 6) (by decide) (by decide) hv
    obtain ⟨⟨a, hI, hX, hM⟩, -⟩ := id hR
    obtain ⟨i1, i2, i3, i4, i5, i6, i7, i8, i9, i10⟩ := hI
    obtain ⟨x1, ⟨x2, x3⟩, ⟨x4, x5, x6, x7⟩, x8, x9, ⟨x10, x11⟩, x12, x13⟩ := hX
    obtain ⟨j0, j1, j2, j3, j4, j5, j6⟩ := id i1
    rw [show cx 15 = nI (a 6) from x1.2.2.2.2.2.2.2, show cx 12 = nI (a 5) from x1.2.2.2.2.1, show cx 11 = nI (a 4) from x1.2.2.2.1, show cx 3 = nI (a 359) from x1.1.2.2.2, show cx 6 = nI (a 2) from x1.2.1.2.2.1, show cx 4 = nI (a 1) from x1.2.1.1, show cx 10 = nI (a 3) from x1.2.2.1, s_howMany i2 hk, s_countOf hN i2 hM hk]
    exact ⟨_, _, rfl, rfl, rfl, Rel_ext hR rfl rfl⟩
  · rw [if_neg hv, if_neg hv, s_refB, s_refMB]
    exact ⟨_, _, rfl, rfl, rfl, Rel_ext (Rel_rfd 0 hR) rfl rfl⟩
