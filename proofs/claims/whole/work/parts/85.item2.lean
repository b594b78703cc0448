/-! read: one of the people; a go -/
set_option maxHeartbeats 1000000 in
theorem ONE {N n : Nat} {T : Nat → Nat} {v al : Nat → Int32} (hN : 300 ≤ N) (hT : TX n T v al) {p m : Nat} {at_ st so va : Int32} (hA : LA N n v al p at_ st so va) (hm : m < 5) (fH fS : Nat → Int32) (gos : Int32) (gf gH gh gS gt gw gb : Nat → Int32) :
    (∃ q s h, p < q ∧ q ≤ n ∧ s < 4 ∧ h < 4 ∧ (∀ plc0 tok num : Int32, ∃ nu plc tk : Int32, g_X3_takeOne N 200 plc0 (nI p) tok num (nI m) fH (nI m) fS (nI n) v = some (1, nI q, nu, plc, tk, nI (m + 1), upd fH m (nI h), nI (m + 1), upd fS m (nI s))) ∧ ∃ a' s' o' v', ((g_X10_number N at_ st so va (-1) al 0 3).bind fun u82 => (if inb (nI m) 5 then ((g_X10_number N u82.2.1 u82.2.2.2.2.1 u82.2.2.2.1 u82.2.2.2.2.2 u82.2.2.1 al 0 3).bind fun u97 => g_X10_readItem_118 N al u97.2.1 u97.2.2.1 gos (nI m + 1) u97.2.2.2.1 u97.2.2.2.2.1 u97.2.2.2.2.2 gf (upd gH (nI m).toNatClampNeg u97.1) gh (upd gS (nI m).toNatClampNeg u82.1) gt gw gb) else none)) = some (a', -1, gos, nI (m + 1), o', s', v', gf, upd gH m (nI h), gh, upd gS m (nI s), gt, gw, gb) ∧ LA N n v al q a' s' o' v') ∨
    (∃ pl, pl ≤ n ∧ (∀ plc0 tok num : Int32, ∃ nx nu tk m1 f1 m2 f2, g_X3_takeOne N 200 plc0 (nI p) tok num (nI m) fH (nI m) fS (nI n) v = some (0, nx, nu, nI pl, tk, m1, f1, m2, f2)) ∧ ∃ a' me s' o' v' x1 x2, ((g_X10_number N at_ st so va (-1) al 0 3).bind fun u82 => (if inb (nI m) 5 then ((g_X10_number N u82.2.1 u82.2.2.2.2.1 u82.2.2.2.1 u82.2.2.2.2.2 u82.2.2.1 al 0 3).bind fun u97 => g_X10_readItem_118 N al u97.2.1 u97.2.2.1 gos (nI m + 1) u97.2.2.2.1 u97.2.2.2.2.1 u97.2.2.2.2.2 gf (upd gH (nI m).toNatClampNeg u97.1) gh (upd gS (nI m).toNatClampNeg u82.1) gt gw gb) else none)) = some (a', nI pl, gos, me, o', s', v', gf, x1, gh, x2, gt, gw, gb)) := by
  have hn := hT.1
  have hfull : g_X7_isFull 5 (nI m) = some 0 := by
    rw [s_full (by decide) (by omega), decide_eq_false (by omega)]; rfl
  simp only [in5' hm, if_true, nI_clamp (show m < 2 ^ 31 by omega), z_1]
  rcases NUM hN hT (lo := 0) (hi := 3) hA (by omega) (by omega) with ⟨s, e1, x1, x2, x3, x4, x5, a1, s1, o1, v1, x6, x7⟩ | ⟨pl, y1, y2, y3⟩
  · rw [show g_X10_number N at_ st so va (-1) al 0 3 = some (nI s, a1, -1, o1, s1, v1) from x6, Option.bind_some]
    dsimp only
    rcases NUM hN hT (lo := 0) (hi := 3) x7 (by omega) (by omega) with ⟨h, e2, z1, z2, z3, z4, z5, a2, s2, o2, v2, z6, z7⟩ | ⟨pl, y1, y2, y3⟩
    · rw [show g_X10_number N a1 s1 o1 v1 (-1) al 0 3 = some (nI h, a2, -1, o2, s2, v2) from z6, Option.bind_some]
      dsimp only
      have hcl : ∀ plc0 tok num : Int32, ∃ tk2 : Int32, g_X3_takeOne N 200 plc0 (nI p) tok num (nI m) fH (nI m) fS (nI n) v = (g_X3_takeStop N 200 (nI e2) tk2 (nI h) (nI n) v).bind fun u53 => (if zb u53.1 then some (u53.1, u53.2.1, u53.2.2.1, u53.2.2.2.1, u53.2.2.2.2, nI (m + 1), upd fH m (nI h), nI (m + 1), upd fS m (nI s)) else none) := by
        intro plc0 tok num
        obtain ⟨plc1, tk1, g1⟩ := x5 tok num
        obtain ⟨plc2, tk2, g2⟩ := z5 tk1 (nI s)
        refine ⟨tk2, ?_⟩
        unfold g_X3_takeOne
        rw [hfull, Option.bind_some, if_pos rfl, show g_X3_takeNumber N 200 (nI p) tok num (nI n) v 0 3 = _ from g1, Option.bind_some]
        dsimp only
        rw [if_neg (show ¬ (1 : Int32) = 0 by decide), show g_X3_takeNumber N 200 (nI e1) tk1 (nI s) (nI n) v 0 3 = _ from g2, Option.bind_some]
        dsimp only
        unfold g_X2_addPerson
        rw [if_neg (show ¬ (1 : Int32) = 0 by decide), s_add (by decide) hm, Option.bind_some, s_add (by decide) hm, Option.bind_some, Option.bind_some]
      rcases s118 hN hT z7 gos (nI (m + 1)) gf (upd gH m (nI h)) gh (upd gS m (nI s)) gt gw gb with ⟨q, q1, q2, q3, a3, s3, o3, v3, q4, q5⟩ | ⟨pl3, q1, q2, q3⟩
      · left
        refine ⟨q, s, h, by omega, q2, by omega, by omega, fun plc0 tok num => ?_, a3, s3, o3, v3, q4, q5⟩
        obtain ⟨tk2, g1⟩ := hcl plc0 tok num
        obtain ⟨nu, plc, tk, g2⟩ := q3 tk2 (nI h)
        rw [g2, Option.bind_some] at g1
        exact ⟨nu, plc, tk, g1⟩
      · right
        refine ⟨pl3, q1, fun plc0 tok num => ?_, _, _, _, _, _, _, _, q3⟩
        obtain ⟨tk2, g1⟩ := hcl plc0 tok num
        obtain ⟨nx, nu, tk, g2⟩ := q2 tk2 (nI h)
        rw [g2, Option.bind_some] at g1
        exact ⟨_, _, _, _, _, _, _, g1⟩
    · right
      refine ⟨pl, y1, fun plc0 tok num => ?_, ?_⟩
      · obtain ⟨plc1, tk1, g1⟩ := x5 tok num
        obtain ⟨nx, nu, tk2, g2⟩ := y2 tk1 (nI s)
        unfold g_X3_takeOne
        rw [hfull, Option.bind_some, if_pos rfl, show g_X3_takeNumber N 200 (nI p) tok num (nI n) v 0 3 = _ from g1, Option.bind_some]
        dsimp only
        rw [if_neg (show ¬ (1 : Int32) = 0 by decide), show g_X3_takeNumber N 200 (nI e1) tk1 (nI s) (nI n) v 0 3 = _ from g2, Option.bind_some]
        dsimp only
        rw [if_pos rfl]
        exact ⟨_, _, _, _, _, _, _, rfl⟩
      · rw [show g_X10_number N a1 s1 o1 v1 (-1) al 0 3 = _ from y3, Option.bind_some]
        dsimp only
        rw [s118_f (by omega)]
        exact ⟨_, _, _, _, _, _, _, rfl⟩
  · right
    refine ⟨pl, y1, fun plc0 tok num => ?_, ?_⟩
    · obtain ⟨nx, nu, tk, g1⟩ := y2 tok num
      unfold g_X3_takeOne
      rw [hfull, Option.bind_some, if_pos rfl, show g_X3_takeNumber N 200 (nI p) tok num (nI n) v 0 3 = _ from g1, Option.bind_some]
      dsimp only
      rw [if_pos rfl]
      exact ⟨_, _, _, _, _, _, _, rfl⟩
    · rw [show g_X10_number N at_ st so va (-1) al 0 3 = _ from y3, Option.bind_some]
      dsimp only
      rw [num_f (by omega), Option.bind_some]
      dsimp only
      rw [s118_f (by omega)]
      exact ⟨_, _, _, _, _, _, _, rfl⟩
theorem bs_add : ∀ b, b < 32 → ∀ w, w < 5 → b.testBit w = false → bsum (b ||| 2 ^ w) 5 = bsum b 5 + 1 := by decide +kernel
theorem kn_iff {x m : Nat} (hx : x < 100) (hm : m < 100) : kn (nI x) m = decide (x < m) := by
  by_cases c : x < m
  · rw [decide_eq_true c]
    unfold kn
    rw [z_sub1 (by omega), show (0 : Int32) = nI 0 from rfl, wiN (by omega) (by omega) (by omega), decide_eq_true (by omega)]
  · rw [decide_eq_false c]
    cases h : kn (nI x) m with
    | false => rfl
    | true =>
      obtain ⟨k, k1, k2⟩ := kn_of (by omega) h
      have := (e_eq (by omega) (by omega)).mp k2
      omega
/-- who goes: the band's end on both sides -/
theorem s_go130f {N : Nat} {men : Int32} {al : Nat → Int32} {n2 g : Nat} (hn2 : 0 < n2) (hg : g < 24) (x1 at_ so va : Int32) (pl : Nat) (hpl : pl < 2147483648) (a b c d : Nat → Int32) : ∃ x', g_X10_readGo_129 N al (g_X10_readGo_69 N men al n2) x1 at_ (-1) (nI g) so (nI pl) va a b c d = some (at_, nI pl, nI (g + 1), so, nI pl, va, a, b, c, upd d g x') := by
  obtain ⟨n2, rfl⟩ : ∃ z, n2 = z + 1 := ⟨n2 - 1, by omega⟩
  refine ⟨x1 ||| 0, ?_⟩
  unfold g_X10_readGo_129 g_X10_readGo_130
  rw [due_0, Option.bind_some]
  dsimp only
  rw [if_neg (nI_nm1 hpl), g_X10_readGo_69, if_neg (nI_nm1 hpl), if_pos (show inb (nI g) 24 = true by rw [inb_nI (by omega)]; simpa using hg), nI_clamp (by omega), z_1]
set_option maxHeartbeats 1000000 in
theorem BAND {N n : Nat} {T : Nat → Nat} {v al : Nat → Int32} (hN : 300 ≤ N) (hT : TX n T v al) {m g : Nat} (hm : m ≤ 5) (hg : g < 24) (ga gb gc gd : Nat → Int32) : ∀ (dd p b n1 n2 : Nat) (at_ st so va : Int32), n - p ≤ dd → p ≤ n → dd < n1 → dd + 1 < n2 → b < 2 ^ m → LA N n v al p at_ st so va →
    (∃ q b', p < q ∧ q ≤ n ∧ 0 < b' ∧ b' < 2 ^ m ∧ (∀ plc0 tok num : Int32, ∃ nu plc tk : Int32, g_X3_takeBand_4 N 200 (nI m) (nI n) v n1 (nI b) (nI (bsum b 5)) (nI p) num plc0 tok = some (nI b', nI q, nu, plc, tk)) ∧ ∃ a1 s1 v1 a' s' o' v', g_X10_readGo_69 N (nI m) al n2 (nI b) at_ (-1) (nI g) so st va ga gb gc gd = some (a1, -1, nI (g + 1), 5, s1, v1, ga, gb, gc, upd gd g (nI b')) ∧ g_X10_due N a1 s1 5 v1 (-1) al 1 = some (v1, a', -1, o', s', v') ∧ LA N n v al q a' s' o' v') ∨
    (∃ pl, pl ≤ n ∧ (∀ plc0 tok num : Int32, ∃ nx nu tk : Int32, g_X3_takeBand_4 N 200 (nI m) (nI n) v n1 (nI b) (nI (bsum b 5)) (nI p) num plc0 tok = some (0, nx, nu, nI pl, tk)) ∧ ∃ a' s' o' v' x', g_X10_readGo_69 N (nI m) al n2 (nI b) at_ (-1) (nI g) so st va ga gb gc gd = some (a', nI pl, nI (g + 1), o', s', v', ga, gb, gc, upd gd g x')) := by
  have hn := hT.1
  have hpm : 2 ^ m ≤ 32 := Nat.pow_le_pow_right (n := 2) (by decide) hm
  intro dd
  induction dd with
  | zero =>
    intro p b n1 n2 at_ st so va e1 e2 e3 e4 e5 hA
    obtain ⟨k, pl, e, w, hL, l1, l2, l3, l4⟩ := id hA
    obtain ⟨h1, h2, ⟨h3, h4, h5, h6⟩, h7, h8⟩ := id hL
    have hk0 : k = 0 := by
      rcases Nat.eq_zero_or_pos k with z | z
      · exact z
      · have := h6 (by omega); omega
    obtain ⟨n1, rfl⟩ : ∃ z, n1 = z + 1 := ⟨n1 - 1, by omega⟩
    obtain ⟨n2, rfl⟩ : ∃ z, n2 = z + 1 := ⟨n2 - 1, by omega⟩
    have hbs := bsum_le b 5
    right
    refine ⟨pl, by omega, fun plc0 tok num => ?_, ?_⟩
    · obtain ⟨num', g1, g2⟩ := h1 tok num
      rw [g_X3_takeBand_4, if_neg (show ¬ 5 < nI (bsum b 5) from fun h => absurd ((e_lt (a := 5) (by decide) (by omega)).mp h) (by omega)), g1, Option.bind_some]
      dsimp only
      rw [hk0, if_neg (show ¬ nI 0 = 2 by decide), if_neg (show ¬ nI 0 = 1 by decide)]
      exact ⟨_, _, _, rfl⟩
    · have hso : so = 3 := by rw [l3, hk0]; rfl
      obtain ⟨x', hx⟩ := s_go130f (N := N) (men := nI m) (al := al) (n2 := n2) (g := g) (by omega) hg (nI b) at_ so va pl (by omega) ga gb gc gd
      rw [g_X10_readGo_69, if_pos rfl]
      unfold g_X10_readGo_89
      rw [if_neg (show ¬ so = 4 by rw [hso]; decide), if_neg (show ¬ so = 5 by rw [hso]; decide), l2, hx]
      refine ⟨at_, nI pl, so, va, x', ?_⟩
      split <;> rfl
  | succ dd ih =>
    intro p b n1 n2 at_ st so va e1 e2 e3 e4 e5 hA
    obtain ⟨k, pl, e, w, hL, l1, l2, l3, l4⟩ := id hA
    obtain ⟨h1, h2, ⟨h3, h4, h5, h6⟩, h7, h8⟩ := id hL
    obtain ⟨n1, rfl⟩ : ∃ z, n1 = z + 1 := ⟨n1 - 1, by omega⟩
    obtain ⟨n2, rfl⟩ : ∃ z, n2 = z + 1 := ⟨n2 - 1, by omega⟩
    have hbs := bsum_le b 5
    have hcl : ∀ plc0 tok num : Int32, ∃ num' : Int32, (k = 1 → num' = nI w) ∧ g_X3_takeBand_4 N 200 (nI m) (nI n) v (n1 + 1) (nI b) (nI (bsum b 5)) (nI p) num plc0 tok = if k = 2 then some (nI b, nI e, num', nI pl, nI k) else if k = 1 then (if decide (w < m) = true then (if b.testBit w = true then some (0, nI e, nI w, nI pl, nI k) else g_X3_takeBand_4 N 200 (nI m) (nI n) v n1 (nI (b ||| 2 ^ w)) (nI (bsum b 5 + 1)) (nI e) (nI w) (nI pl) (nI k)) else some (0, nI e, nI w, nI pl, nI k)) else some (0, nI e, num', nI pl, nI k) := by
      intro plc0 tok num
      obtain ⟨num', g1, g2⟩ := h1 tok num
      refine ⟨num', g2, ?_⟩
      rw [g_X3_takeBand_4, if_neg (show ¬ 5 < nI (bsum b 5) from fun h => absurd ((e_lt (a := 5) (by decide) (by omega)).mp h) (by omega)), g1, Option.bind_some]
      dsimp only
      rw [ifi (show nI k = 2 ↔ k = 2 from e_eq (b := 2) (by omega) (by decide)), ifi (show nI k = 1 ↔ k = 1 from e_eq (b := 1) (by omega) (by decide))]
      by_cases c2 : k = 2
      · rw [if_pos c2, if_pos c2]
      · rw [if_neg c2, if_neg c2]
        by_cases c1 : k = 1
        · rw [if_pos c1, if_pos c1, g2 c1, s_isPerson, kn_iff (by omega) (by omega), Option.bind_some, if10]
          by_cases c3 : w < m
          · rw [decide_eq_true c3, if_pos rfl, if_pos rfl, ifi (z_tb (v := b) (p := w) (by omega) (by omega)), z_pow (by omega), z_or, z_1]
          · rw [decide_eq_false c3, if_neg (by decide), if_neg (by decide)]
        · rw [if_neg c1, if_neg c1]
    have hfail : (∀ plc0 tok num : Int32, ∃ nx nu tk : Int32, g_X3_takeBand_4 N 200 (nI m) (nI n) v (n1 + 1) (nI b) (nI (bsum b 5)) (nI p) num plc0 tok = some (0, nx, nu, nI pl, tk)) → g_X10_readGo_69 N (nI m) al (n2 + 1) (nI b) at_ (-1) (nI g) so st va ga gb gc gd = g_X10_readGo_129 N al (g_X10_readGo_69 N (nI m) al n2) (nI b) at_ (-1) (nI g) so st va ga gb gc gd → (∃ pl, pl ≤ n ∧ (∀ plc0 tok num : Int32, ∃ nx nu tk : Int32, g_X3_takeBand_4 N 200 (nI m) (nI n) v (n1 + 1) (nI b) (nI (bsum b 5)) (nI p) num plc0 tok = some (0, nx, nu, nI pl, tk)) ∧ ∃ a' s' o' v' x', g_X10_readGo_69 N (nI m) al (n2 + 1) (nI b) at_ (-1) (nI g) so st va ga gb gc gd = some (a', nI pl, nI (g + 1), o', s', v', ga, gb, gc, upd gd g x')) := by
      intro hc hmo
      obtain ⟨x', hx⟩ := s_go130f (N := N) (men := nI m) (al := al) (n2 := n2) (g := g) (by omega) hg (nI b) at_ so va pl (by omega) ga gb gc gd
      exact ⟨pl, by omega, hc, at_, nI pl, so, va, x', by rw [hmo, l2]; exact hx⟩
    have hmo : g_X10_readGo_69 N (nI m) al (n2 + 1) (nI b) at_ (-1) (nI g) so st va ga gb gc gd = if b ≠ 0 ∧ k = 2 then some (at_, -1, nI (g + 1), so, st, va, ga, gb, gc, upd gd g (nI b)) else if k = 1 ∧ w < m ∧ b.testBit w = false then g_X10_readGo_130 N al (g_X10_readGo_69 N (nI m) al n2) (nI b) 1 at_ (-1) (nI g) so st va ga gb gc gd else g_X10_readGo_129 N al (g_X10_readGo_69 N (nI m) al n2) (nI b) at_ (-1) (nI g) so st va ga gb gc gd := by
      have h89 : ¬ (b ≠ 0 ∧ k = 2) → g_X10_readGo_89 N (nI m) al (g_X10_readGo_69 N (nI m) al n2) (nI b) at_ (-1) (nI g) so st va ga gb gc gd = if k = 1 ∧ w < m ∧ b.testBit w = false then g_X10_readGo_130 N al (g_X10_readGo_69 N (nI m) al n2) (nI b) 1 at_ (-1) (nI g) so st va ga gb gc gd else g_X10_readGo_129 N al (g_X10_readGo_69 N (nI m) al n2) (nI b) at_ (-1) (nI g) so st va ga gb gc gd := by
        intro _
        unfold g_X10_readGo_89
        rw [ifi (show so = 4 ↔ k = 1 from by rw [l3]; exact ms_4 k h7)]
        by_cases c1 : k = 1
        · rw [if_pos c1, l4 c1, s_in, show wi (nI w) 0 (nI m - 1) = decide (w < m) from kn_iff (by omega) (by omega), Option.bind_some, if10]
          by_cases c3 : w < m
          · rw [decide_eq_true c3, if_pos rfl, ifi (z_tb0 (v := b) (p := w) (by omega) (by omega))]
            by_cases c4 : b.testBit w = false
            · rw [if_pos c4, if_pos ⟨c1, c3, c4⟩]
            · rw [if_neg c4, if_neg (fun hh => c4 hh.2.2)]
          · rw [decide_eq_false c3, if_neg (by decide), if_neg (fun hh => c3 hh.2.1)]
        · rw [if_neg c1, if_neg (fun hh => c1 hh.1)]
      rw [g_X10_readGo_69, if_pos rfl, ifi (e_eq0 (a := b) (by omega)), ifi (show so = 5 ↔ k = 2 from by rw [l3]; exact ms_5 k h7), if_pos (show inb (nI g) 24 = true by rw [inb_nI (by omega)]; simpa using hg), nI_clamp (by omega), z_1]
      by_cases cb : b = 0
      · rw [if_pos cb, if_neg (fun hh => hh.1 cb)]; exact h89 (fun hh => hh.1 cb)
      · rw [if_neg cb]
        by_cases c2 : k = 2
        · rw [if_pos c2, if_pos ⟨cb, c2⟩]
        · rw [if_neg c2, if_neg (fun hh => c2 hh.2)]; exact h89 (fun hh => c2 hh.2)
    by_cases c2 : k = 2
    · have hso : so = 5 := by rw [l3]; exact (ms_5 k h7).mpr c2
      by_cases cb : b = 0
      · right
        refine hfail (fun plc0 tok num => ?_) (by rw [hmo, if_neg (fun hh => hh.1 cb), if_neg (fun hh => by omega)])
        obtain ⟨num', -, g1⟩ := hcl plc0 tok num
        rw [if_pos c2, cb] at g1
        rw [cb]
        exact ⟨_, _, _, g1⟩
      · left
        have hpe := h6 (by omega)
        obtain ⟨a2, s2, o2, v2, y1, y2⟩ := LA_ex hN hT h5 st so va
        rw [← l1] at y1
        refine ⟨e, b, by omega, h5, by omega, e5, fun plc0 tok num => ?_, at_, st, va, a2, s2, o2, v2, ?_, ?_, y2⟩
        · obtain ⟨num', -, g1⟩ := hcl plc0 tok num
          rw [if_pos c2] at g1
          exact ⟨_, _, _, g1⟩
        · rw [hmo, if_pos ⟨cb, c2⟩, hso]
        · rw [← hso]; exact due_1 y1
    · by_cases c1 : k = 1 ∧ w < m ∧ b.testBit w = false
      · obtain ⟨ck, cw, ct⟩ := c1
        have hpe := h6 (by omega)
        obtain ⟨a2, s2, o2, v2, y1, y2⟩ := LA_ex hN hT h5 st so va
        rw [← l1] at y1
        have hb' : b ||| 2 ^ w < 2 ^ m := Nat.or_lt_two_pow e5 (Nat.pow_lt_pow_right (by decide) cw)
        have hbs' := bs_add b (by omega) w (by omega) ct
        have hgo : g_X10_readGo_69 N (nI m) al (n2 + 1) (nI b) at_ (-1) (nI g) so st va ga gb gc gd = g_X10_readGo_69 N (nI m) al n2 (nI (b ||| 2 ^ w)) a2 (-1) (nI g) o2 s2 v2 ga gb gc gd := by
          rw [hmo, if_neg (fun hh => c2 hh.2), if_pos ⟨ck, cw, ct⟩]
          unfold g_X10_readGo_130
          rw [due_1 y1, Option.bind_some]
          dsimp only
          rw [if_pos rfl, l4 ck, z_pow (by omega), z_or]
        have hcg : ∀ plc0 tok num : Int32, g_X3_takeBand_4 N 200 (nI m) (nI n) v (n1 + 1) (nI b) (nI (bsum b 5)) (nI p) num plc0 tok = g_X3_takeBand_4 N 200 (nI m) (nI n) v n1 (nI (b ||| 2 ^ w)) (nI (bsum (b ||| 2 ^ w) 5)) (nI e) (nI w) (nI pl) (nI k) := by
          intro plc0 tok num
          obtain ⟨num', -, g1⟩ := hcl plc0 tok num
          rw [if_neg c2, if_pos ck, decide_eq_true cw, if_pos rfl, if_neg (by rw [ct]; decide)] at g1
          rw [g1, hbs']
        rcases ih e (b ||| 2 ^ w) n1 n2 a2 s2 o2 v2 (by omega) h5 (by omega) (by omega) hb' y2 with ⟨q, b', q1, q2, q3, q4, q5, q6⟩ | ⟨pl3, q1, q2, q3⟩
        · left
          refine ⟨q, b', by omega, q2, q3, q4, fun plc0 tok num => ?_, by rw [hgo]; exact q6⟩
          rw [hcg]; exact q5 _ _ _
        · right
          refine ⟨pl3, q1, fun plc0 tok num => ?_, by rw [hgo]; exact q3⟩
          rw [hcg]; exact q2 _ _ _
      · right
        refine hfail (fun plc0 tok num => ?_) (by rw [hmo, if_neg (fun hh => c2 hh.2), if_neg c1])
        obtain ⟨num', -, g1⟩ := hcl plc0 tok num
        rw [if_neg c2] at g1
        by_cases ck : k = 1
        · rw [if_pos ck] at g1
          by_cases cw : w < m
          · rw [decide_eq_true cw, if_pos rfl, if_pos (by
              cases hb : b.testBit w with
              | true => rfl
              | false => exact absurd ⟨ck, cw, hb⟩ c1)] at g1
            exact ⟨_, _, _, g1⟩
          · rw [decide_eq_false cw, if_neg (by decide)] at g1
            exact ⟨_, _, _, g1⟩
        · rw [if_neg ck] at g1
          exact ⟨_, _, _, g1⟩
