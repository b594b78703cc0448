/-! read: an item, on both sides -/
theorem tn_ok {N n : Nat} {T : Nat → Nat} {v al : Nat → Int32} (hT : TX n T v al) {p k pl e w lo hi : Nat} (h : LR N n v al p k pl e w) (hlo : lo < 256) (hhi : hi < 256) (hk : k = 1) (h1 : lo ≤ w) (h2 : w ≤ hi) (tok num : Int32) : g_X3_takeNumber N 200 (nI p) tok num (nI n) v (nI lo) (nI hi) = some (1, nI e, nI w, nI pl, nI 1) := by
  have hw := h.2.2.2.2
  obtain ⟨num', g1, g2⟩ := h.1 tok num
  rw [g2 hk, hk] at g1
  unfold g_X3_takeNumber
  rw [g1, Option.bind_some]
  dsimp only
  rw [if_pos (show nI 1 = 1 from rfl), s_isWithin, wiN (by omega) (by omega) (by omega), decide_eq_true ⟨h1, h2⟩, Option.bind_some, if_pos rfl, if_neg (show ¬ (1 : Int32) = 0 by decide)]
theorem tn_no {N n : Nat} {T : Nat → Nat} {v al : Nat → Int32} (hT : TX n T v al) {p k pl e w lo hi : Nat} (h : LR N n v al p k pl e w) (hlo : lo < 256) (hhi : hi < 256) (hc : ¬ (k = 1 ∧ lo ≤ w ∧ w ≤ hi)) (tok num : Int32) : ∃ nx nu tk : Int32, g_X3_takeNumber N 200 (nI p) tok num (nI n) v (nI lo) (nI hi) = some (0, nx, nu, nI pl, tk) := by
  have hw := h.2.2.2.2
  have hk6 := h.2.2.2.1
  obtain ⟨num', g1, g2⟩ := h.1 tok num
  unfold g_X3_takeNumber
  rw [g1, Option.bind_some]
  dsimp only
  by_cases c1 : k = 1
  · rw [if_pos (show nI k = 1 by rw [c1]; rfl), g2 c1, s_isWithin, wiN (by omega) (by omega) (by omega), decide_eq_false (fun hh => hc ⟨c1, hh⟩), Option.bind_some, if10, if_neg (by decide)]
    exact ⟨_, _, _, rfl⟩
  · rw [if_neg (show ¬ nI k = 1 from fun hh => c1 ((e_eq (a := k) (b := 1) (by omega) (by decide)).mp hh))]
    exact ⟨_, _, _, rfl⟩
theorem s118_f {N : Nat} {al : Nat → Int32} {f : Nat} (hf : f < 2147483648) (at_ gos men so st va : Int32) (a b c d e g h : Nat → Int32) : g_X10_readItem_118 N al at_ (nI f) gos men so st va a b c d e g h = some (at_, nI f, gos, men, so, st, va, a, b, c, d, e, g, h) := by
  unfold g_X10_readItem_118
  rw [due_f hf, due_f hf, Option.bind_some]
  split <;> rfl
/-- what is left of an item when all but its end is read -/
theorem s118 {N n : Nat} {T : Nat → Nat} {v al : Nat → Int32} (hN : 300 ≤ N) (hT : TX n T v al) {p : Nat} {at_ st so va : Int32} (hA : LA N n v al p at_ st so va) (gos men : Int32) (a b c d e g h : Nat → Int32) :
    (∃ q, p < q ∧ q ≤ n ∧ (∀ tok num : Int32, ∃ nu plc tk : Int32, g_X3_takeStop N 200 (nI p) tok num (nI n) v = some (1, nI q, nu, plc, tk)) ∧ ∃ a' s' o' v', g_X10_readItem_118 N al at_ (-1) gos men so st va a b c d e g h = some (a', -1, gos, men, o', s', v', a, b, c, d, e, g, h) ∧ LA N n v al q a' s' o' v') ∨
    (∃ pl, pl ≤ n ∧ (∀ tok num : Int32, ∃ nx nu tk : Int32, g_X3_takeStop N 200 (nI p) tok num (nI n) v = some (0, nx, nu, nI pl, tk)) ∧ g_X10_readItem_118 N al at_ (-1) gos men so st va a b c d e g h = some (at_, nI pl, gos, men, so, st, va, a, b, c, d, e, g, h)) := by
  rcases STOP hN hT hA with ⟨q, q1, q2, q3, q4, a', s', o', v', q5, q6⟩ | ⟨pl, q1, q2, q3, q4⟩
  · left
    refine ⟨q, q1, q2, q3, a', s', o', v', ?_, q6⟩
    unfold g_X10_readItem_118
    rw [if_pos q4, q5, Option.bind_some]
  · right
    refine ⟨pl, q1, q2, ?_⟩
    unfold g_X10_readItem_118
    rw [if_neg q3, q4, Option.bind_some]
/-- the ways of both sides -/
def WW (w : Nat) (gw : Nat → Int32) : Prop := w < 65536 ∧ (∀ i j, i < 4 → j < 4 → w.testBit (4 * i + j) = w.testBit (4 * j + i)) ∧ (∀ i, i < 4 → w.testBit (4 * i + i) = false) ∧ ∀ k, k < 16 → gw k = if w.testBit k then 1 else 0
theorem WW.set {w x y : Nat} {gw : Nat → Int32} (h : WW w gw) (hx : x < 4) (hy : y < 4) (hne : x ≠ y) : WW (wset w x y true) (upd (upd gw (4 * x + y) 1) (4 * y + x) 1) := by
  obtain ⟨h1, h2, h3, h4⟩ := h
  refine ⟨wset_lt hx hy h1, fun i j hi hj => ?_, fun i hi => ?_, fun k hk => ?_⟩
  · rw [wset_bit (by omega), wset_bit (by omega), h2 i j hi hj]
    by_cases q : 4 * i + j = 4 * x + y ∨ 4 * i + j = 4 * y + x
    · rw [if_pos q, if_pos (by omega)]
    · rw [if_neg q, if_neg (by omega)]
  · rw [wset_bit (by omega), if_neg (by omega)]; exact h3 i hi
  · rw [wset_bit (by omega)]
    by_cases q : k = 4 * y + x
    · rw [q, upd_at, if_pos (Or.inr rfl), if_pos rfl]
    · rw [upd_no q]
      by_cases q2 : k = 4 * x + y
      · rw [q2, upd_at, if_pos (Or.inl rfl), if_pos rfl]
      · rw [upd_no q2, if_neg (show ¬ (k = 4 * x + y ∨ k = 4 * y + x) by omega)]; exact h4 k hk
theorem s_way63f {N : Nat} {al gw : Nat → Int32} {x1 at_ so st va : Int32} {f : Nat} (hf : f < 2147483648) : g_X10_readWay_63 N al x1 at_ (nI f) so st va gw = some (at_, nI f, so, st, va, gw) := by
  unfold g_X10_readWay_63 g_X10_readWay_64
  rw [due_f hf, Option.bind_some]
  dsimp only
  rw [if_neg (nI_nm1 hf)]
theorem s_way63 {N : Nat} {al gw : Nat → Int32} {x1 at_ so va : Int32} {pl : Nat} (hf : pl < 2147483648) : g_X10_readWay_63 N al x1 at_ (-1) so (nI pl) va gw = some (at_, nI pl, so, nI pl, va, gw) := by
  unfold g_X10_readWay_63 g_X10_readWay_64
  rw [due_0, Option.bind_some]
  dsimp only
  rw [if_neg (nI_nm1 hf)]
set_option maxHeartbeats 1000000 in
theorem WAY {N n : Nat} {T : Nat → Nat} {v al : Nat → Int32} (hN : 300 ≤ N) (hT : TX n T v al) {p w : Nat} {at_ st so va : Int32} {gw : Nat → Int32} (hA : LA N n v al p at_ st so va) (hp : p ≤ n) (hW : WW w gw) (gos men : Int32) (a b c d e h : Nat → Int32) :
    (∃ q w' gw', p < q ∧ q ≤ n ∧ WW w' gw' ∧ (∀ tok num : Int32, ∃ nu plc tk : Int32, g_X3_takeWay N 200 (nI p) tok num (nI w) (nI n) v = some (1, nI q, nu, plc, tk, nI w')) ∧ ∃ a' s' o' v', ((g_X10_readWay N at_ st so va (-1) al gw).bind fun u60 => g_X10_readItem_118 N al u60.1 u60.2.1 gos men u60.2.2.1 u60.2.2.2.1 u60.2.2.2.2.1 a b c d e u60.2.2.2.2.2 h) = some (a', -1, gos, men, o', s', v', a, b, c, d, e, gw', h) ∧ LA N n v al q a' s' o' v') ∨
    (∃ pl, pl ≤ n ∧ (∀ tok num : Int32, ∃ nx nu tk w', g_X3_takeWay N 200 (nI p) tok num (nI w) (nI n) v = some (0, nx, nu, nI pl, tk, w')) ∧ ∃ a' s' o' v' gw', ((g_X10_readWay N at_ st so va (-1) al gw).bind fun u60 => g_X10_readItem_118 N al u60.1 u60.2.1 gos men u60.2.2.1 u60.2.2.2.1 u60.2.2.2.2.1 a b c d e u60.2.2.2.2.2 h) = some (a', nI pl, gos, men, o', s', v', a, b, c, d, e, gw', h)) := by
  have hn := hT.1
  rcases NUM hN hT (lo := 0) (hi := 3) hA (by omega) (by omega) with ⟨x, e1, x1, x2, x3, x4, x5, a1, s1, o1, v1, x6, x7⟩ | ⟨pl, y1, y2, y3⟩
  · obtain ⟨k, pl, e2, y, hL, l1, l2, l3, l4⟩ := id x7
    obtain ⟨-, -, ⟨m1, m2, m3, m4⟩, m5, m6⟩ := id hL
    have hfail : ∀ (hcl : ∀ tok num : Int32, ∃ nx nu tk w', g_X3_takeWay N 200 (nI p) tok num (nI w) (nI n) v = some (0, nx, nu, nI pl, tk, w')) (hmo : g_X10_readWay N at_ st so va (-1) al gw = g_X10_readWay_63 N al (nI x) a1 (-1) o1 (nI pl) v1 gw), (∃ pl, pl ≤ n ∧ (∀ tok num : Int32, ∃ nx nu tk w', g_X3_takeWay N 200 (nI p) tok num (nI w) (nI n) v = some (0, nx, nu, nI pl, tk, w')) ∧ ∃ a' s' o' v' gw', ((g_X10_readWay N at_ st so va (-1) al gw).bind fun u60 => g_X10_readItem_118 N al u60.1 u60.2.1 gos men u60.2.2.1 u60.2.2.2.1 u60.2.2.2.2.1 a b c d e u60.2.2.2.2.2 h) = some (a', nI pl, gos, men, o', s', v', a, b, c, d, e, gw', h)) := by
      intro hcl hmo
      refine ⟨pl, by omega, hcl, a1, nI pl, o1, v1, gw, ?_⟩
      rw [hmo, s_way63 (by omega), Option.bind_some]
      exact s118_f (by omega) _ _ _ _ _ _ _ _ _ _ _ _ _
    have hrw : g_X10_readWay N at_ st so va (-1) al gw = if o1 = 4 then ((g_X10_in v1 0 3).bind fun u29 => (if u29 = 0 then g_X10_readWay_63 N al (nI x) a1 (-1) o1 s1 v1 gw else (if v1 = nI x then g_X10_readWay_63 N al (nI x) a1 (-1) o1 s1 v1 gw else (if inb ((4 * nI x) + v1) 16 then (if (gw ((4 * nI x) + v1).toNatClampNeg) = 0 then g_X10_readWay_64 N al (nI x) 1 a1 (-1) o1 s1 v1 gw else g_X10_readWay_63 N al (nI x) a1 (-1) o1 s1 v1 gw) else none)))) else g_X10_readWay_63 N al (nI x) a1 (-1) o1 s1 v1 gw := by
      unfold g_X10_readWay
      rw [show g_X10_number N at_ st so va (-1) al 0 3 = some (nI x, a1, -1, o1, s1, v1) from x6, Option.bind_some]
      dsimp only
      rw [if_pos rfl]
    by_cases c1 : k = 1 ∧ 0 ≤ y ∧ y ≤ 3
    · obtain ⟨ck, -, cy⟩ := c1
      have hv1 := l4 ck
      have h64 : g_X10_readWay N at_ st so va (-1) al gw = if y = x then g_X10_readWay_63 N al (nI x) a1 (-1) o1 (nI pl) v1 gw else if w.testBit (4 * x + y) = true then g_X10_readWay_63 N al (nI x) a1 (-1) o1 (nI pl) v1 gw else g_X10_readWay_64 N al (nI x) 1 a1 (-1) o1 s1 v1 gw := by
        rw [hrw, if_pos (by rw [l3]; exact (ms_4 k m5).mpr ck), hv1, s_in, show wi (nI y) 0 3 = true from wi3 (by omega), Option.bind_some, if10, if_pos rfl, ifi (e_eq (a := y) (b := x) (by omega) (by omega)), show (4 : Int32) * nI x = nI (4 * x) from pk_mul 4 x, nI_add, if_pos (in16 (by omega)), nI_clamp (by omega), hW.2.2.2 _ (by omega), l2, if10]
      have hcw : ∀ tok num : Int32, g_X3_takeWay N 200 (nI p) tok num (nI w) (nI n) v = if y = x then some (0, nI e2, nI y, nI pl, nI 1, nI w) else if w.testBit (4 * x + y) = true then some (0, nI e2, nI y, nI pl, nI 1, nI w) else ((g_X3_takeStop N 200 (nI e2) (nI 1) (nI y) (nI n) v).bind fun u64 => (if zb u64.1 then some (u64.1, u64.2.1, u64.2.2.1, u64.2.2.2.1, u64.2.2.2.2, nI (wset w x y true)) else none)) := by
        intro tok num
        obtain ⟨plc, tk, g1⟩ := x5 tok num
        unfold g_X3_takeWay
        rw [show g_X3_takeNumber N 200 (nI p) tok num (nI n) v 0 3 = some (1, nI e1, nI x, plc, tk) from g1, Option.bind_some]
        dsimp only
        rw [if_neg (show ¬ (1 : Int32) = 0 by decide), show g_X3_takeNumber N 200 (nI e1) tk (nI x) (nI n) v 0 3 = some (1, nI e2, nI y, nI pl, nI 1) from tn_ok hT hL (lo := 0) (hi := 3) (by omega) (by omega) ck (by omega) cy tk (nI x), Option.bind_some]
        dsimp only
        rw [if_neg (show ¬ (1 : Int32) = 0 by decide), ifi (e_eq (a := y) (b := x) (by omega) (by omega)), s_hasWay (by omega) (by omega), Option.bind_some, if10, s_setWay (by omega) (by omega), Option.bind_some, show decide (¬ (1 : Int32) = 0) = true from rfl]
      by_cases c2 : y = x
      · right
        refine hfail (fun tok num => ?_) (by rw [h64, if_pos c2])
        have g1 := hcw tok num
        rw [if_pos c2] at g1
        exact ⟨_, _, _, _, g1⟩
      · by_cases c3 : w.testBit (4 * x + y) = true
        · right
          refine hfail (fun tok num => ?_) (by rw [h64, if_neg c2, if_pos c3])
          have g1 := hcw tok num
          rw [if_neg c2, if_pos c3] at g1
          exact ⟨_, _, _, _, g1⟩
        · obtain ⟨a2, s2, o2, v2, n1, n2⟩ := LA_ex hN hT m3 s1 o1 v1
          rw [← l1] at n1
          have hmo : g_X10_readWay N at_ st so va (-1) al gw = some (a2, -1, o2, s2, v2, upd (upd gw (4 * x + y) 1) (4 * y + x) 1) := by
            rw [h64, if_neg c2, if_neg c3]
            unfold g_X10_readWay_64
            rw [due_1 n1, Option.bind_some]
            dsimp only
            rw [if_pos rfl, hv1, show (4 : Int32) * nI x = nI (4 * x) from pk_mul 4 x, show (4 : Int32) * nI y = nI (4 * y) from pk_mul 4 y, nI_add, nI_add, if_pos (in16 (by omega)), if_pos (in16 (by omega)), nI_clamp (by omega), nI_clamp (by omega)]
          have hWs := hW.set (show x < 4 by omega) (show y < 4 by omega) (Ne.symm c2)
          have hpe := m4 (by omega)
          rcases s118 hN hT n2 gos men a b c d e (upd (upd gw (4 * x + y) 1) (4 * y + x) 1) h with ⟨q, q1, q2, q3, a3, s3, o3, v3, q4, q5⟩ | ⟨pl3, q1, q2, q3⟩
          · left
            refine ⟨q, _, _, by omega, q2, hWs, fun tok num => ?_, a3, s3, o3, v3, ?_, q5⟩
            · have g1 := hcw tok num
              obtain ⟨nu, plc, tk, g2⟩ := q3 (nI 1) (nI y)
              rw [if_neg c2, if_neg c3, g2, Option.bind_some] at g1
              exact ⟨nu, plc, tk, g1⟩
            · rw [hmo, Option.bind_some]; exact q4
          · right
            refine ⟨pl3, q1, fun tok num => ?_, a2, s2, o2, v2, upd (upd gw (4 * x + y) 1) (4 * y + x) 1, ?_⟩
            · have g1 := hcw tok num
              obtain ⟨nx, nu, tk, g2⟩ := q2 (nI 1) (nI y)
              rw [if_neg c2, if_neg c3, g2, Option.bind_some] at g1
              exact ⟨_, _, _, _, g1⟩
            · rw [hmo, Option.bind_some]; exact q3
    · right
      refine hfail (fun tok num => ?_) ?_
      · obtain ⟨plc, tk, g1⟩ := x5 tok num
        obtain ⟨nx, nu, tk2, g2⟩ := tn_no hT hL (lo := 0) (hi := 3) (by omega) (by omega) c1 tk (nI x)
        refine ⟨nx, nu, tk2, nI w, ?_⟩
        unfold g_X3_takeWay
        rw [show g_X3_takeNumber N 200 (nI p) tok num (nI n) v 0 3 = some (1, nI e1, nI x, plc, tk) from g1, Option.bind_some]
        dsimp only
        rw [if_neg (show ¬ (1 : Int32) = 0 by decide), show g_X3_takeNumber N 200 (nI e1) tk (nI x) (nI n) v 0 3 = _ from g2, Option.bind_some]
        dsimp only
        rw [if_pos rfl]
      · rw [hrw, l2]
        by_cases ck : k = 1
        · rw [if_pos (by rw [l3]; exact (ms_4 k m5).mpr ck), l4 ck, s_in, show wi (nI y) 0 3 = false from (wiN (lo := 0) (hi := 3) (by omega) (by omega) (by omega)).trans (decide_eq_false (fun hh => c1 ⟨ck, hh⟩)), Option.bind_some, if10, if_neg (by decide)]
        · rw [if_neg (fun hh => ck ((ms_4 k m5).mp (by rw [← l3]; exact hh)))]
  · right
    refine ⟨pl, y1, fun tok num => ?_, at_, st, so, va, gw, ?_⟩
    · obtain ⟨nx, nu, tk, g1⟩ := y2 tok num
      refine ⟨nx, nu, tk, nI w, ?_⟩
      unfold g_X3_takeWay
      rw [show g_X3_takeNumber N 200 (nI p) tok num (nI n) v 0 3 = _ from g1, Option.bind_some]
      dsimp only
      rw [if_pos rfl]
    · have : g_X10_readWay N at_ st so va (-1) al gw = some (at_, nI pl, so, st, va, gw) := by
        unfold g_X10_readWay
        rw [show g_X10_number N at_ st so va (-1) al 0 3 = some (va, at_, nI pl, so, st, va) from y3, Option.bind_some]
        dsimp only
        rw [if_neg (nI_nm1 (by omega))]
        exact s_way63f (by omega)
      rw [this, Option.bind_some]
      exact s118_f (by omega) _ _ _ _ _ _ _ _ _ _ _ _ _
