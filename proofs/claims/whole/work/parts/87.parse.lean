/-! read: the whole text -/
theorem ms_3 : ∀ k, k ≤ 6 → (ms k = 3 ↔ k = 0) := by decide
theorem ms_0 : ∀ k, k ≤ 6 → (ms k = 0 ↔ k = 3) := by decide
theorem ms_1 : ∀ k, k ≤ 6 → (ms k = 1 ↔ k = 4) := by decide
theorem ms_2 : ∀ k, k ≤ 6 → (ms k = 2 ↔ k = 5) := by decide
theorem s_item {N k m g : Nat} (hk : k ≤ 6) (hm : m ≤ 5) (hg : g ≤ 24) (at_ st va : Int32) (al a b c d e w h : Nat → Int32) : g_X10_readItem N at_ st (ms k) va (-1) (nI m) (nI g) al a b c d e w h = g_X10_readItem_42 N al (ms k) (if k = 3 ∨ (k = 4 ∧ m < 5) ∨ (k = 5 ∧ g < 24) then 1 else 0) at_ (-1) (nI g) (nI m) (ms k) st va a b c d e w h := by
  unfold g_X10_readItem g_X10_readItem_23 g_X10_readItem_37 g_X10_readItem_41
  by_cases c3 : k = 3
  · rw [if_pos ((ms_0 k hk).mpr c3), if_pos (Or.inl c3)]
  · rw [if_neg (fun h => c3 ((ms_0 k hk).mp h))]
    by_cases c4 : k = 4
    · rw [if_pos ((ms_1 k hk).mpr c4)]
      by_cases z : m < 5
      · rw [if_pos (show nI m < 5 from (e_lt (b := 5) (by omega) (by decide)).mpr z), if_pos (Or.inr (Or.inl ⟨c4, z⟩))]
      · rw [if_neg (show ¬ nI m < 5 from fun h => z ((e_lt (b := 5) (by omega) (by decide)).mp h)), if_neg (fun h => absurd ((ms_2 k hk).mp h) (by omega)), if_neg (by omega)]
    · rw [if_neg (fun h => c4 ((ms_1 k hk).mp h))]
      by_cases c5 : k = 5
      · rw [if_pos ((ms_2 k hk).mpr c5)]
        by_cases z : g < 24
        · rw [if_neg (show ¬ 24 ≤ nI g from fun h => absurd ((e_le (a := 24) (by decide) (by omega)).mp h) (by omega)), if_pos (Or.inr (Or.inr ⟨c5, z⟩))]
        · rw [if_pos (show 24 ≤ nI g from (e_le (a := 24) (by decide) (by omega)).mpr (by omega)), if_neg (by omega)]
      · rw [if_neg (fun h => c5 ((ms_2 k hk).mp h)), if_neg (by omega)]
theorem s_itemN {N k m g pl : Nat} (hk : k ≤ 6) (hm : m ≤ 5) (hg : g ≤ 24) (hpl : pl < 2147483648) (hc : ¬ (k = 3 ∨ (k = 4 ∧ m < 5) ∨ (k = 5 ∧ g < 24))) (at_ va : Int32) (al a b c d e w h : Nat → Int32) : g_X10_readItem N at_ (nI pl) (ms k) va (-1) (nI m) (nI g) al a b c d e w h = some (at_, nI pl, nI g, nI m, ms k, nI pl, va, a, b, c, d, e, w, h) := by
  rw [s_item hk hm hg, if_neg hc]
  unfold g_X10_readItem_42
  rw [due_0, Option.bind_some]
  dsimp only
  rw [if_neg (nI_nm1 hpl)]
theorem r45_f {N f pl : Nat} (hf : 0 < f) (hpl : pl < 2147483648) (at_ gos men so st va : Int32) (al a b c d e w h : Nat → Int32) : g_X10_read_45 N f at_ (nI pl) gos men so st va al a b c d e w h = some (-10 - nI pl, at_, nI pl, gos, men, so, st, va, al, a, b, c, d, e, w, h) := by
  obtain ⟨f, rfl⟩ : ∃ z, f = z + 1 := ⟨f - 1, by omega⟩
  rw [g_X10_read_45, if_neg (nI_nm1 hpl)]
  unfold g_X10_read_68
  rw [if_neg (nI_nm1 hpl)]
theorem r45_s {N f k : Nat} (hk : k ≤ 6) (hk0 : k ≠ 0) {at_ st va gos men a' f' g' m' o' s' v' : Int32} {al a b c d e w h a2 b2 c2 d2 e2 w2 h2 : Nat → Int32} (hit : g_X10_readItem N at_ st (ms k) va (-1) men gos al a b c d e w h = some (a', f', g', m', o', s', v', a2, b2, c2, d2, e2, w2, h2)) : g_X10_read_45 N (f + 1) at_ (-1) gos men (ms k) st va al a b c d e w h = g_X10_read_45 N f a' f' g' m' o' s' v' al a2 b2 c2 d2 e2 w2 h2 := by
  rw [g_X10_read_45, if_pos rfl, if_neg (fun z => hk0 ((ms_3 k hk).mp z)), hit, Option.bind_some]
/-- what is read to the end: both sides succeed with one land, or both fail at one place -/
def PG (N n : Nat) (v al : Nat → Int32) (f1 f2 x p m g w : Nat) (at_ st so va : Int32) (fS fH fh ff ft fb gS gH gh gf gt gb gw : Nat → Int32) : Prop :=
  (∃ m' g' w' fS' fH' fh' ff' ft' fb' gS' gH' gh' gf' gt' gb' gw', LD m' g' w' fS' fH' fh' ff' ft' fb' gS' gH' gh' gf' gt' gb' gw' ∧ (∀ num plc tok : Int32, ∃ nx nu pc tk, g_X3_parse_19 N 200 (nI n) v f1 (nI x) (nI p) num plc tok (nI w) (nI g) fb (nI g) ff (nI m) fH (nI g) fh (nI m) fS (nI g) ft = some (-1, nx, nu, pc, tk, nI w', nI g', fb', nI g', ff', nI m', fH', nI g', fh', nI m', fS', nI g', ft')) ∧ ∃ a' s' o' v', g_X10_read_45 N f2 at_ (-1) (nI g) (nI m) so st va al gf gH gh gS gt gw gb = g_X10_read_68 N a' (-1) (nI g') (nI m') o' s' v' al gf' gH' gh' gS' gt' gw' gb') ∨
  (∃ pl, pl ≤ n ∧ (∀ num plc tok : Int32, ∃ r, g_X3_parse_19 N 200 (nI n) v f1 (nI x) (nI p) num plc tok (nI w) (nI g) fb (nI g) ff (nI m) fH (nI g) fh (nI m) fS (nI g) ft = some (nI pl, r)) ∧ ∃ a1 a2 a3 a4 a5 a6 a7 b1 b2 b3 b4 b5 b6 b7, g_X10_read_45 N f2 at_ (-1) (nI g) (nI m) so st va al gf gH gh gS gt gw gb = some (-10 - nI pl, a1, a2, a3, a4, a5, a6, a7, al, b1, b2, b3, b4, b5, b6, b7))
theorem PG.step {N n : Nat} {v al : Nat → Int32} {f1 f2 x p m g w q m1 g1 w1 : Nat} {at_ st so va a1 s1 o1 v1 : Int32} {fS fH fh ff ft fb gS gH gh gf gt gb gw fS1 fH1 fh1 ff1 ft1 fb1 gS1 gH1 gh1 gf1 gt1 gb1 gw1 : Nat → Int32} (hc : ∀ num plc tok : Int32, ∃ nu pc tk, g_X3_parse_19 N 200 (nI n) v (f1 + 1) (nI x) (nI p) num plc tok (nI w) (nI g) fb (nI g) ff (nI m) fH (nI g) fh (nI m) fS (nI g) ft = g_X3_parse_19 N 200 (nI n) v f1 (nI (x + 1)) (nI q) nu pc tk (nI w1) (nI g1) fb1 (nI g1) ff1 (nI m1) fH1 (nI g1) fh1 (nI m1) fS1 (nI g1) ft1) (hm : g_X10_read_45 N (f2 + 1) at_ (-1) (nI g) (nI m) so st va al gf gH gh gS gt gw gb = g_X10_read_45 N f2 a1 (-1) (nI g1) (nI m1) o1 s1 v1 al gf1 gH1 gh1 gS1 gt1 gw1 gb1) (h : PG N n v al f1 f2 (x + 1) q m1 g1 w1 a1 s1 o1 v1 fS1 fH1 fh1 ff1 ft1 fb1 gS1 gH1 gh1 gf1 gt1 gb1 gw1) : PG N n v al (f1 + 1) (f2 + 1) x p m g w at_ st so va fS fH fh ff ft fb gS gH gh gf gt gb gw := by
  rcases h with ⟨m', g', w', fS', fH', fh', ff', ft', fb', gS', gH', gh', gf', gt', gb', gw', h1, h2, h3⟩ | ⟨pl, h1, h2, h3⟩
  · refine Or.inl ⟨m', g', w', fS', fH', fh', ff', ft', fb', gS', gH', gh', gf', gt', gb', gw', h1, fun num plc tok => ?_, by rw [hm]; exact h3⟩
    obtain ⟨nu, pc, tk, e⟩ := hc num plc tok
    obtain ⟨a, b, c, d, e2⟩ := h2 nu pc tk
    exact ⟨a, b, c, d, e.trans e2⟩
  · refine Or.inr ⟨pl, h1, fun num plc tok => ?_, by rw [hm]; exact h3⟩
    obtain ⟨nu, pc, tk, e⟩ := hc num plc tok
    obtain ⟨r, e2⟩ := h2 nu pc tk
    exact ⟨r, e.trans e2⟩
theorem PG.fail {N n : Nat} {v al : Nat → Int32} {f1 f2 x p m g w pl k : Nat} {at_ st va a' g' m' o' s' v' : Int32} {fS fH fh ff ft fb gS gH gh gf gt gb gw a2 b2 c2 d2 e2 w2 h2 : Nat → Int32} (hn : n ≤ 200) (hpl : pl ≤ n) (hf : 0 < f2) (hk : k ≤ 6) (hk0 : k ≠ 0) (hc : ∀ num plc tok : Int32, ∃ r, g_X3_parse_19 N 200 (nI n) v f1 (nI x) (nI p) num plc tok (nI w) (nI g) fb (nI g) ff (nI m) fH (nI g) fh (nI m) fS (nI g) ft = some (nI pl, r)) (hit : g_X10_readItem N at_ st (ms k) va (-1) (nI m) (nI g) al gf gH gh gS gt gw gb = some (a', nI pl, g', m', o', s', v', a2, b2, c2, d2, e2, w2, h2)) : PG N n v al f1 (f2 + 1) x p m g w at_ st (ms k) va fS fH fh ff ft fb gS gH gh gf gt gb gw := by
  refine Or.inr ⟨pl, hpl, hc, ?_⟩
  rw [r45_s hk hk0 hit, r45_f hf (by omega)]
  exact ⟨_, _, _, _, _, _, _, _, _, _, _, _, _, _, rfl⟩
set_option maxHeartbeats 1000000 in
theorem PARSE {N n : Nat} {T : Nat → Nat} {v al : Nat → Int32} (hN : 300 ≤ N) (hT : TX n T v al) : ∀ (d p x m g w f1 f2 : Nat) (at_ st so va : Int32) (fS fH fh ff ft fb gS gH gh gf gt gb gw : Nat → Int32), n - p ≤ d → p ≤ n → d < f1 → d < f2 → x ≤ p → LD m g w fS fH fh ff ft fb gS gH gh gf gt gb gw → LA N n v al p at_ st so va → PG N n v al f1 f2 x p m g w at_ st so va fS fH fh ff ft fb gS gH gh gf gt gb gw := by
  have hn := hT.1
  intro d
  induction d using Nat.strongRecOn with
  | ind d ih =>
  intro p x m g w f1 f2 at_ st so va fS fH fh ff ft fb gS gH gh gf gt gb gw e1 e2 e3 e4 e5 hD hA
  obtain ⟨k, pl, e, w0, hL, rfl, rfl, rfl, l4⟩ := hA
  obtain ⟨h1, h2, ⟨h3, h4, h5, h6⟩, h7, h8⟩ := id hL
  obtain ⟨f1, rfl⟩ : ∃ z, f1 = z + 1 := ⟨f1 - 1, by omega⟩
  obtain ⟨f2, rfl⟩ : ∃ z, f2 = z + 1 := ⟨f2 - 1, by omega⟩
  have hm5 := hD.1
  have hg24 := hD.2.1
  have hW := hD.2.2.1
  have hsz : ¬ nI n < nI x := fun h => absurd ((e_lt (by omega) (by omega)).mp h) (by omega)
  have hkk : ∀ j, j < 7 → (nI k = nI j ↔ k = j) := fun j hj => e_eq (by omega) (by omega)
  by_cases k0 : k = 0
  · refine Or.inl ⟨m, g, w, fS, fH, fh, ff, ft, fb, gS, gH, gh, gf, gt, gb, gw, hD, fun num plc tok => ?_, nI e, nI pl, ms k, va, ?_⟩
    · obtain ⟨num', g1, -⟩ := h1 tok num
      rw [g_X3_parse_19, s_size, Option.bind_some, if_neg hsz, g1, Option.bind_some]
      dsimp only
      rw [if_pos (show nI k = 0 from (hkk 0 (by omega)).mpr k0)]
      exact ⟨_, _, _, _, rfl⟩
    · rw [g_X10_read_45, if_pos rfl, if_pos ((ms_3 k h7).mpr k0)]
  have hpe := h6 k0
  have nk0 : ¬ nI k = 0 := fun h => k0 ((hkk 0 (by omega)).mp h)
  obtain ⟨a2, s2, o2, v2, n1, n2⟩ := LA_ex hN hT h5 (nI pl) (ms k) va
  by_cases k3 : k = 3
  · have hitem : g_X10_readItem N (nI e) (nI pl) (ms k) va (-1) (nI m) (nI g) al gf gH gh gS gt gw gb = ((g_X10_readWay N a2 s2 o2 v2 (-1) al gw).bind fun u60 => g_X10_readItem_118 N al u60.1 u60.2.1 (nI g) (nI m) u60.2.2.1 u60.2.2.2.1 u60.2.2.2.2.1 gf gH gh gS gt u60.2.2.2.2.2 gb) := by
      rw [s_item h7 hm5 hg24, if_pos (Or.inl k3)]
      unfold g_X10_readItem_42
      rw [due_1 n1, Option.bind_some]
      dsimp only
      rw [if_pos rfl, if_pos ((ms_0 k h7).mpr k3)]
    rcases WAY hN hT n2 h5 hW (nI g) (nI m) gf gH gh gS gt gb with ⟨q, w', gw', q1, q2, q3, q4, a', s', o', v', q5, q6⟩ | ⟨pl', q1, q2, a', s', o', v', gw', q3⟩
    · refine PG.step (fun num plc tok => ?_) (r45_s h7 k0 (hitem.trans q5)) (ih (n - q) (by omega) q (x + 1) m g w' f1 f2 a' s' o' v' fS fH fh ff ft fb gS gH gh gf gt gb gw' (Nat.le_refl _) q2 (by omega) (by omega) (by omega) (hD.way q3) q6)
      obtain ⟨num', g1, -⟩ := h1 tok num
      obtain ⟨nu, pc, tk, g2⟩ := q4 (nI k) num'
      rw [g_X3_parse_19, s_size, Option.bind_some, if_neg hsz, g1, Option.bind_some]
      dsimp only
      rw [if_neg nk0, if_pos ((hkk 3 (by omega)).mpr k3), g2, Option.bind_some]
      dsimp only
      rw [if_neg (show ¬ (1 : Int32) = 0 by decide), z_1]
      exact ⟨_, _, _, rfl⟩
    · refine PG.fail hn q1 (by omega) h7 k0 (fun num plc tok => ?_) (hitem.trans q3)
      obtain ⟨num', g1, -⟩ := h1 tok num
      obtain ⟨nx, nu, tk, w', g2⟩ := q2 (nI k) num'
      rw [g_X3_parse_19, s_size, Option.bind_some, if_neg hsz, g1, Option.bind_some]
      dsimp only
      rw [if_neg nk0, if_pos ((hkk 3 (by omega)).mpr k3), g2, Option.bind_some]
      dsimp only
      rw [if_pos rfl]
      exact ⟨_, rfl⟩
  have nk3 : ¬ nI k = nI 3 := fun h => k3 ((hkk 3 (by omega)).mp h)
  by_cases k4 : k = 4
  · by_cases cm : m < 5
    · have hitem : g_X10_readItem N (nI e) (nI pl) (ms k) va (-1) (nI m) (nI g) al gf gH gh gS gt gw gb = ((g_X10_number N a2 s2 o2 v2 (-1) al 0 3).bind fun u82 => (if inb (nI m) 5 then ((g_X10_number N u82.2.1 u82.2.2.2.2.1 u82.2.2.2.1 u82.2.2.2.2.2 u82.2.2.1 al 0 3).bind fun u97 => g_X10_readItem_118 N al u97.2.1 u97.2.2.1 (nI g) (nI m + 1) u97.2.2.2.1 u97.2.2.2.2.1 u97.2.2.2.2.2 gf (upd gH (nI m).toNatClampNeg u97.1) gh (upd gS (nI m).toNatClampNeg u82.1) gt gw gb) else none)) := by
        rw [s_item h7 hm5 hg24, if_pos (Or.inr (Or.inl ⟨k4, cm⟩))]
        unfold g_X10_readItem_42
        rw [due_1 n1, Option.bind_some]
        dsimp only
        rw [if_pos rfl, if_neg (fun h => k3 ((ms_0 k h7).mp h)), if_pos ((ms_1 k h7).mpr k4)]
      rcases ONE hN hT n2 cm fH fS (nI g) gf gH gh gS gt gw gb with ⟨q, s, h, q1, q2, q3, q3', q4, a', s', o', v', q5, q6⟩ | ⟨pl', q1, q2, a', me, s', o', v', x1, x2, q3⟩
      · refine PG.step (fun num plc tok => ?_) (r45_s h7 k0 (hitem.trans q5)) (ih (n - q) (by omega) q (x + 1) (m + 1) g w f1 f2 a' s' o' v' (upd fS m (nI s)) (upd fH m (nI h)) fh ff ft fb (upd gS m (nI s)) (upd gH m (nI h)) gh gf gt gb gw (Nat.le_refl _) q2 (by omega) (by omega) (by omega) (hD.one cm q3 q3') q6)
        obtain ⟨num', g1, -⟩ := h1 tok num
        obtain ⟨nu, pc, tk, g2⟩ := q4 (nI pl) (nI k) num'
        rw [g_X3_parse_19, s_size, Option.bind_some, if_neg hsz, g1, Option.bind_some]
        dsimp only
        rw [if_neg nk0, if_neg nk3, if_pos ((hkk 4 (by omega)).mpr k4), g2, Option.bind_some]
        dsimp only
        rw [if_neg (show ¬ (1 : Int32) = 0 by decide), z_1]
        exact ⟨_, _, _, rfl⟩
      · refine PG.fail hn q1 (by omega) h7 k0 (fun num plc tok => ?_) (hitem.trans q3)
        obtain ⟨num', g1, -⟩ := h1 tok num
        obtain ⟨nx, nu, tk, m1, f1', m2, f2', g2⟩ := q2 (nI pl) (nI k) num'
        rw [g_X3_parse_19, s_size, Option.bind_some, if_neg hsz, g1, Option.bind_some]
        dsimp only
        rw [if_neg nk0, if_neg nk3, if_pos ((hkk 4 (by omega)).mpr k4), g2, Option.bind_some]
        dsimp only
        rw [if_pos rfl]
        exact ⟨_, rfl⟩
    · refine PG.fail hn (show pl ≤ n by omega) (by omega) h7 k0 (fun num plc tok => ?_) (s_itemN h7 hm5 hg24 (by omega) (by omega) _ _ _ _ _ _ _ _ _ _)
      obtain ⟨num', g1, -⟩ := h1 tok num
      have hm5' : m = 5 := by omega
      rw [g_X3_parse_19, s_size, Option.bind_some, if_neg hsz, g1, Option.bind_some]
      dsimp only
      unfold g_X3_takeOne
      rw [if_neg nk0, if_neg nk3, if_pos ((hkk 4 (by omega)).mpr k4), hm5', isF1 (by decide), Option.bind_some, if_neg (show ¬ (1 : Int32) = 0 by decide), Option.bind_some]
      dsimp only
      rw [if_pos rfl]
      exact ⟨_, rfl⟩
  have nk4 : ¬ nI k = nI 4 := fun h => k4 ((hkk 4 (by omega)).mp h)
  by_cases k5 : k = 5
  · by_cases cg : g < 24
    · have hitem : g_X10_readItem N (nI e) (nI pl) (ms k) va (-1) (nI m) (nI g) al gf gH gh gS gt gw gb = ((g_X10_readGo N a2 s2 o2 v2 (-1) (nI m) (nI g) al gf gh gt gb).bind fun u115 => g_X10_readItem_118 N al u115.1 u115.2.1 u115.2.2.1 (nI m) u115.2.2.2.1 u115.2.2.2.2.1 u115.2.2.2.2.2.1 u115.2.2.2.2.2.2.1 gH u115.2.2.2.2.2.2.2.1 gS u115.2.2.2.2.2.2.2.2.1 gw u115.2.2.2.2.2.2.2.2.2) := by
        rw [s_item h7 hm5 hg24, if_pos (Or.inr (Or.inr ⟨k5, cg⟩))]
        unfold g_X10_readItem_42
        rw [due_1 n1, Option.bind_some]
        dsimp only
        rw [if_pos rfl, if_neg (fun h => k3 ((ms_0 k h7).mp h)), if_neg (fun h => k4 ((ms_1 k h7).mp h))]
      obtain ⟨last, hl1, hl2⟩ := hD.last
      rcases GO hN hT n2 hm5 cg hl1 hl2 fb ff ft gf gH gS gt gw gb with ⟨q, h, xx, yy, bb, q1, q2, r1, r2, r3, r4, q4, a', s', o', v', q5, q6⟩ | ⟨pl', q1, q2, a', go, s', o', v', x1, x2, x3, x4, q3⟩
      · refine PG.step (fun num plc tok => ?_) (r45_s h7 k0 (hitem.trans q5)) (ih (n - q) (by omega) q (x + 1) m (g + 1) w f1 f2 a' s' o' v' fS fH (upd fh g (nI h)) (upd ff g (nI xx)) (upd ft g (nI yy)) (upd fb g (nI bb)) gS gH (upd gh g (nI h)) (upd gf g (nI xx)) (upd gt g (nI yy)) (upd gb g (nI bb)) gw (Nat.le_refl _) q2 (by omega) (by omega) (by omega) (hD.go cg r1 r2 r3 r4) q6)
        obtain ⟨num', g1, -⟩ := h1 tok num
        obtain ⟨nu, pc, tk, g2⟩ := q4 (nI pl) (nI k) num'
        rw [g_X3_parse_19, s_size, Option.bind_some, if_neg hsz, g1, Option.bind_some]
        dsimp only
        rw [if_neg nk0, if_neg nk3, if_neg nk4, if_pos ((hkk 5 (by omega)).mpr k5), g2, Option.bind_some]
        dsimp only
        rw [if_neg (show ¬ (1 : Int32) = 0 by decide), z_1]
        exact ⟨_, _, _, rfl⟩
      · refine PG.fail hn q1 (by omega) h7 k0 (fun num plc tok => ?_) (hitem.trans q3)
        obtain ⟨num', g1, -⟩ := h1 tok num
        obtain ⟨nx, nu, tk, z1, z2, z3, z4, z5, z6, z7, z8, g2⟩ := q2 (nI pl) (nI k) num'
        rw [g_X3_parse_19, s_size, Option.bind_some, if_neg hsz, g1, Option.bind_some]
        dsimp only
        rw [if_neg nk0, if_neg nk3, if_neg nk4, if_pos ((hkk 5 (by omega)).mpr k5), g2, Option.bind_some]
        dsimp only
        rw [if_pos rfl]
        exact ⟨_, rfl⟩
    · refine PG.fail hn (show pl ≤ n by omega) (by omega) h7 k0 (fun num plc tok => ?_) (s_itemN h7 hm5 hg24 (by omega) (by omega) _ _ _ _ _ _ _ _ _ _)
      obtain ⟨num', g1, -⟩ := h1 tok num
      have hg' : g = 24 := by omega
      rw [g_X3_parse_19, s_size, Option.bind_some, if_neg hsz, g1, Option.bind_some]
      dsimp only
      unfold g_X3_takeGo
      rw [if_neg nk0, if_neg nk3, if_neg nk4, if_pos ((hkk 5 (by omega)).mpr k5), hg', isF1 (by decide), Option.bind_some, if_neg (show ¬ (1 : Int32) = 0 by decide), Option.bind_some]
      dsimp only
      rw [if_pos rfl]
      exact ⟨_, rfl⟩
  have nk5 : ¬ nI k = nI 5 := fun h => k5 ((hkk 5 (by omega)).mp h)
  refine PG.fail hn (show pl ≤ n by omega) (by omega) h7 k0 (fun num plc tok => ?_) (s_itemN h7 hm5 hg24 (by omega) (by omega) _ _ _ _ _ _ _ _ _ _)
  obtain ⟨num', g1, -⟩ := h1 tok num
  rw [g_X3_parse_19, s_size, Option.bind_some, if_neg hsz, g1, Option.bind_some]
  dsimp only
  rw [if_neg nk0, if_neg nk3, if_neg nk4, if_neg nk5]
  exact ⟨_, rfl⟩
