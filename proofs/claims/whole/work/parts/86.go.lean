/-! read: a go; what both sides have read -/
theorem isF0 {cap k : Nat} (hk : k < cap) (hc : cap < 2147483648) : g_X7_isFull cap (nI k) = some 0 := by
  unfold g_X7_isFull
  rw [if_pos (nI_lt hk hc)]
theorem isF1 {cap : Nat} (hc : cap < 2147483648) : g_X7_isFull cap (nI cap) = some 1 := by
  unfold g_X7_isFull
  rw [if_neg (fun h => absurd ((e_lt hc hc).mp h) (by omega))]
theorem s_last {g last : Nat} {fh : Nat → Int32} (hg : g ≤ 24) (hl : (g = 0 ∧ last = 0) ∨ (0 < g ∧ fh (g - 1) = nI last)) : g_X2_lastHour (nI g) fh = some (nI last) := by
  unfold g_X2_lastHour g_X2_gos
  rw [s_size, Option.bind_some, Option.bind_some]
  rcases hl with ⟨rfl, rfl⟩ | ⟨h1, h2⟩
  · rfl
  · rw [z_sub1 (by omega), s_get (by decide) hg (by omega), if_pos (by omega), Option.bind_some, h2]
theorem s_69f {N : Nat} {men : Int32} {al : Nat → Int32} {f g : Nat} (hN : 300 ≤ N) (hf : f < 2147483648) (hg : g < 24) (x1 at_ so st va : Int32) (a b c d : Nat → Int32) : g_X10_readGo_69 N men al N x1 at_ (nI f) (nI g) so st va a b c d = some (at_, nI f, nI (g + 1), so, st, va, a, b, c, upd d g x1) := by
  have h : ∀ n, g_X10_readGo_69 N men al (n + 1) x1 at_ (nI f) (nI g) so st va a b c d = some (at_, nI f, nI (g + 1), so, st, va, a, b, c, upd d g x1) := by
    intro n
    rw [g_X10_readGo_69, if_neg (nI_nm1 hf), if_pos (show inb (nI g) 24 = true by rw [inb_nI (by omega)]; simpa using hg), nI_clamp (by omega), z_1]
  have e := h (N - 1)
  rw [show N - 1 + 1 = N by omega] at e
  exact e
set_option maxHeartbeats 1000000 in
theorem GO {N n : Nat} {T : Nat → Nat} {v al : Nat → Int32} (hN : 300 ≤ N) (hT : TX n T v al) {p m g last : Nat} {at_ st so va : Int32} (hA : LA N n v al p at_ st so va) (hm : m ≤ 5) (hg : g < 24) {fh gh : Nat → Int32} (hl23 : last ≤ 23) (hl : (g = 0 ∧ last = 0) ∨ (0 < g ∧ fh (g - 1) = nI last ∧ gh (g - 1) = nI last)) (fb ff ft gf gH gS gt gw gb : Nat → Int32) :
    (∃ q h x y b, p < q ∧ q ≤ n ∧ h ≤ 23 ∧ x < 4 ∧ y < 4 ∧ b < 2 ^ m ∧ (∀ plc0 tok num : Int32, ∃ nu plc tk : Int32, g_X3_takeGo N 200 plc0 (nI p) tok num (nI g) fb (nI g) ff (nI g) fh (nI m) (nI g) ft (nI n) v = some (1, nI q, nu, plc, tk, nI (g + 1), upd fb g (nI b), nI (g + 1), upd ff g (nI x), nI (g + 1), upd fh g (nI h), nI (g + 1), upd ft g (nI y))) ∧ ∃ a' s' o' v', ((g_X10_readGo N at_ st so va (-1) (nI m) (nI g) al gf gh gt gb).bind fun u115 => g_X10_readItem_118 N al u115.1 u115.2.1 u115.2.2.1 (nI m) u115.2.2.2.1 u115.2.2.2.2.1 u115.2.2.2.2.2.1 u115.2.2.2.2.2.2.1 gH u115.2.2.2.2.2.2.2.1 gS u115.2.2.2.2.2.2.2.2.1 gw u115.2.2.2.2.2.2.2.2.2) = some (a', -1, nI (g + 1), nI m, o', s', v', upd gf g (nI x), gH, upd gh g (nI h), gS, upd gt g (nI y), gw, upd gb g (nI b)) ∧ LA N n v al q a' s' o' v') ∨
    (∃ pl, pl ≤ n ∧ (∀ plc0 tok num : Int32, ∃ nx nu tk z1 z2 z3 z4 z5 z6 z7 z8, g_X3_takeGo N 200 plc0 (nI p) tok num (nI g) fb (nI g) ff (nI g) fh (nI m) (nI g) ft (nI n) v = some (0, nx, nu, nI pl, tk, z1, z2, z3, z4, z5, z6, z7, z8)) ∧ ∃ a' go s' o' v' x1 x2 x3 x4, ((g_X10_readGo N at_ st so va (-1) (nI m) (nI g) al gf gh gt gb).bind fun u115 => g_X10_readItem_118 N al u115.1 u115.2.1 u115.2.2.1 (nI m) u115.2.2.2.1 u115.2.2.2.2.1 u115.2.2.2.2.2.1 u115.2.2.2.2.2.2.1 gH u115.2.2.2.2.2.2.2.1 gS u115.2.2.2.2.2.2.2.2.1 gw u115.2.2.2.2.2.2.2.2.2) = some (a', nI pl, go, nI m, o', s', v', x1, gH, x2, gS, x3, gw, x4)) := by
  have hn := hT.1
  have hpm : 2 ^ m ≤ 32 := Nat.pow_le_pow_right (n := 2) (by decide) hm
  have hfull := isF0 hg (by decide)
  have hlast := s_last (g := g) (last := last) (fh := fh) (by omega) (by rcases hl with h | h; exact Or.inl h; exact Or.inr ⟨h.1, h.2.1⟩)
  have ing : inb (nI g) 24 = true := by rw [inb_nI (by omega)]; simpa using hg
  have hrg : g_X10_readGo N at_ st so va (-1) (nI m) (nI g) al gf gh gt gb = g_X10_readGo_31 N (nI m) al (nI g) (nI last) at_ (-1) (nI g) so st va gf gh gt gb := by
    unfold g_X10_readGo
    rw [ifi (e_eq0 (a := g) (by omega))]
    rcases hl with ⟨e1, e2⟩ | ⟨e1, e2, e3⟩
    · rw [if_pos e1, e2]; rfl
    · rw [if_neg (by omega), z_sub1 (by omega), if_pos (show inb (nI (g - 1)) 24 = true by rw [inb_nI (by omega)]; simpa using (show g - 1 < 24 by omega)), nI_clamp (by omega), e3]
  rw [hrg]
  unfold g_X10_readGo_31
  rw [show (23 : Int32) = nI 23 from rfl]
  rcases NUM hN hT (lo := last) (hi := 23) hA (by omega) (by omega) with ⟨h, e1, -, c2, c3, c4, c5, a1, s1, o1, v1, c6, c7⟩ | ⟨pl, y1, y2, y3⟩
  · rw [c6, Option.bind_some]
    dsimp only
    rw [if_pos ing]
    rcases NUM hN hT (lo := 0) (hi := 3) c7 (by omega) (by omega) with ⟨x, e2, -, d2, d3, d4, d5, a2, s2, o2, v2, d6, d7⟩ | ⟨pl, y1, y2, y3⟩
    · rw [show g_X10_number N a1 s1 o1 v1 (-1) al 0 3 = _ from d6, Option.bind_some]
      dsimp only
      rw [if_pos ing]
      rcases NUM hN hT (lo := 0) (hi := 3) d7 (by omega) (by omega) with ⟨y, e3, -, f2, f3, f4, f5, a3, s3, o3, v3, f6, f7⟩ | ⟨pl, y1, y2, y3⟩
      · rw [show g_X10_number N a2 s2 o2 v2 (-1) al 0 3 = _ from f6, Option.bind_some]
        dsimp only
        rw [nI_clamp (show g < 2147483648 by omega)]
        rcases BAND hN hT hm hg (upd gf g (nI x)) (upd gh g (nI h)) (upd gt g (nI y)) gb n e3 0 N N a3 s3 o3 v3 (by omega) f4 (by omega) (by omega) (Nat.pos_of_ne_zero (by
          have := Nat.two_pow_pos m
          omega)) f7 with ⟨q, b, q1, q2, q3, q4, q5, a4, s4, v4, a5, s5, o5, v5, q6, q7, q8⟩ | ⟨pl, q1, q2, a4, s4, o4, v4, x4, q3⟩
        · left
          refine ⟨q, h, x, y, b, by omega, q2, c2, by omega, by omega, q4, fun plc0 tok num => ?_, a5, s5, o5, v5, ?_, q8⟩
          · obtain ⟨p1, t1, g1⟩ := c5 tok num
            obtain ⟨p2, t2, g2⟩ := d5 t1 (nI h)
            obtain ⟨p3, t3, g3⟩ := f5 t2 (nI x)
            obtain ⟨nu, plc, tk, g4⟩ := q5 p3 t3 (nI y)
            unfold g_X3_takeGo
            rw [hfull, Option.bind_some, if_pos rfl, hlast, Option.bind_some, show g_X3_takeNumber N 200 (nI p) tok num (nI n) v (nI last) 23 = _ from g1, Option.bind_some]
            dsimp only
            rw [if_neg (show ¬ (1 : Int32) = 0 by decide), show g_X3_takeNumber N 200 (nI e1) t1 (nI h) (nI n) v 0 3 = _ from g2, Option.bind_some]
            dsimp only
            rw [if_neg (show ¬ (1 : Int32) = 0 by decide), show g_X3_takeNumber N 200 (nI e2) t2 (nI x) (nI n) v 0 3 = _ from g3, Option.bind_some]
            dsimp only
            unfold g_X3_takeBand
            rw [if_neg (show ¬ (1 : Int32) = 0 by decide), show g_X3_takeBand_4 N 200 (nI m) (nI n) v N 0 0 (nI e3) (nI y) p3 t3 = _ from g4, Option.bind_some]
            dsimp only
            unfold g_X2_addGo
            rw [if_neg (show ¬ nI b = 0 from fun hh => absurd ((e_eq0 (a := b) (by omega)).mp hh) (by omega)), s_add (by decide) hg, Option.bind_some, s_add (by decide) hg, Option.bind_some, s_add (by decide) hg, Option.bind_some, s_add (by decide) hg, Option.bind_some, Option.bind_some]
            exact ⟨_, _, _, rfl⟩
          · rw [show g_X10_readGo_69 N (nI m) al N 0 a3 (-1) (nI g) o3 s3 v3 (upd gf g (nI x)) (upd gh g (nI h)) (upd gt g (nI y)) gb = _ from q6, Option.bind_some]
            dsimp only
            unfold g_X10_readItem_118
            rw [if_pos rfl, q7, Option.bind_some]
        · right
          refine ⟨pl, q1, fun plc0 tok num => ?_, a4, nI (g + 1), s4, o4, v4, upd gf g (nI x), upd gh g (nI h), upd gt g (nI y), upd gb g x4, ?_⟩
          · obtain ⟨p1, t1, g1⟩ := c5 tok num
            obtain ⟨p2, t2, g2⟩ := d5 t1 (nI h)
            obtain ⟨p3, t3, g3⟩ := f5 t2 (nI x)
            obtain ⟨nx, nu, tk, g4⟩ := q2 p3 t3 (nI y)
            unfold g_X3_takeGo
            rw [hfull, Option.bind_some, if_pos rfl, hlast, Option.bind_some, show g_X3_takeNumber N 200 (nI p) tok num (nI n) v (nI last) 23 = _ from g1, Option.bind_some]
            dsimp only
            rw [if_neg (show ¬ (1 : Int32) = 0 by decide), show g_X3_takeNumber N 200 (nI e1) t1 (nI h) (nI n) v 0 3 = _ from g2, Option.bind_some]
            dsimp only
            rw [if_neg (show ¬ (1 : Int32) = 0 by decide), show g_X3_takeNumber N 200 (nI e2) t2 (nI x) (nI n) v 0 3 = _ from g3, Option.bind_some]
            dsimp only
            unfold g_X3_takeBand
            rw [if_neg (show ¬ (1 : Int32) = 0 by decide), show g_X3_takeBand_4 N 200 (nI m) (nI n) v N 0 0 (nI e3) (nI y) p3 t3 = _ from g4, Option.bind_some]
            dsimp only
            rw [if_pos rfl]
            exact ⟨_, _, _, _, _, _, _, _, _, _, _, rfl⟩
          · rw [show g_X10_readGo_69 N (nI m) al N 0 a3 (-1) (nI g) o3 s3 v3 (upd gf g (nI x)) (upd gh g (nI h)) (upd gt g (nI y)) gb = _ from q3, Option.bind_some]
            dsimp only
            rw [s118_f (by omega)]
      · right
        refine ⟨pl, y1, fun plc0 tok num => ?_, ?_⟩
        · obtain ⟨p1, t1, g1⟩ := c5 tok num
          obtain ⟨p2, t2, g2⟩ := d5 t1 (nI h)
          obtain ⟨nx, nu, tk, g3⟩ := y2 t2 (nI x)
          unfold g_X3_takeGo
          rw [hfull, Option.bind_some, if_pos rfl, hlast, Option.bind_some, show g_X3_takeNumber N 200 (nI p) tok num (nI n) v (nI last) 23 = _ from g1, Option.bind_some]
          dsimp only
          rw [if_neg (show ¬ (1 : Int32) = 0 by decide), show g_X3_takeNumber N 200 (nI e1) t1 (nI h) (nI n) v 0 3 = _ from g2, Option.bind_some]
          dsimp only
          rw [if_neg (show ¬ (1 : Int32) = 0 by decide), show g_X3_takeNumber N 200 (nI e2) t2 (nI x) (nI n) v 0 3 = _ from g3, Option.bind_some]
          dsimp only
          rw [if_pos rfl]
          exact ⟨_, _, _, _, _, _, _, _, _, _, _, rfl⟩
        · rw [show g_X10_number N a2 s2 o2 v2 (-1) al 0 3 = _ from y3, Option.bind_some]
          dsimp only
          rw [s_69f hN (by omega) hg, Option.bind_some]
          dsimp only
          rw [s118_f (by omega)]
          exact ⟨_, _, _, _, _, _, _, _, _, rfl⟩
    · right
      refine ⟨pl, y1, fun plc0 tok num => ?_, ?_⟩
      · obtain ⟨p1, t1, g1⟩ := c5 tok num
        obtain ⟨nx, nu, tk, g2⟩ := y2 t1 (nI h)
        unfold g_X3_takeGo
        rw [hfull, Option.bind_some, if_pos rfl, hlast, Option.bind_some, show g_X3_takeNumber N 200 (nI p) tok num (nI n) v (nI last) 23 = _ from g1, Option.bind_some]
        dsimp only
        rw [if_neg (show ¬ (1 : Int32) = 0 by decide), show g_X3_takeNumber N 200 (nI e1) t1 (nI h) (nI n) v 0 3 = _ from g2, Option.bind_some]
        dsimp only
        rw [if_pos rfl]
        exact ⟨_, _, _, _, _, _, _, _, _, _, _, rfl⟩
      · rw [show g_X10_number N a1 s1 o1 v1 (-1) al 0 3 = _ from y3, Option.bind_some]
        dsimp only
        rw [if_pos ing, num_f (by omega), Option.bind_some]
        dsimp only
        rw [s_69f hN (by omega) hg, Option.bind_some]
        dsimp only
        rw [s118_f (by omega)]
        exact ⟨_, _, _, _, _, _, _, _, _, rfl⟩
  · right
    refine ⟨pl, y1, fun plc0 tok num => ?_, ?_⟩
    · obtain ⟨nx, nu, tk, g1⟩ := y2 tok num
      unfold g_X3_takeGo
      rw [hfull, Option.bind_some, if_pos rfl, hlast, Option.bind_some, show g_X3_takeNumber N 200 (nI p) tok num (nI n) v (nI last) 23 = _ from g1, Option.bind_some]
      dsimp only
      rw [if_pos rfl]
      exact ⟨_, _, _, _, _, _, _, _, _, _, _, rfl⟩
    · rw [y3, Option.bind_some]
      dsimp only
      rw [if_pos ing, num_f (by omega), Option.bind_some]
      dsimp only
      rw [if_pos ing, num_f (by omega), Option.bind_some]
      dsimp only
      rw [s_69f hN (by omega) hg, Option.bind_some]
      dsimp only
      rw [s118_f (by omega)]
      exact ⟨_, _, _, _, _, _, _, _, _, rfl⟩
/-- the land read so far, on both sides -/
def LD (m g w : Nat) (fS fH fh ff ft fb gS gH gh gf gt gb gw : Nat → Int32) : Prop := m ≤ 5 ∧ g ≤ 24 ∧ WW w gw ∧ (∀ k, k < m → ∃ s h, s < 4 ∧ h < 4 ∧ fS k = nI s ∧ gS k = nI s ∧ fH k = nI h ∧ gH k = nI h) ∧ (∀ k, k < g → ∃ h x y b, h ≤ 23 ∧ x < 4 ∧ y < 4 ∧ b < 2 ^ m ∧ fh k = nI h ∧ gh k = nI h ∧ ff k = nI x ∧ gf k = nI x ∧ ft k = nI y ∧ gt k = nI y ∧ fb k = nI b ∧ gb k = nI b)
theorem LD.way {m g w w' : Nat} {fS fH fh ff ft fb gS gH gh gf gt gb gw gw' : Nat → Int32} (h : LD m g w fS fH fh ff ft fb gS gH gh gf gt gb gw) (hW : WW w' gw') : LD m g w' fS fH fh ff ft fb gS gH gh gf gt gb gw' := ⟨h.1, h.2.1, hW, h.2.2.2.1, h.2.2.2.2⟩
theorem LD.one {m g w s z : Nat} {fS fH fh ff ft fb gS gH gh gf gt gb gw : Nat → Int32} (h : LD m g w fS fH fh ff ft fb gS gH gh gf gt gb gw) (hm : m < 5) (hs : s < 4) (hz : z < 4) : LD (m + 1) g w (upd fS m (nI s)) (upd fH m (nI z)) fh ff ft fb (upd gS m (nI s)) (upd gH m (nI z)) gh gf gt gb gw := by
  refine ⟨by omega, h.2.1, h.2.2.1, fun k hk => ?_, fun k hk => ?_⟩
  · by_cases e : k = m
    · rw [e, upd_at, upd_at, upd_at, upd_at]
      exact ⟨s, z, hs, hz, rfl, rfl, rfl, rfl⟩
    · rw [upd_no e, upd_no e, upd_no e, upd_no e]
      exact h.2.2.2.1 k (by omega)
  · obtain ⟨a, x, y, b, h1, h2, h3, h4, h5⟩ := h.2.2.2.2 k hk
    exact ⟨a, x, y, b, h1, h2, h3, by rw [Nat.pow_succ]; omega, h5⟩
theorem LD.go {m g w a x y b : Nat} {fS fH fh ff ft fb gS gH gh gf gt gb gw : Nat → Int32} (h : LD m g w fS fH fh ff ft fb gS gH gh gf gt gb gw) (hg : g < 24) (ha : a ≤ 23) (hx : x < 4) (hy : y < 4) (hb : b < 2 ^ m) : LD m (g + 1) w fS fH (upd fh g (nI a)) (upd ff g (nI x)) (upd ft g (nI y)) (upd fb g (nI b)) gS gH (upd gh g (nI a)) (upd gf g (nI x)) (upd gt g (nI y)) (upd gb g (nI b)) gw := by
  refine ⟨h.1, by omega, h.2.2.1, h.2.2.2.1, fun k hk => ?_⟩
  by_cases e : k = g
  · rw [e, upd_at, upd_at, upd_at, upd_at, upd_at, upd_at, upd_at, upd_at]
    exact ⟨a, x, y, b, ha, hx, hy, hb, rfl, rfl, rfl, rfl, rfl, rfl, rfl, rfl⟩
  · rw [upd_no e, upd_no e, upd_no e, upd_no e, upd_no e, upd_no e, upd_no e, upd_no e]
    exact h.2.2.2.2 k (by omega)
theorem LD.last {m g w : Nat} {fS fH fh ff ft fb gS gH gh gf gt gb gw : Nat → Int32} (h : LD m g w fS fH fh ff ft fb gS gH gh gf gt gb gw) : ∃ last, last ≤ 23 ∧ ((g = 0 ∧ last = 0) ∨ (0 < g ∧ fh (g - 1) = nI last ∧ gh (g - 1) = nI last)) := by
  by_cases c : g = 0
  · exact ⟨0, by omega, Or.inl ⟨c, rfl⟩⟩
  · obtain ⟨a, x, y, b, h1, h2, h3, h4, h5, h6, -⟩ := h.2.2.2.2 (g - 1) (by omega)
    exact ⟨a, h1, Or.inr ⟨by omega, h5, h6⟩⟩
