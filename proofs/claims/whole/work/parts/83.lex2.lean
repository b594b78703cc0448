/-! read: a token, on both sides -/
def LR (N n : Nat) (v al : Nat → Int32) (p k pl e w : Nat) : Prop := (∀ tok num : Int32, ∃ num' : Int32, g_X3_take N 200 (nI p) tok num (nI n) v = some (nI e, num', nI pl, nI k) ∧ (k = 1 → num' = nI w)) ∧ (∀ start sort value : Int32, ∃ val' : Int32, g_X10_next N (nI p) start sort value al = some (nI e, ms k, nI pl, val') ∧ (k = 1 → val' = nI w)) ∧ (p ≤ pl ∧ pl ≤ e ∧ e ≤ n ∧ (k ≠ 0 → pl < e)) ∧ k ≤ 6 ∧ w ≤ 99
def nx0 (N : Nat) (n : Nat) (T : Nat → Nat) (al : Nat → Int32) (so : Int32) (q : Nat) : Option (Int32 × Int32 × Int32 × Int32) := if q = n then some (nI n, 3, nI n, 0) else if 97 ≤ T q ∧ T q ≤ 122 then g_X10_next_65 al N 0 (nI q) so (nI q) 0 else if 48 ≤ T q ∧ T q ≤ 57 then g_X10_next_175 al N (nI q) so (nI q) 0 else if T q = 59 then some (nI (q + 1), 5, nI q, 0) else some (nI (q + 1), 6, nI q, 0)
theorem s_next_0 {N n : Nat} {T : Nat → Nat} {v al : Nat → Int32} (hT : TX n T v al) (so st va : Int32) : ∀ d p q fu, p + d = q → d < fu → RUN n T 32 32 p q → g_X10_next_0 N al fu (nI p) so st va = nx0 N n T al so q := by
  have hn := hT.1
  intro d
  induction d with
  | zero =>
    intro p q fu e1 e2 h
    obtain ⟨fu, rfl⟩ : ∃ z, fu = z + 1 := ⟨fu - 1, by omega⟩
    have e : p = q := by omega
    subst e
    have h2 := h.2.1
    unfold nx0
    rw [g_X10_next_0, s_here hT h2, Option.bind_some, Option.bind_some, s_inL hT h2, s_inD hT h2, Option.bind_some, Option.bind_some, if10, if10]
    by_cases c : p = n
    · rw [if_neg (show ¬ p < n by omega), if_neg (by decide), if_neg (by decide), if_pos c, c]
    · have hb := (hT.2.1 p (by omega)).2.1
      have hno := h.2.2.2 (by omega)
      rw [if_pos (show p < n by omega), if_neg (show ¬ nI (T p) = 32 from fun hh => hno (by have := (e_eq (a := T p) (b := 32) (by omega) (by decide)).mp hh; omega)), if_pos (nI_pos' (by omega)), if_neg c]
      by_cases c1 : 97 ≤ T p ∧ T p ≤ 122
      · rw [decide_eq_true (show p < n ∧ 97 ≤ T p ∧ T p ≤ 122 from ⟨by omega, c1⟩), if_pos rfl, if_pos c1]
      · rw [decide_eq_false (fun hh => c1 hh.2), if_neg (by decide), if_neg c1]
        by_cases c2 : 48 ≤ T p ∧ T p ≤ 57
        · rw [decide_eq_true (show p < n ∧ 48 ≤ T p ∧ T p ≤ 57 from ⟨by omega, c2⟩), if_pos rfl, if_pos c2]
        · rw [decide_eq_false (fun hh => c2 hh.2), if_neg (by decide), if_neg c2, ifi (show nI (T p) = 59 ↔ T p = 59 from e_eq (b := 59) (by omega) (by decide)), z_1]
  | succ d ih =>
    intro p q fu e1 e2 h
    obtain ⟨fu, rfl⟩ : ∃ z, fu = z + 1 := ⟨fu - 1, by omega⟩
    have h2 := h.2.1
    have hok := h.2.2.1 p (Nat.le_refl _) (by omega)
    rw [g_X10_next_0, s_here hT (by omega), Option.bind_some, if_pos (show p < n by omega), if_pos (show nI (T p) = 32 by rw [show T p = 32 by omega]; rfl), z_1]
    exact ih (p + 1) q fu (by omega) (by omega) (h.next (by omega))
theorem vl_le {T : Nat → Nat} {q e : Nat} (hq : q < e) (hd : ∀ p, q ≤ p → p < e → 48 ≤ T p ∧ T p ≤ 57) : vl T q e ≤ 99 := by
  have h0 := hd q (Nat.le_refl _) hq
  unfold vl
  by_cases c : e = q + 1
  · rw [if_pos c]; omega
  · have h1 := hd (q + 1) (by omega) (by omega)
    rw [if_neg c]; omega
theorem W_0 : ∀ i, i < 3 → q_ch 0 (nI i) = nI (W0 i) ∧ W0 i < 256 := by decide
theorem W_1 : ∀ i, i < 3 → q_ch 1 (nI i) = nI (W1 i) ∧ W1 i < 256 := by decide
theorem W_2 : ∀ i, i < 2 → q_ch 2 (nI i) = nI (W2 i) ∧ W2 i < 256 := by decide
theorem lex_ex {N n : Nat} {T : Nat → Nat} {v al : Nat → Int32} (hN : 300 ≤ N) (hT : TX n T v al) {p : Nat} (hp : p ≤ n) : ∃ k pl e w, LR N n v al p k pl e w := by
  have hn := hT.1
  obtain ⟨q, hq⟩ := RUN_ex (n := n) (T := T) (lo := 32) (hi := 32) (n - p) p (by omega)
  have hq1 := hq.1
  have hq2 := hq.2.1
  have hm : ∀ start sort value : Int32, g_X10_next N (nI p) start sort value al = nx0 N n T al sort q := fun start sort value => s_next_0 hT sort start value (q - p) p q N (by omega) (by omega) hq
  have hr : g_X3_runEnd N 200 (nI n) v (nI p) 32 32 = some (nI q) := s_runEnd hT (lo := 32) (hi := 32) (by omega) (by omega) (q - p) p q N (by omega) (by omega) hq
  by_cases c : q = n
  · refine ⟨0, n, n, 0, fun tok num => ⟨num, ?_, fun h => absurd h (by decide)⟩, fun start sort value => ⟨0, ?_, fun h => absurd h (by decide)⟩, ⟨hp, Nat.le_refl _, Nat.le_refl _, fun h => absurd rfl h⟩, by omega, by omega⟩
    · unfold g_X3_take
      rw [hr, Option.bind_some, s_size, Option.bind_some, if_neg (fun h => absurd ((e_lt (by omega) (by omega)).mp h) (by omega)), c]; rfl
    · rw [hm]; unfold nx0; rw [if_pos c]; rfl
  · have hqn : q < n := by omega
    have hb := (hT.2.1 q hqn).2.1
    have hlt : nI q < nI n := nI_lt hqn (by omega)
    by_cases c1 : 97 ≤ T q ∧ T q ≤ 122
    · obtain ⟨e, he⟩ := RUN_ex (n := n) (T := T) (lo := 97) (hi := 122) (n - q) q (by omega)
      have hqe : q < e := by
        rcases Nat.lt_or_ge q e with z | z
        · exact z
        · have := he.1
          exact absurd (show 97 ≤ T e ∧ T e ≤ 122 by rw [show e = q by omega]; exact c1) (he.2.2.2 (by omega))
      have he2 := he.2.1
      obtain ⟨b0, b1, b2⟩ := ws_iff (T := T) hqe he.2.2.1
      obtain ⟨d0, x0, y0⟩ := s_isWord (w := 0) (L := 3) (W := W0) hN hT rfl (by omega) W_0 he.1 he2
      obtain ⟨d1, x1, y1⟩ := s_isWord (w := 1) (L := 3) (W := W1) hN hT rfl (by omega) W_1 he.1 he2
      obtain ⟨d2, x2, y2⟩ := s_isWord (w := 2) (L := 2) (W := W2) hN hT rfl (by omega) W_2 he.1 he2
      have hre : g_X3_runEnd N 200 (nI n) v (nI q) 97 122 = some (nI e) := s_runEnd hT (lo := 97) (hi := 122) (by omega) (by omega) (e - q) q e N (by omega) (by omega) he
      have hk : ∃ k, k ≤ 6 ∧ k ≠ 0 ∧ k ≠ 1 ∧ ws (hs T q e) = ms k ∧ ∀ num tok : Int32, ((g_X3_isWord N 200 0 (nI q) (nI e) (nI n) v).bind fun u87 => (if u87 = 0 then ((g_X3_isWord N 200 1 (nI q) (nI e) (nI n) v).bind fun u100 => (if u100 = 0 then g_X3_take_112 N 200 (nI n) v 6 (nI e) num (nI q) tok else g_X3_take_112 N 200 (nI n) v 4 (nI e) num (nI q) tok)) else g_X3_take_112 N 200 (nI n) v 3 (nI e) num (nI q) tok)) = some (nI e, num, nI q, nI k) := by
        have hws : ws (hs T q e) = if d0 then 0 else if d1 then 1 else if d2 then 2 else 6 := by
          unfold ws
          rw [ifi (b0.trans y0.symm), ifi (b1.trans y1.symm), ifi (b2.trans y2.symm)]
        rw [hws]
        have fin : ∀ num tok : Int32, ((g_X3_isWord N 200 0 (nI q) (nI e) (nI n) v).bind fun u87 => (if u87 = 0 then ((g_X3_isWord N 200 1 (nI q) (nI e) (nI n) v).bind fun u100 => (if u100 = 0 then g_X3_take_112 N 200 (nI n) v 6 (nI e) num (nI q) tok else g_X3_take_112 N 200 (nI n) v 4 (nI e) num (nI q) tok)) else g_X3_take_112 N 200 (nI n) v 3 (nI e) num (nI q) tok)) = if d0 = true then (if d2 = true then some (nI e, num, nI q, 5) else some (nI e, num, nI q, 3)) else if d1 = true then (if d2 = true then some (nI e, num, nI q, 5) else some (nI e, num, nI q, 4)) else (if d2 = true then some (nI e, num, nI q, 5) else some (nI e, num, nI q, 6)) := by
          intro num tok
          unfold g_X3_take_112
          rw [x0, Option.bind_some, if10, x1, Option.bind_some, if10, x2, Option.bind_some, Option.bind_some, Option.bind_some, if10, if10, if10]
        cases d0 with
        | true =>
          cases d2 with
          | true => have h1 := (y0.mp rfl).1; have h2 := (y2.mp rfl).1; omega
          | false => exact ⟨3, by omega, by omega, by omega, rfl, fun num tok => (fin num tok).trans rfl⟩
        | false =>
          cases d1 with
          | true =>
            cases d2 with
            | true => have h1 := (y1.mp rfl).1; have h2 := (y2.mp rfl).1; omega
            | false => exact ⟨4, by omega, by omega, by omega, rfl, fun num tok => (fin num tok).trans rfl⟩
          | false =>
            cases d2 with
            | true => exact ⟨5, by omega, by omega, by omega, rfl, fun num tok => (fin num tok).trans rfl⟩
            | false => exact ⟨6, by omega, by omega, by omega, rfl, fun num tok => (fin num tok).trans rfl⟩
      obtain ⟨k, k1, k2, k3, k4, k5⟩ := hk
      refine ⟨k, q, e, 0, fun tok num => ⟨num, ?_, fun h => absurd h k3⟩, fun start sort value => ⟨0, ?_, fun h => absurd h k3⟩, ⟨hq1, he.1, he2, fun _ => hqe⟩, k1, by omega⟩
      · unfold g_X3_take
        rw [hr, Option.bind_some, s_size, Option.bind_some, if_pos hlt, show g_X3_isFrom 200 (nI q) (nI n) v 97 122 = some (if decide (97 ≤ T q ∧ T q ≤ 122) then 1 else 0) from s_isFrom hT (lo := 97) (hi := 122) hqn (by omega) (by omega), decide_eq_true c1, Option.bind_some, if_pos rfl, if_neg (show ¬ (1 : Int32) = 0 by decide), hre, Option.bind_some]
        exact k5 num tok
      · rw [hm]
        unfold nx0
        rw [if_neg c, if_pos c1, ← k4]
        have h65 := s_next_65 hT he sort 0 (e - q) q N (by omega) (by omega) (Nat.le_refl _)
        rw [show hs T q q = 0 from if_pos rfl] at h65
        exact h65
    · by_cases c2 : 48 ≤ T q ∧ T q ≤ 57
      · obtain ⟨e, he⟩ := RUN_ex (n := n) (T := T) (lo := 48) (hi := 57) (n - q) q (by omega)
        have hqe : q < e := by
          rcases Nat.lt_or_ge q e with z | z
          · exact z
          · have := he.1
            exact absurd (show 48 ≤ T e ∧ T e ≤ 57 by rw [show e = q by omega]; exact c2) (he.2.2.2 (by omega))
        have he2 := he.2.1
        have hre : g_X3_runEnd N 200 (nI n) v (nI q) 48 57 = some (nI e) := s_runEnd hT (lo := 48) (hi := 57) (by omega) (by omega) (e - q) q e N (by omega) (by omega) he
        have hval := s_value hN hT hqe he2 he.2.2.1
        have hmn : ∀ sort : Int32, g_X10_next_175 al N (nI q) sort (nI q) 0 = some (nI e, if e ≤ q + 2 then 4 else 6, nI q, nI (vl T q e)) := fun sort => s_next_175 hT hqe he sort (e - q) q N (by omega) (by omega) (Nat.le_refl _) 0 (by rw [if_pos rfl]; rfl)
        have hcl : ∀ tok num : Int32, g_X3_take N 200 (nI p) tok num (nI n) v = some (nI e, nI (vl T q e), nI q, if e ≤ q + 2 then 1 else 6) := by
          intro tok num
          unfold g_X3_take
          rw [hr, Option.bind_some, s_size, Option.bind_some, if_pos hlt, show g_X3_isFrom 200 (nI q) (nI n) v 97 122 = some (if decide (97 ≤ T q ∧ T q ≤ 122) then 1 else 0) from s_isFrom hT (lo := 97) (hi := 122) hqn (by omega) (by omega), decide_eq_false c1, Option.bind_some, if10, if_neg (by decide), show g_X3_isFrom 200 (nI q) (nI n) v 48 57 = some (if decide (48 ≤ T q ∧ T q ≤ 57) then 1 else 0) from s_isFrom hT (lo := 48) (hi := 57) hqn (by omega) (by omega), decide_eq_true c2, Option.bind_some, if10, if_pos rfl, hre, Option.bind_some, z_sub he.1, hval, Option.bind_some, Option.bind_some, ifi (show 2 < nI (e - q) ↔ ¬ e ≤ q + 2 from (e_lt (a := 2) (by decide) (by omega)).trans (by omega))]
          by_cases d : e ≤ q + 2
          · rw [if_neg (by omega), if_pos d]
          · rw [if_pos d, if_neg d]
        by_cases d : e ≤ q + 2
        · refine ⟨1, q, e, vl T q e, fun tok num => ⟨_, ?_, fun _ => rfl⟩, fun start sort value => ⟨_, ?_, fun _ => rfl⟩, ⟨hq1, he.1, he2, fun _ => hqe⟩, by omega, vl_le hqe he.2.2.1⟩
          · rw [hcl, if_pos d]; rfl
          · rw [hm]; unfold nx0; rw [if_neg c, if_neg c1, if_pos c2, hmn, if_pos d]; rfl
        · refine ⟨6, q, e, 0, fun tok num => ⟨nI (vl T q e), ?_, fun h => absurd h (by decide)⟩, fun start sort value => ⟨nI (vl T q e), ?_, fun h => absurd h (by decide)⟩, ⟨hq1, he.1, he2, fun _ => hqe⟩, by omega, by omega⟩
          · rw [hcl, if_neg d]; rfl
          · rw [hm]; unfold nx0; rw [if_neg c, if_neg c1, if_pos c2, hmn, if_neg d]; rfl
      · have hcl : ∀ tok num : Int32, g_X3_take N 200 (nI p) tok num (nI n) v = some (nI (q + 1), num, nI q, if T q = 59 then 2 else 6) := by
          intro tok num
          unfold g_X3_take
          rw [hr, Option.bind_some, s_size, Option.bind_some, if_pos hlt, show g_X3_isFrom 200 (nI q) (nI n) v 97 122 = some (if decide (97 ≤ T q ∧ T q ≤ 122) then 1 else 0) from s_isFrom hT (lo := 97) (hi := 122) hqn (by omega) (by omega), decide_eq_false c1, Option.bind_some, if10, if_neg (by decide), show g_X3_isFrom 200 (nI q) (nI n) v 48 57 = some (if decide (48 ≤ T q ∧ T q ≤ 57) then 1 else 0) from s_isFrom hT (lo := 48) (hi := 57) hqn (by omega) (by omega), decide_eq_false c2, Option.bind_some, if10, if_neg (by decide), show g_X3_isFrom 200 (nI q) (nI n) v 59 59 = some (if decide (59 ≤ T q ∧ T q ≤ 59) then 1 else 0) from s_isFrom hT (lo := 59) (hi := 59) hqn (by omega) (by omega), Option.bind_some, if10, z_1]
          by_cases d : T q = 59
          · rw [decide_eq_true (by omega), if_pos rfl, if_pos d]
          · rw [decide_eq_false (by omega), if_neg (by decide), if_neg d]
        by_cases d : T q = 59
        · refine ⟨2, q, q + 1, 0, fun tok num => ⟨num, ?_, fun h => absurd h (by decide)⟩, fun start sort value => ⟨0, ?_, fun h => absurd h (by decide)⟩, ⟨hq1, by omega, by omega, fun _ => by omega⟩, by omega, by omega⟩
          · rw [hcl, if_pos d]; rfl
          · rw [hm]; unfold nx0; rw [if_neg c, if_neg c1, if_neg c2, if_pos d]; rfl
        · refine ⟨6, q, q + 1, 0, fun tok num => ⟨num, ?_, fun h => absurd h (by decide)⟩, fun start sort value => ⟨0, ?_, fun h => absurd h (by decide)⟩, ⟨hq1, by omega, by omega, fun _ => by omega⟩, by omega, by omega⟩
          · rw [hcl, if_neg d]; rfl
          · rw [hm]; unfold nx0; rw [if_neg c, if_neg c1, if_neg c2, if_neg d]; rfl
/-- the reference has looked at the token that begins behind p -/
def LA (N n : Nat) (v al : Nat → Int32) (p : Nat) (at_ st so va : Int32) : Prop := ∃ k pl e w, LR N n v al p k pl e w ∧ at_ = nI e ∧ st = nI pl ∧ so = ms k ∧ (k = 1 → va = nI w)
theorem LA_ex {N n : Nat} {T : Nat → Nat} {v al : Nat → Int32} (hN : 300 ≤ N) (hT : TX n T v al) {p : Nat} (hp : p ≤ n) (start sort value : Int32) : ∃ at_ st so va, g_X10_next N (nI p) start sort value al = some (at_, so, st, va) ∧ LA N n v al p at_ st so va := by
  obtain ⟨k, pl, e, w, h⟩ := lex_ex hN hT hp
  obtain ⟨val', h1, h2⟩ := h.2.1 start sort value
  exact ⟨_, _, _, val', h1, k, pl, e, w, h, rfl, rfl, rfl, h2⟩
theorem ms_4 : ∀ k, k ≤ 6 → (ms k = 4 ↔ k = 1) := by decide
theorem ms_5 : ∀ k, k ≤ 6 → (ms k = 5 ↔ k = 2) := by decide
theorem due_f {N : Nat} {al : Nat → Int32} {at_ st so va x1 : Int32} {f : Nat} (hf : f < 2147483648) : g_X10_due N at_ st so va (nI f) al x1 = some (va, at_, nI f, so, st, va) := by
  unfold g_X10_due
  rw [if_neg (nI_nm1 hf)]
theorem due_0 {N : Nat} {al : Nat → Int32} {at_ st so va : Int32} : g_X10_due N at_ st so va (-1) al 0 = some (va, at_, st, so, st, va) := rfl
theorem due_1 {N : Nat} {al : Nat → Int32} {at_ st so va a' s' o' v' : Int32} (h : g_X10_next N at_ st so va al = some (a', o', s', v')) : g_X10_due N at_ st so va (-1) al 1 = some (va, a', -1, o', s', v') := by
  unfold g_X10_due
  rw [if_pos rfl, if_neg (by decide), h, Option.bind_some]
theorem num_f {N : Nat} {al : Nat → Int32} {at_ st so va x1 x2 : Int32} {f : Nat} (hf : f < 2147483648) : g_X10_number N at_ st so va (nI f) al x1 x2 = some (va, at_, nI f, so, st, va) := by
  unfold g_X10_number
  simp only [due_f hf, Option.bind_some, s_in]
  split
  · split <;> rfl
  · rfl
/-- a number, or none -/
theorem NUM {N n : Nat} {T : Nat → Nat} {v al : Nat → Int32} (hN : 300 ≤ N) (hT : TX n T v al) {p lo hi : Nat} {at_ st so va : Int32} (hA : LA N n v al p at_ st so va) (hlo : lo < 256) (hhi : hi < 256) :
    (∃ w e, lo ≤ w ∧ w ≤ hi ∧ p < e ∧ e ≤ n ∧ (∀ tok num : Int32, ∃ plc tk : Int32, g_X3_takeNumber N 200 (nI p) tok num (nI n) v (nI lo) (nI hi) = some (1, nI e, nI w, plc, tk)) ∧ ∃ a' s' o' v', g_X10_number N at_ st so va (-1) al (nI lo) (nI hi) = some (nI w, a', -1, o', s', v') ∧ LA N n v al e a' s' o' v') ∨
    (∃ pl, pl ≤ n ∧ (∀ tok num : Int32, ∃ nx nu tk : Int32, g_X3_takeNumber N 200 (nI p) tok num (nI n) v (nI lo) (nI hi) = some (0, nx, nu, nI pl, tk)) ∧ g_X10_number N at_ st so va (-1) al (nI lo) (nI hi) = some (va, at_, nI pl, so, st, va)) := by
  have hn := hT.1
  obtain ⟨k, pl, e, w, ⟨h1, h2, ⟨h3, h4, h5, h6⟩, h7, h8⟩, a1, a2, a3, a4⟩ := hA
  by_cases c : k = 1 ∧ lo ≤ w ∧ w ≤ hi
  · left
    obtain ⟨c1, c2⟩ := c
    have hpe := h6 (by omega)
    refine ⟨w, e, c2.1, c2.2, by omega, h5, fun tok num => ?_, ?_⟩
    · obtain ⟨num', g1, g2⟩ := h1 tok num
      rw [g2 c1, c1] at g1
      refine ⟨nI pl, nI 1, ?_⟩
      unfold g_X3_takeNumber
      rw [g1, Option.bind_some]
      dsimp only
      rw [if_pos (show nI 1 = 1 from rfl), s_isWithin, wiN (by omega) (by omega) (by omega), decide_eq_true c2, Option.bind_some, if10, if_pos rfl]
    · obtain ⟨a', s', o', v', n1, n2⟩ := LA_ex hN hT h5 st so va
      refine ⟨a', s', o', v', ?_, n2⟩
      rw [← a1] at n1
      unfold g_X10_number
      rw [if_pos (by rw [a3]; exact (ms_4 k h7).mpr c1), a4 c1, s_in, wiN (by omega) (by omega) (by omega), decide_eq_true c2, Option.bind_some, if10, if_pos rfl]
      rw [a4 c1] at n1
      rw [due_1 n1, Option.bind_some]
  · right
    refine ⟨pl, by omega, fun tok num => ?_, ?_⟩
    · obtain ⟨num', g1, g2⟩ := h1 tok num
      unfold g_X3_takeNumber
      rw [g1, Option.bind_some]
      dsimp only
      by_cases c1 : k = 1
      · rw [if_pos (show nI k = 1 by rw [c1]; rfl), g2 c1, s_isWithin, wiN (by omega) (by omega) (by omega), decide_eq_false (fun hh => c ⟨c1, hh⟩), Option.bind_some, if10, if_neg (by decide)]
        exact ⟨_, _, _, rfl⟩
      · rw [if_neg (show ¬ nI k = 1 from fun hh => c1 ((e_eq (a := k) (b := 1) (by omega) (by decide)).mp hh))]
        exact ⟨_, _, _, rfl⟩
    · unfold g_X10_number
      by_cases c1 : k = 1
      · rw [if_pos (by rw [a3]; exact (ms_4 k h7).mpr c1), a4 c1, s_in, wiN (by omega) (by omega) (by omega), decide_eq_false (fun hh => c ⟨c1, hh⟩), Option.bind_some, if10, if_neg (by decide), due_0, Option.bind_some, a2]
      · rw [if_neg (fun hh => c1 ((ms_4 k h7).mp (by rw [← a3]; exact hh))), due_0, Option.bind_some, a2]
/-- an end of item, or none -/
theorem STOP {N n : Nat} {T : Nat → Nat} {v al : Nat → Int32} (hN : 300 ≤ N) (hT : TX n T v al) {p : Nat} {at_ st so va : Int32} (hA : LA N n v al p at_ st so va) :
    (∃ e, p < e ∧ e ≤ n ∧ (∀ tok num : Int32, ∃ nu plc tk : Int32, g_X3_takeStop N 200 (nI p) tok num (nI n) v = some (1, nI e, nu, plc, tk)) ∧ so = 5 ∧ ∃ a' s' o' v', g_X10_due N at_ st so va (-1) al 1 = some (va, a', -1, o', s', v') ∧ LA N n v al e a' s' o' v') ∨
    (∃ pl, pl ≤ n ∧ (∀ tok num : Int32, ∃ nx nu tk : Int32, g_X3_takeStop N 200 (nI p) tok num (nI n) v = some (0, nx, nu, nI pl, tk)) ∧ ¬ so = 5 ∧ g_X10_due N at_ st so va (-1) al 0 = some (va, at_, nI pl, so, st, va)) := by
  have hn := hT.1
  obtain ⟨k, pl, e, w, ⟨h1, h2, ⟨h3, h4, h5, h6⟩, h7, h8⟩, a1, a2, a3, a4⟩ := hA
  by_cases c : k = 2
  · left
    have hpe := h6 (by omega)
    refine ⟨e, by omega, h5, fun tok num => ?_, by rw [a3]; exact (ms_5 k h7).mpr c, ?_⟩
    · obtain ⟨num', g1, g2⟩ := h1 tok num
      unfold g_X3_takeStop
      rw [g1, Option.bind_some]
      dsimp only
      rw [if_pos (show nI k = 2 by rw [c]; rfl)]
      exact ⟨_, _, _, rfl⟩
    · obtain ⟨a', s', o', v', n1, n2⟩ := LA_ex hN hT h5 st so va
      rw [← a1] at n1
      exact ⟨a', s', o', v', due_1 n1, n2⟩
  · right
    refine ⟨pl, by omega, fun tok num => ?_, fun hh => c ((ms_5 k h7).mp (by rw [← a3]; exact hh)), by rw [due_0, a2]⟩
    obtain ⟨num', g1, g2⟩ := h1 tok num
    unfold g_X3_takeStop
    rw [g1, Option.bind_some]
    dsimp only
    rw [if_neg (show ¬ nI k = 2 from fun hh => c ((e_eq (a := k) (b := 2) (by omega) (by decide)).mp hh))]
    exact ⟨_, _, _, rfl⟩
