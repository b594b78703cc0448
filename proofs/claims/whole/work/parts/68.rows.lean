/-! rows: what is said of them; class -/
def RN (Q : Nat → Bool) : Nat → Nat → Nat → Nat
  | 0, _, v => if v = 0 then 1 else 0
  | f + 1, s, v => if v = 0 then 1 else if v < s then 0 else RN Q f (s + 1) v + (if Q s then RN Q f s (v - s) else 0)
theorem RN_st {Q : Nat → Bool} : ∀ f s v, 1 ≤ s → 2 * v + 2 ≤ f + s → RN Q f s v = RN Q (f + 1) s v := by
  intro f
  induction f with
  | zero =>
    intro s v h1 h2
    rw [RN, RN]
    by_cases e : v = 0
    · rw [if_pos e, if_pos e]
    · rw [if_neg e, if_neg e, if_pos (by omega)]
  | succ f ih =>
    intro s v h1 h2
    rw [RN, RN]
    by_cases e : v = 0
    · rw [if_pos e, if_pos e]
    · rw [if_neg e, if_neg e]
      by_cases e2 : v < s
      · rw [if_pos e2, if_pos e2]
      · rw [if_neg e2, if_neg e2, ih (s + 1) v (by omega) (by omega), ih s (v - s) h1 (by omega)]
/-- the rows of sizes s or more, v in all -/
def rn (Q : Nat → Bool) (s v : Nat) : Nat := RN Q 100 s v
theorem rn_0 (Q : Nat → Bool) (s : Nat) : rn Q s 0 = 1 := by unfold rn; rw [show (100 : Nat) = 99 + 1 from rfl, RN, if_pos rfl]
theorem rn_no {Q : Nat → Bool} {s v : Nat} (h : v < s) (h0 : 0 < v) : rn Q s v = 0 := by unfold rn; rw [show (100 : Nat) = 99 + 1 from rfl, RN, if_neg (by omega), if_pos h]
theorem rn_eq {Q : Nat → Bool} {s v : Nat} (hs : 1 ≤ s) (hv : v ≤ 30) : rn Q s v = rn Q (s + 1) v + (if Q s = true ∧ s ≤ v then rn Q s (v - s) else 0) := by
  by_cases e : v = 0
  · subst e
    rw [rn_0, rn_0, if_neg (by omega)]
  · by_cases e2 : v < s
    · rw [rn_no e2 (by omega), rn_no (by omega) (by omega), if_neg (by omega)]
    · have h := RN_st (Q := Q) 100 s v hs (by omega)
      unfold rn
      rw [h]
      show RN Q (100 + 1) s v = _
      rw [RN, if_neg e, if_neg e2]
      cases Q s with
      | false => rw [if_neg (by decide), if_neg (by simp)]
      | true => rw [if_pos rfl, if_pos ⟨rfl, by omega⟩]
theorem rn_le {Q : Nat → Bool} : ∀ (m s v : Nat), 1 ≤ s → v ≤ 30 → 2 * v + 2 ≤ m + s → rn Q s v ≤ 2 ^ (v + 1 - s) := by
  intro m
  induction m with
  | zero =>
    intro s v h1 h2 h3
    rcases Nat.eq_zero_or_pos v with e | e
    · subst e; rw [rn_0]; exact Nat.two_pow_pos _
    · rw [rn_no (by omega) e]; exact Nat.zero_le _
  | succ m ih =>
    intro s v h1 h2 h3
    rcases Nat.eq_zero_or_pos v with e | e
    · subst e; rw [rn_0]; exact Nat.two_pow_pos _
    · rcases Nat.lt_or_ge v s with e2 | e2
      · rw [rn_no e2 e]; exact Nat.zero_le _
      · rw [rn_eq h1 h2]
        rcases Nat.eq_or_lt_of_le e2 with e3 | e3
        · subst e3
          rw [rn_no (by omega) e, Nat.sub_self]
          split
          · rw [rn_0]; exact Nat.two_pow_pos _
          · exact Nat.zero_le _
        · have a1 := ih (s + 1) v (by omega) h2 (by omega)
          have a2 := ih s (v - s) h1 (by omega) (by omega)
          have a3 : 2 ^ (v - s + 1 - s) ≤ 2 ^ (v + 1 - (s + 1)) := Nat.pow_le_pow_right (by decide) (by omega)
          have a4 : 2 ^ (v + 1 - s) = 2 ^ (v + 1 - (s + 1)) * 2 := by rw [← Nat.pow_succ]; congr 1; omega
          split <;> omega
theorem rn_lt {Q : Nat → Bool} {s v : Nat} (h1 : 1 ≤ s) (h2 : v ≤ 30) : rn Q s v < 2147483648 := by
  have a1 := rn_le (Q := Q) 100 s v h1 h2 (by omega)
  have a2 : 2 ^ (v + 1 - s) ≤ 2 ^ 30 := Nat.pow_le_pow_right (by decide) (by omega)
  have a3 : (2 : Nat) ^ 30 < 2147483648 := by decide
  omega
/-- k sizes, not falling, s or more -/
def pt (Q : Nat → Bool) : Nat → Nat → Nat → Prop
  | 0, _, v => v = 0
  | k + 1, s, v => ∃ t, s ≤ t ∧ Q t = true ∧ t ≤ v ∧ pt Q k t (v - t)
/-- k sizes in any order -/
def cp (Q : Nat → Bool) : Nat → Nat → Prop
  | 0, v => v = 0
  | k + 1, v => ∃ t, 1 ≤ t ∧ Q t = true ∧ t ≤ v ∧ cp Q k (v - t)
theorem pt_up {Q : Nat → Bool} {k s v : Nat} (h : pt Q k (s + 1) v) : pt Q k s v := by
  cases k with
  | zero => exact h
  | succ k => obtain ⟨t, h1, h2⟩ := h; exact ⟨t, by omega, h2⟩
theorem pt_step {Q : Nat → Bool} {k s v : Nat} : pt Q k s v ↔ (pt Q k (s + 1) v ∨ ∃ j, k = j + 1 ∧ Q s = true ∧ s ≤ v ∧ pt Q j s (v - s)) := by
  constructor
  · intro h
    cases k with
    | zero => exact Or.inl h
    | succ k =>
      obtain ⟨t, h1, h2, h3, h4⟩ := h
      rcases Nat.eq_or_lt_of_le h1 with e | e
      · subst e; exact Or.inr ⟨k, rfl, h2, h3, h4⟩
      · exact Or.inl ⟨t, by omega, h2, h3, h4⟩
  · rintro (h | ⟨j, rfl, h2, h3, h4⟩)
    · exact pt_up h
    · exact ⟨s, Nat.le_refl _, h2, h3, h4⟩
theorem pt_le {Q : Nat → Bool} : ∀ k s v, 1 ≤ s → pt Q k s v → k ≤ v := by
  intro k
  induction k with
  | zero => intro s v _ _; exact Nat.zero_le _
  | succ k ih =>
    intro s v h1 h
    obtain ⟨t, h2, h3, h4, h5⟩ := h
    have := ih t (v - t) (by omega) h5
    omega
theorem cp_le {Q : Nat → Bool} : ∀ k v, cp Q k v → k ≤ v := by
  intro k
  induction k with
  | zero => intro v _; exact Nat.zero_le _
  | succ k ih =>
    intro v h
    obtain ⟨t, h2, h3, h4, h5⟩ := h
    have := ih (v - t) h5
    omega
theorem pt_ins {Q : Nat → Bool} {t : Nat} (ht : Q t = true) : ∀ k s v, pt Q k s v → pt Q (k + 1) (min s t) (v + t) := by
  intro k
  induction k with
  | zero =>
    intro s v h
    have e : v = 0 := h
    exact ⟨t, by omega, ht, by omega, by show v + t - t = 0; omega⟩
  | succ k ih =>
    intro s v h
    obtain ⟨u, h1, h2, h3, h4⟩ := h
    by_cases c : t ≤ u
    · refine ⟨t, by omega, ht, by omega, u, c, h2, by omega, ?_⟩
      rw [show v + t - t - u = v - u by omega]; exact h4
    · have := ih u (v - u) h4
      rw [show min u t = u by omega, show v - u + t = v + t - u by omega] at this
      exact ⟨u, by omega, h2, by omega, this⟩
theorem cp_pt {Q : Nat → Bool} : ∀ k v, cp Q k v → pt Q k 1 v := by
  intro k
  induction k with
  | zero => intro v h; exact h
  | succ k ih =>
    intro v h
    obtain ⟨t, h1, h2, h3, h4⟩ := h
    have := pt_ins h2 k 1 (v - t) (ih _ h4)
    rw [show min 1 t = 1 by omega, show v - t + t = v by omega] at this
    exact this
theorem pt_cp {Q : Nat → Bool} : ∀ k s v, 1 ≤ s → pt Q k s v → cp Q k v := by
  intro k
  induction k with
  | zero => intro s v _ h; exact h
  | succ k ih =>
    intro s v h1 h
    obtain ⟨t, h2, h3, h4, h5⟩ := h
    exact ⟨t, by omega, h3, h4, ih t (v - t) (by omega) h5⟩
theorem rn_pt {Q : Nat → Bool} : ∀ (m s v : Nat), 1 ≤ s → v ≤ 30 → 2 * v + 2 ≤ m + s → (0 < rn Q s v ↔ ∃ k, pt Q k s v) := by
  have lo : ∀ s v, v < s → (0 < rn Q s v ↔ ∃ k, pt Q k s v) := by
    intro s v h
    rcases Nat.eq_zero_or_pos v with e | e
    · subst e; rw [rn_0]; exact ⟨fun _ => ⟨0, rfl⟩, fun _ => by decide⟩
    · rw [rn_no h e]
      refine ⟨fun h => absurd h (by decide), fun ⟨k, hk⟩ => ?_⟩
      cases k with
      | zero => have e : v = 0 := hk; omega
      | succ k => obtain ⟨t, h1, h2, h3, h4⟩ := hk; omega
  intro m
  induction m with
  | zero => intro s v h1 h2 h3; exact lo s v (by omega)
  | succ m ih =>
    intro s v h1 h2 h3
    rcases Nat.lt_or_ge v s with e | e
    · exact lo s v e
    · rw [rn_eq h1 h2]
      have a1 := ih (s + 1) v (by omega) h2 (by omega)
      have a2 := ih s (v - s) h1 (by omega) (by omega)
      constructor
      · intro h
        by_cases c : 0 < rn Q (s + 1) v
        · obtain ⟨k, hk⟩ := a1.mp c
          exact ⟨k, pt_up hk⟩
        · by_cases d : Q s = true ∧ s ≤ v
          · rw [if_pos d] at h
            obtain ⟨k, hk⟩ := a2.mp (by omega)
            exact ⟨k + 1, s, Nat.le_refl _, d.1, d.2, hk⟩
          · rw [if_neg d] at h; omega
      · rintro ⟨k, hk⟩
        rcases pt_step.mp hk with h | ⟨j, e1, e2, e3, e4⟩
        · have := a1.mpr ⟨k, h⟩; omega
        · have := a2.mpr ⟨j, e4⟩
          rw [if_pos ⟨e2, e3⟩]; omega
theorem rnpt {Q : Nat → Bool} {s v : Nat} (h1 : 1 ≤ s) (h2 : v ≤ 30) : 0 < rn Q s v ↔ ∃ k, pt Q k s v := rn_pt 100 s v h1 h2 (by omega)
/-! class: numbers -/
theorem in31 {x : Nat} (h : x < 31) : inb (nI x) 31 = true := by rw [inb_nI (by omega)]; simpa using h
theorem in992 {x : Nat} (h : x < 992) : inb (nI x) 992 = true := by rw [inb_nI (by omega)]; simpa using h
theorem m31 (s : Nat) : (31 : Int32) * nI s = nI (31 * s) := pk_mul 31 s
def NT (Q : Nat → Bool) (s : Nat) (num : Nat → Int32) : Prop := ∀ t v, s ≤ t → t ≤ 31 → v ≤ 30 → num (31 * t + v) = nI (rn Q t v)
def FT (Q : Nat → Bool) (fits : Nat → Int32) : Prop := ∀ x, x < 31 → fits x = if Q x then 1 else 0
theorem s_fill_55 {Q : Nat → Bool} {few fits most : Nat → Int32} (hf : FT Q fits) (K : Int32 → (Nat → Int32) → (Nat → Int32) → (Nat → Int32) → (Nat → Int32) → Option ((Nat → Int32) × (Nat → Int32) × (Nat → Int32) × (Nat → Int32))) {s : Nat} (h1 : 1 ≤ s) (h2 : s ≤ 30) : ∀ (m v n : Nat) (num : Nat → Int32), v + m = 31 → m < n → NT Q (s + 1) num → (∀ w, w < v → num (31 * s + w) = nI (rn Q s w)) → ∃ num', g_X4_fill_55 K n (nI s) (nI v) few fits most num = K (nI (s - 1)) few fits most num' ∧ NT Q s num' := by
  intro m
  induction m with
  | zero =>
    intro v n num e1 e2 hN hv
    obtain ⟨n, rfl⟩ : ∃ z, n = z + 1 := ⟨n - 1, by omega⟩
    refine ⟨num, by rw [g_X4_fill_55, if_pos (show 31 ≤ nI v from nI_le (a := 31) (by omega) (by omega)), show s = s - 1 + 1 by omega, pk_m1]; rfl, fun t w a1 a2 a3 => ?_⟩
    rcases Nat.eq_or_lt_of_le a1 with e | e
    · subst e; exact hv w (by omega)
    · exact hN t w e a2 a3
  | succ m ih =>
    intro v n num e1 e2 hN hv
    obtain ⟨n, rfl⟩ : ∃ z, n = z + 1 := ⟨n - 1, by omega⟩
    have go : ∀ t : Nat, t = (if Q s = true ∧ s ≤ v then rn Q s (v - s) else 0) → ∃ num', g_X4_fill_95 (g_X4_fill_55 K n) (nI s) (nI v) (nI t) few fits most num = K (nI (s - 1)) few fits most num' ∧ NT Q s num' := by
      intro t ht
      unfold g_X4_fill_95
      rw [z_1, m31, m31, nI_add, nI_add, if_pos (in992 (by omega)), if_pos (in992 (by omega)), nI_clamp (by omega), nI_clamp (by omega), hN (s + 1) v (Nat.le_refl _) (by omega) (by omega), nI_add, z_1]
      refine ih (v + 1) n _ (by omega) (by omega) (fun t' w a1 a2 a3 => ?_) (fun w hw => ?_)
      · rw [upd_no (by omega)]; exact hN t' w a1 a2 a3
      · rcases (show w = v ∨ w < v by omega) with rfl | h
        · rw [upd_at, ht, ← rn_eq h1 (by omega)]
        · rw [upd_no (by omega)]; exact hv w h
    rw [g_X4_fill_55, if_neg (show ¬ 31 ≤ nI v from fun h => absurd ((e_le (a := 31) (by decide) (by omega)).mp h) (by omega)), if_pos (in31 (by omega)), nI_clamp (by omega), hf s (by omega), if10, ifi (e_lt (a := v) (b := s) (by omega) (by omega)), m31, nI_add, show nI (31 * s + v) - nI s = nI (31 * s + v - s) from z_sub (by omega)]
    unfold g_X4_fill_94
    cases hq : Q s with
    | false => rw [if_neg (by decide)]; exact go 0 (by rw [hq, if_neg (by simp)])
    | true =>
      rw [if_pos rfl]
      by_cases c : v < s
      · rw [if_pos c]; exact go 0 (by rw [if_neg (by omega)])
      · rw [if_neg c, if_pos (in992 (by omega)), nI_clamp (by omega), show 31 * s + v - s = 31 * s + (v - s) by omega, hv (v - s) (by omega)]
        exact go _ (by rw [hq, if_pos ⟨rfl, by omega⟩])
/-- the fewest and most of a set of counts -/
def CE (P : Nat → Prop) (few most : Int32) : Prop := (few = -1 ∧ most = -1 ∧ ∀ k, ¬ P k) ∨ ∃ f m, few = nI f ∧ most = nI m ∧ f ≤ 100 ∧ m ≤ 100 ∧ P f ∧ (∀ k, P k → f ≤ k) ∧ P m ∧ ∀ k, P k → k ≤ m
theorem CE.iff {P P' : Nat → Prop} {few most : Int32} (h : CE P few most) (hp : ∀ k, P k ↔ P' k) : CE P' few most := by
  rcases h with ⟨h1, h2, h3⟩ | ⟨f, m, h1, h2, h3, h4, h5, h6, h7, h8⟩
  · exact Or.inl ⟨h1, h2, fun k hk => h3 k ((hp k).mpr hk)⟩
  · exact Or.inr ⟨f, m, h1, h2, h3, h4, (hp f).mp h5, fun k hk => h6 k ((hp k).mpr hk), (hp m).mp h7, fun k hk => h8 k ((hp k).mpr hk)⟩
theorem nI_nm1 {n : Nat} (h : n < 2147483648) : ¬ nI n = -1 := by
  intro e
  have h1 : nI n < 0 := by rw [e]; decide
  exact nI_pos h h1
theorem s_addEnd {P P2 : Nat → Prop} {few most : Nat → Int32} {x z f2 m2 : Nat} (hx : x < 31) (hz : z < x) (h : CE P (few x) (most x)) (hf2 : few z = nI f2) (hm2 : most z = nI m2) (a1 : f2 ≤ 30) (a2 : m2 ≤ 30) (a3 : P2 f2) (a4 : ∀ k, P2 k → f2 ≤ k) (a5 : P2 m2) (a6 : ∀ k, P2 k → k ≤ m2) : ∃ few' most', g_X4_addEnd few most (nI x) (nI z) = some (few', most') ∧ CE (fun k => P k ∨ ∃ j, k = j + 1 ∧ P2 j) (few' x) (most' x) ∧ ∀ w, w ≠ x → few' w = few w ∧ most' w = most w := by
  have key : ∀ (F : Nat → Int32) (f' : Nat), F x = nI f' → f' ≤ 100 → (P f' ∨ ∃ j, f' = j + 1 ∧ P2 j) → (∀ k, (P k ∨ ∃ j, k = j + 1 ∧ P2 j) → f' ≤ k) → (∀ w, w ≠ x → F w = few w) → ∃ few' most', g_X4_addEnd_41 (nI x) (nI z) F most = some (few', most') ∧ CE (fun k => P k ∨ ∃ j, k = j + 1 ∧ P2 j) (few' x) (most' x) ∧ ∀ w, w ≠ x → few' w = few w ∧ most' w = most w := by
    intro F f' k1 k2 k3 k4 k5
    unfold g_X4_addEnd_41
    rw [if_pos (in31 hx), if_pos (in31 (by omega)), nI_clamp (by omega), nI_clamp (by omega), hm2, z_1]
    refine ⟨F, _, rfl, ?_, fun w hw => ⟨k5 w hw, upd_no hw⟩⟩
    rw [upd_at]
    rcases h with ⟨h1, h2, h3⟩ | ⟨f, m, h1, h2, h3, h4, h5, h6, h7, h8⟩
    · rw [h2, if_pos (show (-1 : Int32) < nI (m2 + 1) from by
        rw [Int32.lt_iff_toInt_lt, nI_toInt (by omega), show (-1 : Int32).toInt = -1 from rfl]; omega)]
      exact Or.inr ⟨f', m2 + 1, k1, rfl, k2, by omega, k3, k4, Or.inr ⟨m2, rfl, a5⟩, fun k hk => by
        rcases hk with hk | ⟨j, rfl, hj⟩
        · exact absurd hk (h3 k)
        · have := a6 j hj; omega⟩
    · rw [h2, ifi (e_lt (a := m) (b := m2 + 1) (by omega) (by omega))]
      by_cases c : m < m2 + 1
      · rw [if_pos c]
        exact Or.inr ⟨f', m2 + 1, k1, rfl, k2, by omega, k3, k4, Or.inr ⟨m2, rfl, a5⟩, fun k hk => by
          rcases hk with hk | ⟨j, rfl, hj⟩
          · have := h8 k hk; omega
          · have := a6 j hj; omega⟩
      · rw [if_neg c]
        exact Or.inr ⟨f', m, k1, rfl, k2, h4, k3, k4, Or.inl h7, fun k hk => by
          rcases hk with hk | ⟨j, rfl, hj⟩
          · exact h8 k hk
          · have := a6 j hj; omega⟩
  have k27 : g_X4_addEnd_27 (nI x) (nI z) few most = g_X4_addEnd_41 (nI x) (nI z) (upd few x (nI (f2 + 1))) most := by
    unfold g_X4_addEnd_27
    rw [if_pos (in31 (by omega)), if_pos (in31 hx), nI_clamp (by omega), nI_clamp (by omega), hf2, z_1]
  unfold g_X4_addEnd
  rw [if_pos (in31 hx), if_pos (in31 (by omega)), nI_clamp (by omega), nI_clamp (by omega), hf2, z_1]
  rcases id h with ⟨h1, h2, h3⟩ | ⟨f, m, h1, h2, h3, h4, h5, h6, h7, h8⟩
  · rw [if_pos h1, k27]
    exact key _ (f2 + 1) upd_at (by omega) (Or.inr ⟨f2, rfl, a3⟩) (fun k hk => by
      rcases hk with hk | ⟨j, rfl, hj⟩
      · exact absurd hk (h3 k)
      · have := a4 j hj; omega) (fun w hw => upd_no hw)
  · rw [h1, if_neg (nI_nm1 (by omega)), ifi (e_le (a := f) (b := f2 + 1) (by omega) (by omega))]
    by_cases c : f ≤ f2 + 1
    · rw [if_pos c]
      exact key few f h1 h3 (Or.inl h5) (fun k hk => by
        rcases hk with hk | ⟨j, rfl, hj⟩
        · exact h6 k hk
        · have := a4 j hj; omega) (fun w _ => rfl)
    · rw [if_neg c, k27]
      exact key _ (f2 + 1) upd_at (by omega) (Or.inr ⟨f2, rfl, a3⟩) (fun k hk => by
        rcases hk with hk | ⟨j, rfl, hj⟩
        · have := h6 k hk; omega
        · have := a4 j hj; omega) (fun w hw => upd_no hw)
/-- k sizes, the first below s -/
def cS (Q : Nat → Bool) (v s k : Nat) : Prop := ∃ j t, k = j + 1 ∧ 1 ≤ t ∧ t < s ∧ Q t = true ∧ t ≤ v ∧ cp Q j (v - t)
theorem cS_all {Q : Nat → Bool} {v k : Nat} (hv : 0 < v) : cS Q v (v + 1) k ↔ cp Q k v := by
  constructor
  · rintro ⟨j, t, rfl, h1, h2, h3, h4, h5⟩; exact ⟨t, h1, h3, h4, h5⟩
  · intro h
    cases k with
    | zero => have e : v = 0 := h; omega
    | succ k => obtain ⟨t, h1, h2, h3, h4⟩ := h; exact ⟨k, t, rfl, h1, by omega, h2, h3, h4⟩
theorem s_fillEnds_38 {Q : Nat → Bool} {fits : Nat → Int32} (hf : FT Q fits) (K : Int32 → (Nat → Int32) → (Nat → Int32) → Option ((Nat → Int32) × (Nat → Int32))) {v : Nat} (h1 : 1 ≤ v) (h2 : v ≤ 30) : ∀ (m s n : Nat) (few most : Nat → Int32), s + m = v + 1 → m < n → 1 ≤ s → CE (cS Q v s) (few v) (most v) → (∀ w, w < v → CE (fun k => cp Q k w) (few w) (most w)) → ∃ few' most', g_X4_fillEnds_38 fits K n (nI v) (nI s) few most = K (nI (v + 1)) few' most' ∧ ∀ w, w < v + 1 → CE (fun k => cp Q k w) (few' w) (most' w) := by
  intro m
  induction m with
  | zero =>
    intro s n few most e1 e2 e3 hC hw
    obtain ⟨n, rfl⟩ : ∃ z, n = z + 1 := ⟨n - 1, by omega⟩
    refine ⟨few, most, by rw [g_X4_fillEnds_38, if_pos (nI_lt (by omega) (by omega)), z_1], fun w hw' => ?_⟩
    rcases (show w = v ∨ w < v by omega) with rfl | h
    · rw [show s = w + 1 by omega] at hC
      exact hC.iff (fun k => cS_all h1)
    · exact hw w h
  | succ m ih =>
    intro s n few most e1 e2 e3 hC hw
    obtain ⟨n, rfl⟩ : ∃ z, n = z + 1 := ⟨n - 1, by omega⟩
    have hs : s ≤ v := by omega
    rw [g_X4_fillEnds_38, if_neg (fun h => absurd ((e_lt (by omega) (by omega)).mp h) (by omega)), if_pos (in31 (by omega)), nI_clamp (by omega), hf s (by omega), if10, z_sub hs, if_pos (in31 (by omega)), nI_clamp (by omega), z_1]
    have skip : (∀ k, cS Q v (s + 1) k ↔ cS Q v s k) → ∃ few' most', g_X4_fillEnds_38 fits K n (nI v) (nI (s + 1)) few most = K (nI (v + 1)) few' most' ∧ ∀ w, w < v + 1 → CE (fun k => cp Q k w) (few' w) (most' w) := fun hh => ih (s + 1) n few most (by omega) (by omega) (by omega) (hC.iff (fun k => (hh k).symm)) hw
    have hstep : ∀ k, cS Q v (s + 1) k ↔ (cS Q v s k ∨ (Q s = true ∧ ∃ j, k = j + 1 ∧ cp Q j (v - s))) := by
      intro k
      constructor
      · rintro ⟨j, t, rfl, a1, a2, a3, a4, a5⟩
        rcases (show t = s ∨ t < s by omega) with rfl | h
        · exact Or.inr ⟨a3, j, rfl, a5⟩
        · exact Or.inl ⟨j, t, rfl, a1, h, a3, a4, a5⟩
      · rintro (⟨j, t, rfl, a1, a2, a3, a4, a5⟩ | ⟨a3, j, rfl, a5⟩)
        · exact ⟨j, t, rfl, a1, by omega, a3, a4, a5⟩
        · exact ⟨j, s, rfl, e3, by omega, a3, hs, a5⟩
    cases hq : Q s with
    | false =>
      rw [if_neg (by decide)]
      exact skip (fun k => by rw [hstep k, hq]; simp)
    | true =>
      rw [if_pos rfl]
      rcases hw (v - s) (by omega) with ⟨b1, b2, b3⟩ | ⟨f, mm, b1, b2, b3, b4, b5, b6, b7, b8⟩
      · rw [if_pos b1]
        exact skip (fun k => by
          rw [hstep k]
          exact ⟨fun h => h.resolve_right (fun ⟨_, j, _, hj⟩ => b3 j hj), Or.inl⟩)
      · have hfl := cp_le f _ b5
        have hml := cp_le mm _ b7
        rw [if_neg (by rw [b1]; exact nI_nm1 (by omega))]
        obtain ⟨few1, most1, c1, c2, c3⟩ := s_addEnd (z := v - s) (show v < 31 by omega) (by omega) hC b1 b2 (by omega) (by omega) b5 b6 b7 b8
        rw [c1, Option.bind_some]
        refine ih (s + 1) n few1 most1 (by omega) (by omega) (by omega) (c2.iff (fun k => ?_)) (fun w hw' => ?_)
        · rw [hstep k, hq]; simp
        · rw [(c3 w (by omega)).1, (c3 w (by omega)).2]; exact hw w hw'
theorem s_fillEnds_16 {Q : Nat → Bool} {fits : Nat → Int32} {N : Nat} (hN : 200 ≤ N) (hf : FT Q fits) : ∀ (m v n : Nat) (few most : Nat → Int32), v + m = 31 → m < n → 1 ≤ v → (∀ w, w < v → CE (fun k => cp Q k w) (few w) (most w)) → ∃ few' most', g_X4_fillEnds_16 N fits n (nI v) few most = some (few', most') ∧ ∀ w, w < 31 → CE (fun k => cp Q k w) (few' w) (most' w) := by
  intro m
  induction m with
  | zero =>
    intro v n few most e1 e2 e3 hw
    obtain ⟨n, rfl⟩ : ∃ z, n = z + 1 := ⟨n - 1, by omega⟩
    exact ⟨few, most, by rw [g_X4_fillEnds_16, if_pos (show 31 ≤ nI v from nI_le (a := 31) (by omega) (by omega))], fun w h => hw w (by omega)⟩
  | succ m ih =>
    intro v n few most e1 e2 e3 hw
    obtain ⟨n, rfl⟩ : ∃ z, n = z + 1 := ⟨n - 1, by omega⟩
    obtain ⟨few1, most1, c1, c2⟩ := s_fillEnds_38 hf (g_X4_fillEnds_16 N fits n) e3 (by omega) v 1 N (upd few v (-1)) (upd most v (-1)) (by omega) (by omega) (by omega) (Or.inl ⟨upd_at, upd_at, fun k ⟨j, t, _, a1, a2, _⟩ => by omega⟩) (fun w h => by rw [upd_no (by omega), upd_no (by omega)]; exact hw w h)
    obtain ⟨few', most', d1, d2⟩ := ih (v + 1) n few1 most1 (by omega) (by omega) (by omega) c2
    refine ⟨few', most', ?_, d2⟩
    rw [g_X4_fillEnds_16, if_neg (show ¬ 31 ≤ nI v from fun h => absurd ((e_le (a := 31) (by decide) (by omega)).mp h) (by omega)), if_pos (in31 (by omega)), nI_clamp (by omega)]
    exact c1.trans d1
theorem s_fillEnds {Q : Nat → Bool} {fits : Nat → Int32} {N : Nat} (hN : 200 ≤ N) (hf : FT Q fits) (few most : Nat → Int32) : ∃ few' most', g_X4_fillEnds N few fits most = some (few', most') ∧ ∀ w, w < 31 → CE (fun k => cp Q k w) (few' w) (most' w) := by
  unfold g_X4_fillEnds
  rw [if_pos (show inb 0 31 = true from rfl)]
  refine s_fillEnds_16 hN hf 30 1 N _ _ (by omega) (by omega) (by omega) (fun w hw => ?_)
  have e : w = 0 := by omega
  subst e
  refine Or.inr ⟨0, 0, upd_at, upd_at, by omega, by omega, rfl, fun k _ => Nat.zero_le _, rfl, fun k hk => cp_le k 0 hk⟩
theorem s_fill_48 {Q : Nat → Bool} {fits : Nat → Int32} {N : Nat} (hN : 200 ≤ N) (hf : FT Q fits) (few most : Nat → Int32) : ∀ (s n : Nat) (num : Nat → Int32), s ≤ 30 → s < n → NT Q (s + 1) num → ∃ few' most' num', g_X4_fill_48 N n (nI s) few fits most num = some (few', fits, most', num') ∧ NT Q 1 num' ∧ ∀ w, w < 31 → CE (fun k => cp Q k w) (few' w) (most' w) := by
  intro s
  induction s with
  | zero =>
    intro n num e1 e2 hT
    obtain ⟨n, rfl⟩ : ∃ z, n = z + 1 := ⟨n - 1, by omega⟩
    obtain ⟨few', most', c1, c2⟩ := s_fillEnds hN hf few most
    exact ⟨few', most', num, by rw [g_X4_fill_48, if_pos (by decide), c1, Option.bind_some], hT, c2⟩
  | succ s ih =>
    intro n num e1 e2 hT
    obtain ⟨n, rfl⟩ : ∃ z, n = z + 1 := ⟨n - 1, by omega⟩
    obtain ⟨num1, c1, c2⟩ := s_fill_55 (few := few) (most := most) hf (g_X4_fill_48 N n) (s := s + 1) (by omega) (by omega) 31 0 N num (by omega) (by omega) hT (fun w hw => absurd hw (by omega))
    obtain ⟨few', most', num', d1, d2⟩ := ih n num1 (by omega) (by omega) c2
    refine ⟨few', most', num', ?_, d2⟩
    rw [g_X4_fill_48, if_neg (show ¬ nI (s + 1) ≤ 0 from fun h => absurd ((e_le (b := 0) (by omega) (by decide)).mp h) (by omega))]
    exact c1.trans d1
theorem s_fill_2 {a : Nat → Nat} {N r : Nat} (hN : 200 ≤ N) (hI : IC a) (hr : r ≤ 3) (few most : Nat → Int32) : ∀ (m x n : Nat) (fits num : Nat → Int32), x + m = 31 → m < n → (∀ y, y < x → fits y = if fitN (a 0) r y then 1 else 0) → (∀ y, y < x → num (961 + y) = if y = 0 then 1 else 0) → ∃ fits' few' most' num', g_X4_fill_2 N (nI (a 0)) (nI r) n (nI x) few fits most num = some (few', fits', most', num') ∧ FT (fitN (a 0) r) fits' ∧ NT (fitN (a 0) r) 1 num' ∧ ∀ w, w < 31 → CE (fun k => cp (fitN (a 0) r) k w) (few' w) (most' w) := by
  intro m
  induction m with
  | zero =>
    intro x n fits num e1 e2 h1 h2
    obtain ⟨n, rfl⟩ : ∃ z, n = z + 1 := ⟨n - 1, by omega⟩
    have hf : FT (fitN (a 0) r) fits := fun y hy => h1 y (by omega)
    obtain ⟨few', most', num', c1, c2⟩ := s_fill_48 hN hf few most 30 N num (by omega) (by omega) (fun t v b1 b2 b3 => by
      have e : t = 31 := by omega
      subst e
      rw [show 31 * 31 + v = 961 + v from rfl, h2 v (by omega)]
      by_cases e : v = 0
      · rw [if_pos e, e, rn_0]; rfl
      · rw [if_neg e, rn_no (by omega) (by omega)]; rfl)
    exact ⟨fits, few', most', num', by rw [g_X4_fill_2, if_pos (show 31 ≤ nI x from nI_le (a := 31) (by omega) (by omega))]; exact c1, hf, c2⟩
  | succ m ih =>
    intro x n fits num e1 e2 h1 h2
    obtain ⟨n, rfl⟩ : ∃ z, n = z + 1 := ⟨n - 1, by omega⟩
    have hb : vp_nar .boolean (if fitN (a 0) r x then 1 else 0) = if fitN (a 0) r x then 1 else 0 := by cases fitN (a 0) r x <;> rfl
    have go : ∀ u : Int32, u = (if x = 0 then 1 else 0) → ∃ fits' few' most' num', g_X4_fill_2 N (nI (a 0)) (nI r) n (nI (x + 1)) few (upd fits x (if fitN (a 0) r x then 1 else 0)) most (upd num (961 + x) u) = some (few', fits', most', num') ∧ FT (fitN (a 0) r) fits' ∧ NT (fitN (a 0) r) 1 num' ∧ ∀ w, w < 31 → CE (fun k => cp (fitN (a 0) r) k w) (few' w) (most' w) := by
      intro u hu
      refine ih (x + 1) n _ _ (by omega) (by omega) (fun y hy => ?_) (fun y hy => ?_)
      · rcases (show y = x ∨ y < x by omega) with rfl | h
        · rw [upd_at]
        · rw [upd_no (by omega)]; exact h1 y h
      · rcases (show y = x ∨ y < x by omega) with rfl | h
        · rw [upd_at, hu]
        · rw [upd_no (by omega)]; exact h2 y h
    rw [g_X4_fill_2, if_neg (show ¬ 31 ≤ nI x from fun h => absurd ((e_le (a := 31) (by decide) (by omega)).mp h) (by omega)), s_fits hI.1 hr (by omega) hN, Option.bind_some, if_pos (in31 (by omega)), hb, ifi (e_eq0 (a := x) (by omega)), show (961 : Int32) + nI x = nI (961 + x) from nI_add 961 x, if_pos (in992 (by omega)), nI_clamp (by omega), nI_clamp (by omega), z_1]
    by_cases e : x = 0
    · rw [if_pos e]; exact go 1 (by rw [if_pos e])
    · rw [if_neg e, if_pos (in992 (by omega))]; exact go 0 (by rw [if_neg e])
theorem s_fill {a : Nat → Nat} {N r : Nat} (hN : 200 ≤ N) (hI : IC a) (hr : r ≤ 3) (few fits most num : Nat → Int32) : ∃ fits' few' most' num', g_X4_fill N few fits most num (nI (a 0)) (nI r) = some (few', fits', most', num') ∧ FT (fitN (a 0) r) fits' ∧ NT (fitN (a 0) r) 1 num' ∧ ∀ w, w < 31 → CE (fun k => cp (fitN (a 0) r) k w) (few' w) (most' w) := s_fill_2 hN hI hr few most 31 0 N fits num (by omega) (by omega) (fun y hy => absurd hy (by omega)) (fun y hy => absurd hy (by omega))
theorem s_numFrom {Q : Nat → Bool} {num : Nat → Int32} (hT : NT Q 1 num) {s v : Nat} (h1 : 1 ≤ s) (h2 : s ≤ 31) (h3 : v ≤ 30) : g_X4_numberFrom num (nI s) (nI v) = some (nI (rn Q s v)) := by
  unfold g_X4_numberFrom g_X4_numberFrom_25
  rw [s_isWithin, s_isWithin, Option.bind_some, Option.bind_some, if10, if10, if_pos (show wi (nI s) 1 31 = true from by
    rw [show wi (nI s) 1 31 = (decide (1 ≤ s) && decide (s ≤ 31)) from wi_of (lo := 1) (hi := 31) (by omega) (by decide) (by decide)]; simp; omega), if_pos (show wi (nI v) 0 30 = true from by
    rw [show wi (nI v) 0 30 = (decide (0 ≤ v) && decide (v ≤ 30)) from wi_of (lo := 0) (hi := 30) (by omega) (by decide) (by decide)]; simp; omega), if_neg (by decide), m31, nI_add, if_pos (in992 (by omega)), nI_clamp (by omega), hT s v h1 h2 h3]
