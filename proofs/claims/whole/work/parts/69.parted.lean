/-! rows: reference; parted -/
def VM (Q : Nat → Bool) (s v f : Nat) (m : Int) : Prop := (rn Q s v = 0 → f = 9999 ∧ -9999 ≤ m ∧ m ≤ -9999 + v) ∧ (0 < rn Q s v → pt Q f s v ∧ (∀ k, pt Q k s v → f ≤ k) ∧ 0 ≤ m ∧ pt Q m.toNat s v ∧ ∀ k, pt Q k s v → (k : Int) ≤ m)
theorem VM.bd {Q : Nat → Bool} {s v f : Nat} {m : Int} (h : VM Q s v f m) (hs : 1 ≤ s) (hv : v ≤ 30) : f ≤ 9999 ∧ -9999 ≤ m ∧ m ≤ 30 := by
  rcases Nat.eq_zero_or_pos (rn Q s v) with e | e
  · obtain ⟨h1, h2, h3⟩ := h.1 e
    omega
  · obtain ⟨h1, h2, h3, h4, h5⟩ := h.2 e
    have a1 := pt_le _ _ _ hs h1
    have a2 := pt_le _ _ _ hs h4
    omega
theorem VM.same {Q : Nat → Bool} {s v f : Nat} {m : Int} (hs : 1 ≤ s) (hv : v ≤ 30) (hn : ¬ (Q s = true ∧ s ≤ v)) (h : VM Q (s + 1) v f m) : VM Q s v f m := by
  have e : rn Q s v = rn Q (s + 1) v := by rw [rn_eq hs hv, if_neg hn]; rfl
  have hp : ∀ k, pt Q k s v ↔ pt Q k (s + 1) v := fun k => pt_step.trans ⟨fun h => h.resolve_right (fun ⟨j, _, a, b, _⟩ => hn ⟨a, b⟩), Or.inl⟩
  unfold VM
  rw [e]
  refine ⟨h.1, fun h0 => ?_⟩
  obtain ⟨h1, h2, h3, h4, h5⟩ := h.2 h0
  exact ⟨(hp _).mpr h1, fun k hk => h2 k ((hp k).mp hk), h3, (hp _).mpr h4, fun k hk => h5 k ((hp k).mp hk)⟩
theorem VM.both {Q : Nat → Bool} {s v f1 f2 : Nat} {m1 m2 : Int} (hs : 1 ≤ s) (hv : v ≤ 30) (hq : Q s = true) (hsv : s ≤ v) (h : VM Q (s + 1) v f1 m1) (h' : VM Q s (v - s) f2 m2) : VM Q s v (min f1 (f2 + 1)) (max m1 (m2 + 1)) := by
  have e : rn Q s v = rn Q (s + 1) v + rn Q s (v - s) := by rw [rn_eq hs hv, if_pos ⟨hq, hsv⟩]
  have hp : ∀ k, pt Q k s v ↔ (pt Q k (s + 1) v ∨ ∃ j, k = j + 1 ∧ pt Q j s (v - s)) := fun k => pt_step.trans ⟨fun h => h.imp id (fun ⟨j, a, _, _, b⟩ => ⟨j, a, b⟩), fun h => h.imp id (fun ⟨j, a, b⟩ => ⟨j, a, hq, hsv, b⟩)⟩
  obtain ⟨b1, b2, b3⟩ := h.bd (by omega) hv
  obtain ⟨d1, d2, d3⟩ := h'.bd hs (by omega)
  have in2 : ∀ j, pt Q j s (v - s) → pt Q (j + 1) s v := fun j hj => (hp _).mpr (Or.inr ⟨j, rfl, hj⟩)
  have in1 : ∀ j, pt Q j (s + 1) v → pt Q j s v := fun j hj => (hp _).mpr (Or.inl hj)
  unfold VM
  rw [e]
  rcases Nat.eq_zero_or_pos (rn Q (s + 1) v) with c1 | c1
  · obtain ⟨g1, g2, g3⟩ := h.1 c1
    have no1 : ∀ k, ¬ pt Q k (s + 1) v := fun k hk => by have := (rnpt (Q := Q) (s := s + 1) (v := v) (by omega) hv).mpr ⟨k, hk⟩; omega
    rcases Nat.eq_zero_or_pos (rn Q s (v - s)) with c2 | c2
    · obtain ⟨g4, g5, g6⟩ := h'.1 c2
      exact ⟨fun _ => by omega, fun h0 => by omega⟩
    · obtain ⟨g4, g5, g6, g7, g8⟩ := h'.2 c2
      have a1 := pt_le _ _ _ hs g4
      refine ⟨fun h0 => by omega, fun _ => ⟨?_, fun k hk => ?_, by omega, ?_, fun k hk => ?_⟩⟩
      · rw [show min f1 (f2 + 1) = f2 + 1 by omega]; exact in2 _ g4
      · rcases (hp k).mp hk with hk | ⟨j, rfl, hj⟩
        · exact absurd hk (no1 k)
        · have := g5 j hj; omega
      · rw [show (max m1 (m2 + 1)).toNat = m2.toNat + 1 by omega]; exact in2 _ g7
      · rcases (hp k).mp hk with hk | ⟨j, rfl, hj⟩
        · exact absurd hk (no1 k)
        · have := g8 j hj; omega
  · obtain ⟨g1, g2, g3, g3', g3''⟩ := h.2 c1
    rcases Nat.eq_zero_or_pos (rn Q s (v - s)) with c2 | c2
    · obtain ⟨g4, g5, g6⟩ := h'.1 c2
      have no2 : ∀ k, ¬ pt Q k s (v - s) := fun k hk => by have := (rnpt (Q := Q) (s := s) (v := v - s) hs (by omega)).mpr ⟨k, hk⟩; omega
      refine ⟨fun h0 => by omega, fun _ => ⟨?_, fun k hk => ?_, by omega, ?_, fun k hk => ?_⟩⟩
      · rw [show min f1 (f2 + 1) = f1 by omega]; exact in1 _ g1
      · rcases (hp k).mp hk with hk | ⟨j, rfl, hj⟩
        · have := g2 k hk; omega
        · exact absurd hj (no2 j)
      · rw [show max m1 (m2 + 1) = m1 by omega]; exact in1 _ g3'
      · rcases (hp k).mp hk with hk | ⟨j, rfl, hj⟩
        · have := g3'' k hk; omega
        · exact absurd hj (no2 j)
    · obtain ⟨g4, g5, g6, g7, g8⟩ := h'.2 c2
      refine ⟨fun h0 => by omega, fun _ => ⟨?_, fun k hk => ?_, by omega, ?_, fun k hk => ?_⟩⟩
      · rcases (show min f1 (f2 + 1) = f1 ∨ min f1 (f2 + 1) = f2 + 1 by omega) with q | q <;> rw [q]
        · exact in1 _ g1
        · exact in2 _ g4
      · rcases (hp k).mp hk with hk | ⟨j, rfl, hj⟩
        · have := g2 k hk; omega
        · have := g5 j hj; omega
      · rcases (show max m1 (m2 + 1) = m1 ∨ (max m1 (m2 + 1)).toNat = m2.toNat + 1 by omega) with q | q <;> rw [q]
        · exact in1 _ g3'
        · exact in2 _ g7
      · rcases (hp k).mp hk with hk | ⟨j, rfl, hj⟩
        · have := g3'' k hk; omega
        · have := g8 j hj; omega
theorem VM.zero (Q : Nat → Bool) (s : Nat) (hs : 1 ≤ s) : VM Q s 0 0 0 := by
  refine ⟨fun h => by rw [rn_0] at h; omega, fun _ => ⟨rfl, fun k _ => Nat.zero_le _, Int.le_refl _, rfl, fun k hk => ?_⟩⟩
  have := pt_le _ _ _ hs hk
  omega
theorem VM.none {Q : Nat → Bool} {s v : Nat} (h : v < s) (h0 : 0 < v) : VM Q s v 9999 (-9999) := by
  have e := rn_no (Q := Q) h h0
  exact ⟨fun _ => ⟨rfl, by omega, by omega⟩, fun h1 => by omega⟩
theorem in1056 {x : Nat} (h : x < 1056) : inb (nI x) 1056 = true := by rw [inb_nI (by omega)]; simpa using h
theorem m33 (s : Nat) : (33 : Int32) * nI s = nI (33 * s) := pk_mul 33 s
/-- what the reference holds of v, sizes t or more -/
def CL (Q : Nat → Bool) (t v : Nat) (few most rows : Nat → Int32) : Prop := rows (33 * v + t) = nI (rn Q t v) ∧ ∃ (f : Nat) (m : Int), few (33 * v + t) = nI f ∧ (most (33 * v + t)).toInt = m ∧ VM Q t v f m
theorem CL.cg {Q : Nat → Bool} {t v : Nat} {few most rows few' most' rows' : Nat → Int32} (h : CL Q t v few most rows) (h1 : few' (33 * v + t) = few (33 * v + t)) (h2 : most' (33 * v + t) = most (33 * v + t)) (h3 : rows' (33 * v + t) = rows (33 * v + t)) : CL Q t v few' most' rows' := by
  unfold CL
  rw [h1, h2, h3]; exact h
theorem s_fr144 {a : Nat → Nat} {al : Nat → Int32} {N r : Nat} (hN : 200 ≤ N) (hI : IC a) (hM : KM a al 0) (hr : r ≤ 3) (K : Int32 → Int32 → (Nat → Int32) → (Nat → Int32) → (Nat → Int32) → Option ((Nat → Int32) × (Nat → Int32) × (Nat → Int32))) {s v f1 : Nat} {m1 : Int} {t2 : Int32} {few most rows : Nat → Int32} (h1 : 1 ≤ s) (h2 : s ≤ 31) (h3 : v ≤ 30) (hR : rows (33 * v + s) = nI (rn (fitN (a 0) r) (s + 1) v)) (hF : few (33 * v + s) = nI f1) (ht : t2.toInt = m1) (hV : VM (fitN (a 0) r) (s + 1) v f1 m1) (hlow : ∀ w, w < v → CL (fitN (a 0) r) s w few most rows) : ∃ few' most' rows', g_X10_findRows_144 N al (nI r) K (nI s) (nI v) (nI (33 * v + s)) (nI (33 * v + s)) t2 few most rows = K (nI s) (nI (v + 1)) few' most' rows' ∧ CL (fitN (a 0) r) s v few' most' rows' ∧ ∀ i, i ≠ 33 * v + s → few' i = few i ∧ most' i = most i ∧ rows' i = rows i := by
  unfold g_X10_findRows_144
  rw [if_pos (in1056 (by omega)), nI_clamp (by omega), z_1, ifi (show nI v ≤ 0 ↔ v ≤ 0 from e_le (b := 0) (by omega) (by decide)), ifi (e_lt (a := v) (b := s) (by omega) (by omega)), s_may (hM.at (i := 0) (by decide)) hI.1 hr (by omega) hN, Option.bind_some, if10]
  have stay : ¬ (fitN (a 0) r s = true ∧ s ≤ v) → ∃ few' most' rows', K (nI s) (nI (v + 1)) few (upd most (33 * v + s) t2) rows = K (nI s) (nI (v + 1)) few' most' rows' ∧ CL (fitN (a 0) r) s v few' most' rows' ∧ ∀ i, i ≠ 33 * v + s → few' i = few i ∧ most' i = most i ∧ rows' i = rows i := by
    intro hn
    refine ⟨_, _, _, rfl, ⟨?_, f1, m1, hF, by rw [upd_at]; exact ht, hV.same h1 h3 hn⟩, fun i hi => ⟨rfl, upd_no hi, rfl⟩⟩
    rw [hR, rn_eq h1 h3, if_neg hn]; rfl
  by_cases c1 : v ≤ 0
  · rw [if_pos c1]; exact stay (by omega)
  · rw [if_neg c1]
    by_cases c2 : v < s
    · rw [if_pos c2]; exact stay (by omega)
    · rw [if_neg c2]
      cases hq : fitN (a 0) r s with
      | false => rw [if_neg (by decide)]; rw [hq] at stay; exact stay (by simp)
      | true =>
        obtain ⟨g1, f2, m2, g2, g3, g4⟩ := hlow (v - s) (by omega)
        obtain ⟨b1, b2, b3⟩ := hV.bd (by omega) h3
        obtain ⟨d1, d2, d3⟩ := g4.bd h1 (by omega)
        have hB := hV.both h1 h3 hq (by omega) g4
        have ha := i_add1 g3 (by omega) (by omega)
        rw [if_pos rfl, z_sub (by omega), m33, nI_add, if_pos (in1056 (by omega)), if_pos (in1056 (by omega)), nI_clamp (by omega), hF, g2, z_1, ifi (e_le (by omega) (by omega)), hR, g1, nI_add]
        have k237 : ∀ u : Int32, u = nI (min f1 (f2 + 1)) → ∃ few' most' rows', g_X10_findRows_237 K (nI s) (nI v) (nI (33 * v + s)) (nI (33 * (v - s) + s)) (nI (33 * v + s)) u few (upd most (33 * v + s) t2) (upd rows (33 * v + s) (nI (rn (fitN (a 0) r) (s + 1) v + rn (fitN (a 0) r) s (v - s)))) = K (nI s) (nI (v + 1)) few' most' rows' ∧ CL (fitN (a 0) r) s v few' most' rows' ∧ ∀ i, i ≠ 33 * v + s → few' i = few i ∧ most' i = most i ∧ rows' i = rows i := by
          intro u hu
          unfold g_X10_findRows_237
          rw [if_pos (in1056 (by omega)), if_pos (in1056 (by omega)), if_pos (in1056 (by omega)), nI_clamp (by omega), nI_clamp (by omega), upd_at, upd_no (show 33 * (v - s) + s ≠ 33 * v + s by omega), z_1]
          have hRn : rn (fitN (a 0) r) (s + 1) v + rn (fitN (a 0) r) s (v - s) = rn (fitN (a 0) r) s v := by rw [rn_eq h1 h3, if_pos ⟨hq, by omega⟩]
          by_cases c : most (33 * (v - s) + s) + 1 ≤ t2
          · rw [if_pos c]
            rw [Int32.le_iff_toInt_le, ha, ht] at c
            refine ⟨_, _, _, rfl, ⟨by rw [upd_at, hRn], _, _, by rw [upd_at, hu], by rw [upd_at, ht], ?_⟩, fun i hi => ⟨upd_no hi, by rw [upd_no hi, upd_no hi], upd_no hi⟩⟩
            rw [show max m1 (m2 + 1) = m1 by omega] at hB
            exact hB
          · rw [if_neg c]
            rw [Int32.le_iff_toInt_le, ha, ht] at c
            refine ⟨_, _, _, rfl, ⟨by rw [upd_at, hRn], _, _, by rw [upd_at, hu], by rw [upd_at, ha], ?_⟩, fun i hi => ⟨upd_no hi, by rw [upd_no hi, upd_no hi], upd_no hi⟩⟩
            rw [show max m1 (m2 + 1) = m2 + 1 by omega] at hB
            exact hB
        by_cases c : f1 ≤ f2 + 1
        · rw [if_pos c]; exact k237 _ (by rw [show min f1 (f2 + 1) = f1 by omega])
        · rw [if_neg c]; exact k237 _ (by rw [show min f1 (f2 + 1) = f2 + 1 by omega])
theorem s_fr37_1 {al : Nat → Int32} {N : Nat} {r nn S V : Int32} (K : Int32 → Int32 → (Nat → Int32) → (Nat → Int32) → (Nat → Int32) → Option ((Nat → Int32) × (Nat → Int32) × (Nat → Int32))) {P : Nat} (hP : P < 1055) (few most rows : Nat → Int32) : g_X10_findRows_37 N al r nn K S V (nI P) 1 few most rows = g_X10_findRows_144 N al r K S V (nI P) (nI P) 0 (upd few P 0) most (upd rows P 1) := by
  unfold g_X10_findRows_37
  rw [if_neg (show ¬ (1 : Int32) = 0 by decide)]
  unfold g_X10_findRows_72
  rw [if_pos (in1056 (by omega)), if_neg (show ¬ (1 : Int32) = 0 by decide), nI_clamp (by omega)]
  unfold g_X10_findRows_108
  rw [if_pos (in1056 (by omega)), if_neg (show ¬ (1 : Int32) = 0 by decide), nI_clamp (by omega)]
theorem s_fr37_a {al : Nat → Int32} {N s n : Nat} {r V : Int32} (hs : s ≤ n) (hn : n ≤ 30) (K : Int32 → Int32 → (Nat → Int32) → (Nat → Int32) → (Nat → Int32) → Option ((Nat → Int32) × (Nat → Int32) × (Nat → Int32))) {P : Nat} (hP : P < 1055) (few most rows : Nat → Int32) : g_X10_findRows_37 N al r (nI n) K (nI s) V (nI P) 0 few most rows = g_X10_findRows_144 N al r K (nI s) V (nI P) (nI P) (most (P + 1)) (upd few P (few (P + 1))) most (upd rows P (rows (P + 1))) := by
  have hle : nI s ≤ nI n := nI_le hs (by omega)
  unfold g_X10_findRows_37
  rw [if_pos (show (0 : Int32) = 0 from rfl), if_pos hle, z_1, if_pos (in1056 (by omega)), nI_clamp (by omega)]
  unfold g_X10_findRows_72
  rw [if_pos (in1056 (by omega)), if_pos (show (0 : Int32) = 0 from rfl), if_pos hle, z_1, if_pos (in1056 (by omega)), nI_clamp (by omega), nI_clamp (by omega)]
  unfold g_X10_findRows_108
  rw [if_pos (in1056 (by omega)), if_pos (show (0 : Int32) = 0 from rfl), if_pos hle, z_1, if_pos (in1056 (by omega)), nI_clamp (by omega), nI_clamp (by omega)]
theorem s_fr37_b {al : Nat → Int32} {N s n : Nat} {r V : Int32} (hs : ¬ s ≤ n) (hn : n ≤ 30) (hs2 : s ≤ 31) (K : Int32 → Int32 → (Nat → Int32) → (Nat → Int32) → (Nat → Int32) → Option ((Nat → Int32) × (Nat → Int32) × (Nat → Int32))) {P : Nat} (hP : P < 1055) (few most rows : Nat → Int32) : g_X10_findRows_37 N al r (nI n) K (nI s) V (nI P) 0 few most rows = g_X10_findRows_144 N al r K (nI s) V (nI P) (nI P) (-9999) (upd few P 9999) most (upd rows P 0) := by
  have hle : ¬ nI s ≤ nI n := fun h => hs ((e_le (by omega) (by omega)).mp h)
  unfold g_X10_findRows_37
  rw [if_pos (show (0 : Int32) = 0 from rfl), if_neg hle]
  unfold g_X10_findRows_72
  rw [if_pos (in1056 (by omega)), if_pos (show (0 : Int32) = 0 from rfl), if_neg hle, nI_clamp (by omega)]
  unfold g_X10_findRows_108
  rw [if_pos (in1056 (by omega)), if_pos (show (0 : Int32) = 0 from rfl), if_neg hle, nI_clamp (by omega)]
theorem s_fr12 {a : Nat → Nat} {al : Nat → Int32} {N r nn : Nat} (hN : 200 ≤ N) (hI : IC a) (hM : KM a al 0) (hr : r ≤ 3) (hn : nn ≤ 30) (K : Int32 → (Nat → Int32) → (Nat → Int32) → (Nat → Int32) → Option ((Nat → Int32) × (Nat → Int32) × (Nat → Int32))) {s : Nat} (h1 : 1 ≤ s) (h2 : s ≤ nn + 1) : ∀ (m v n : Nat) (few most rows : Nat → Int32), v + m = nn + 1 → m < n → (∀ t w, s < t → t ≤ nn + 1 → w ≤ nn → CL (fitN (a 0) r) t w few most rows) → (∀ w, w < v → CL (fitN (a 0) r) s w few most rows) → ∃ few' most' rows', g_X10_findRows_12 N al (nI r) (nI nn) K n (nI s) (nI v) few most rows = K (nI (s - 1)) few' most' rows' ∧ ∀ t w, s ≤ t → t ≤ nn + 1 → w ≤ nn → CL (fitN (a 0) r) t w few' most' rows' := by
  intro m
  induction m with
  | zero =>
    intro v n few most rows e1 e2 hT hw
    obtain ⟨n, rfl⟩ : ∃ z, n = z + 1 := ⟨n - 1, by omega⟩
    refine ⟨few, most, rows, by rw [g_X10_findRows_12, if_pos (nI_lt (by omega) (by omega)), show s = s - 1 + 1 by omega, pk_m1]; rfl, fun t w a1 a2 a3 => ?_⟩
    rcases Nat.eq_or_lt_of_le a1 with e | e
    · subst e; exact hw w (by omega)
    · exact hT t w e a2 a3
  | succ m ih =>
    intro v n few most rows e1 e2 hT hw
    obtain ⟨n, rfl⟩ : ∃ z, n = z + 1 := ⟨n - 1, by omega⟩
    have fin : ∀ (u1 u2 t2 : Int32) (f1 : Nat) (m1 : Int), u1 = nI (rn (fitN (a 0) r) (s + 1) v) → u2 = nI f1 → t2.toInt = m1 → VM (fitN (a 0) r) (s + 1) v f1 m1 → ∃ few' most' rows', g_X10_findRows_144 N al (nI r) (g_X10_findRows_12 N al (nI r) (nI nn) K n) (nI s) (nI v) (nI (33 * v + s)) (nI (33 * v + s)) t2 (upd few (33 * v + s) u2) most (upd rows (33 * v + s) u1) = K (nI (s - 1)) few' most' rows' ∧ ∀ t w, s ≤ t → t ≤ nn + 1 → w ≤ nn → CL (fitN (a 0) r) t w few' most' rows' := by
      intro u1 u2 t2 f1 m1 k1 k2 k3 k4
      obtain ⟨few1, most1, rows1, c1, c2, c3⟩ := s_fr144 hN hI hM hr (g_X10_findRows_12 N al (nI r) (nI nn) K n) (few := upd few (33 * v + s) u2) (most := most) (rows := upd rows (33 * v + s) u1) h1 (by omega) (by omega) (by rw [upd_at]; exact k1) (by rw [upd_at]; exact k2) k3 k4 (fun w hw' => (hw w hw').cg (upd_no (by omega)) rfl (upd_no (by omega)))
      obtain ⟨few', most', rows', d1, d2⟩ := ih (v + 1) n few1 most1 rows1 (by omega) (by omega) (fun t w a1 a2 a3 => (hT t w a1 a2 a3).cg (by rw [(c3 _ (by omega)).1, upd_no (by omega)]) (c3 _ (by omega)).2.1 (by rw [(c3 _ (by omega)).2.2, upd_no (by omega)])) (fun w hw' => by
        rcases (show w = v ∨ w < v by omega) with rfl | h
        · exact c2
        · exact (hw w h).cg (by rw [(c3 _ (by omega)).1, upd_no (by omega)]) (c3 _ (by omega)).2.1 (by rw [(c3 _ (by omega)).2.2, upd_no (by omega)]))
      exact ⟨few', most', rows', c1.trans d1, d2⟩
    rw [g_X10_findRows_12, if_neg (fun h => absurd ((e_lt (by omega) (by omega)).mp h) (by omega)), ifi (e_eq0 (a := v) (by omega)), m33, nI_add]
    by_cases e : v = 0
    · subst e
      rw [if_pos rfl, s_fr37_1 _ (by omega)]
      exact fin 1 0 0 0 0 (by rw [rn_0]; rfl) rfl rfl (VM.zero _ _ (by omega))
    · rw [if_neg e]
      by_cases c : s ≤ nn
      · obtain ⟨g1, f1, m1, g2, g3, g4⟩ := hT (s + 1) v (by omega) (by omega) (by omega)
        rw [s_fr37_a c hn _ (by omega)]
        exact fin _ _ _ f1 m1 g1 g2 g3 g4
      · rw [s_fr37_b c hn (by omega) _ (by omega)]
        exact fin 0 9999 (-9999) 9999 (-9999) (by rw [rn_no (by omega) (by omega)]; rfl) rfl rfl (VM.none (by omega) (by omega))
theorem s_fr4 {a : Nat → Nat} {al : Nat → Int32} {N r nn : Nat} (hN : 200 ≤ N) (hI : IC a) (hM : KM a al 0) (hr : r ≤ 3) (hn : nn ≤ 30) : ∀ (s n : Nat) (few most rows : Nat → Int32), s ≤ nn + 1 → s < n → (∀ t w, s < t → t ≤ nn + 1 → w ≤ nn → CL (fitN (a 0) r) t w few most rows) → ∃ few' most' rows', g_X10_findRows_4 N al (nI r) (nI nn) n (nI s) few most rows = some (few', most', rows') ∧ ∀ t w, 1 ≤ t → t ≤ nn + 1 → w ≤ nn → CL (fitN (a 0) r) t w few' most' rows' := by
  intro s
  induction s with
  | zero =>
    intro n few most rows e1 e2 hT
    obtain ⟨n, rfl⟩ : ∃ z, n = z + 1 := ⟨n - 1, by omega⟩
    exact ⟨few, most, rows, by rw [g_X10_findRows_4, if_pos (by decide)], fun t w a1 a2 a3 => hT t w (by omega) a2 a3⟩
  | succ s ih =>
    intro n few most rows e1 e2 hT
    obtain ⟨n, rfl⟩ : ∃ z, n = z + 1 := ⟨n - 1, by omega⟩
    obtain ⟨few1, most1, rows1, c1, c2⟩ := s_fr12 hN hI hM hr hn (g_X10_findRows_4 N al (nI r) (nI nn) n) (s := s + 1) (by omega) e1 (nn + 1) 0 N few most rows (by omega) (by omega) hT (fun w hw => absurd hw (by omega))
    obtain ⟨few', most', rows', d1, d2⟩ := ih n few1 most1 rows1 (by omega) (by omega) (fun t w a1 a2 a3 => c2 t w (by omega) a2 a3)
    refine ⟨few', most', rows', ?_, d2⟩
    rw [g_X10_findRows_4, if_neg (show ¬ nI (s + 1) < 1 from fun h => absurd ((e_lt (b := 1) (by omega) (by decide)).mp h) (by omega))]
    exact c1.trans d1
theorem s_findRows {a : Nat → Nat} {al : Nat → Int32} {N r nn : Nat} (hN : 200 ≤ N) (hI : IC a) (hM : KM a al 0) (hr : r ≤ 3) (hn : nn ≤ 30) (few most rows : Nat → Int32) : ∃ few' most' rows', g_X10_findRows N al few most rows (nI r) (nI nn) = some (few', most', rows') ∧ ∀ t w, 1 ≤ t → t ≤ nn + 1 → w ≤ nn → CL (fitN (a 0) r) t w few' most' rows' := by
  unfold g_X10_findRows
  rw [z_1]
  exact s_fr4 hN hI hM hr hn (nn + 1) N few most rows (Nat.le_refl _) (by omega) (fun t w a1 a2 a3 => absurd a1 (by omega))
theorem wi30 {n : Nat} (h : n ≤ 30) : wi (nI n) 0 30 = true := by
  rw [show wi (nI n) 0 30 = (decide (0 ≤ n) && decide (n ≤ 30)) from wi_of (lo := 0) (hi := 30) (by omega) (by decide) (by decide)]; simp; omega
set_option maxHeartbeats 1000000 in
theorem op_parted {WI : q_WI} {N : Nat} (hN : 200 ≤ N) : Op_parted N (Rel WI) := by
  intro cx cf key ms y1 y2 y3 hR
  unfold g_X9_parted g_X10_parted
  have hrf : ∀ x : Int32, g_X9_refuse (cf 36) (-2) x = some (x, rfd (cf 36) 0) := fun x => rfl
  rw [s_isRule, s_isRuleM, Option.bind_some, Option.bind_some, if10, if10]
  by_cases hv : wi y1 0 3 = true
  · rw [if_pos hv, if_pos hv, s_isWithin, s_in, Option.bind_some, Option.bind_some, if10, if10]
    by_cases hw : wi y2 0 30 = true
    · rw [if_pos hw, if_pos hw, s_isWithin, s_in, Option.bind_some, Option.bind_some, if10, if10]
      by_cases hz : wi y3 0 2 = true
      · rw [if_pos hz, if_pos hz]
        obtain ⟨r, -, hr, rfl⟩ := wi_nI (lo := 0) (hi := 3) (by decide) (by decide) hv
        obtain ⟨n, -, hn, rfl⟩ := wi_nI (lo := 0) (hi := 30) (by decide) (by decide) hw
        obtain ⟨k, -, hk, rfl⟩ := wi_nI (lo := 0) (hi := 2) (by decide) (by decide) hz
        obtain ⟨⟨a, hI, hX, hM⟩, -⟩ := id hR
        obtain ⟨i1, i2, i3, i4, i5, i6, i7, i8, i9, i10⟩ := hI
        obtain ⟨x1, ⟨x2, x3⟩, ⟨x4, x5, x6, x7⟩, x8, x9, ⟨x10, x11⟩, x12, x13⟩ := hX
        obtain ⟨j0, j1, j2, j3, j4, j5, j6⟩ := id i1
        rw [show cx 0 = nI (a 0) from x1.1.1]
        obtain ⟨fits', few', most', num', q1, q2, q3, q4⟩ := s_fill hN i1 hr (cf 38) (cf 40) (cf 39) (cf 37)
        obtain ⟨fewM, mostM, rowsM, r1, r2⟩ := s_findRows hN i1 hM hr hn (cf 78) (cf 79) (cf 77)
        obtain ⟨d1, f, m, d2, d3, d4⟩ := r2 1 n (by omega) (by omega) (Nat.le_refl _)
        have hlt := rn_lt (Q := fitN (a 0) r) (s := 1) (v := n) (by omega) hn
        have hc := q4 n (by omega)
        have hpos := rnpt (Q := fitN (a 0) r) (s := 1) (v := n) (by omega) hn
        rw [q1, Option.bind_some, r1, Option.bind_some, m33, show nI (33 * n) + 1 = nI (33 * n + 1) from nI_add _ 1, if_pos (in1056 (by omega)), if_pos (in1056 (by omega)), nI_clamp (by omega)]
        dsimp only
        unfold g_X4_number g_X4_fewest g_X4_most
        rw [s_isWithin, Option.bind_some, if10, if_pos (wi30 hn), Option.bind_some, if10, if_pos (wi30 hn), if_pos (in31 (by omega)), if_pos (in31 (by omega)), nI_clamp (by omega), show g_X4_numberFrom num' 1 (nI n) = some (nI (rn (fitN (a 0) r) 1 n)) from s_numFrom q3 (s := 1) (by omega) (by omega) hn, Option.bind_some, ifi (show rowsM (33 * n + 1) = 0 ↔ rn (fitN (a 0) r) 1 n = 0 from by rw [d1]; exact e_eq0 hlt)]
        rcases (show k = 0 ∨ k = 1 ∨ k = 2 by omega) with rfl | rfl | rfl
        · rw [if_pos (show nI 0 = 0 from rfl), if_pos (show nI 0 = 0 from rfl)]
          exact ⟨_, _, rfl, rfl, d1.symm, Rel_ext hR rfl rfl⟩
        · rw [if_neg (show ¬ nI 1 = 0 by decide), if_pos (show nI 1 = 1 from rfl), if_neg (show ¬ nI 1 = 0 by decide), if_pos (show nI 1 = 1 from rfl)]
          by_cases h : rn (fitN (a 0) r) 1 n = 0
          · rw [if_pos h]
            rcases hc with ⟨h1, h2, h3⟩ | ⟨f', m', h1, h2, h3, h4, h5, h6, h7, h8⟩
            · exact ⟨_, _, rfl, rfl, h1, Rel_ext hR rfl rfl⟩
            · have := hpos.mpr ⟨f', cp_pt _ _ h5⟩; omega
          · rw [if_neg h]
            obtain ⟨g1, g2, g3, g4, g5⟩ := d4.2 (by omega)
            rcases hc with ⟨h1, h2, h3⟩ | ⟨f', m', h1, h2, h3, h4, h5, h6, h7, h8⟩
            · exact absurd (pt_cp _ 1 _ (by omega) g1) (h3 f)
            · have e1 := h6 f (pt_cp _ 1 _ (by omega) g1)
              have e2 := g2 f' (cp_pt _ _ h5)
              have e3 : f = f' := by omega
              exact ⟨_, _, rfl, rfl, h1.trans (by rw [← e3]; exact d2.symm), Rel_ext hR rfl rfl⟩
        · rw [if_neg (show ¬ nI 2 = 0 by decide), if_neg (show ¬ nI 2 = 1 by decide), if_neg (show ¬ nI 2 = 0 by decide), if_neg (show ¬ nI 2 = 1 by decide)]
          by_cases h : rn (fitN (a 0) r) 1 n = 0
          · rw [if_pos h]
            rcases hc with ⟨h1, h2, h3⟩ | ⟨f', m', h1, h2, h3, h4, h5, h6, h7, h8⟩
            · exact ⟨_, _, rfl, rfl, h2, Rel_ext hR rfl rfl⟩
            · have := hpos.mpr ⟨f', cp_pt _ _ h5⟩; omega
          · rw [if_neg h]
            obtain ⟨g1, g2, g3, g4, g5⟩ := d4.2 (by omega)
            rcases hc with ⟨h1, h2, h3⟩ | ⟨f', m', h1, h2, h3, h4, h5, h6, h7, h8⟩
            · exact absurd (pt_cp _ 1 _ (by omega) g1) (h3 f)
            · have e1 := h8 m.toNat (pt_cp _ 1 _ (by omega) g4)
              have e2 := g5 m' (cp_pt _ _ h7)
              refine ⟨_, _, rfl, rfl, h2.trans ?_, Rel_ext hR rfl rfl⟩
              apply Int32.toInt_inj.mp
              rw [nI_toInt (by omega)]
              show _ = (mostM (33 * n + 1)).toInt
              rw [d3]; omega
      · rw [if_neg hz, if_neg hz, s_refAB, hrf]
        exact ⟨_, _, rfl, rfl, rfl, Rel_ext (Rel_rfd 0 hR) rfl rfl⟩
    · rw [if_neg hw, if_neg hw, s_refAB, hrf]
      exact ⟨_, _, rfl, rfl, rfl, Rel_ext (Rel_rfd 0 hR) rfl rfl⟩
  · rw [if_neg hv, if_neg hv, s_refAB, hrf]
    exact ⟨_, _, rfl, rfl, rfl, Rel_ext (Rel_rfd 0 hR) rfl rfl⟩
