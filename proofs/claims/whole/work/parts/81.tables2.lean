/-! tables: the rounds, the answer -/
theorem s_t93 {a : Nat → Nat} {al rf : Nat → Int32} {N r t s F nn : Nat} {sz : Nat → Nat} {seated : Nat → Int32} (hN : 3000 ≤ N) (hI : IC a) (hM : KM a al 0) (hr : r ≤ 3) (ht : t < 100) (hs : s ≤ 12) (hF13 : F ≤ 13) (hn : nn ≤ 24) (hZ : SZ (fitN (a 0) r) s F sz) (hSE : SE F (nB t F) (nC t F) sz (F * nB t F * nC t F) seated) (X5 : Int32) : ∀ (d g n1 n2 : Nat) (B : Nat → Nat) (stC stM : Nat → Int32), g + d = nn → d < n1 → d < n2 → TJ (fitN (a 0) r) t s g B → VS F (nB t F) (nC t F) (fun i j k => cv (B (g13 (sz i) (sz j) (sz k)))) stC → (∀ q, q < 2197 → stM q = nI (B q)) → ∃ (B' : Nat → Nat) (b : Nat) (stC' stM' : Nat → Int32), g_X5_fewestStood_34 N (nI F) (nI (nB t F)) (nI (nC t F)) (nI (F * nB t F * nC t F)) seated (nI nn) n1 (nI (g + 1)) stC = some (nI b, stC') ∧ g_X10_tables_93 N al (nI r) (nI t) (nI s) (nI nn) X5 n2 (nI (g + 1)) rf stM = g_X10_tables_228 (nI nn) X5 N 9999 0 0 rf stM' ∧ TJ (fitN (a 0) r) t s nn B' ∧ (∀ q, q < 2197 → stM' q = nI (B' q)) ∧ b ≤ 1000000 ∧ (∀ i j k, i < F → j < nB t F → k < nC t F → b ≤ cv (B' (g13 (sz i) (sz j) (sz k)))) ∧ (b = 1000000 ∨ ∃ i j k, i < F ∧ j < nB t F ∧ k < nC t F ∧ b = cv (B' (g13 (sz i) (sz j) (sz k)))) := by
  have hBF : nB t F ≤ 13 := by unfold nB; split <;> omega
  have hCF : nC t F ≤ 13 := by unfold nC; split <;> omega
  have habc := abc_le hF13 hBF hCF
  intro d
  induction d with
  | zero =>
    intro g n1 n2 B stC stM e1 e2 e3 hJ hC hMm
    obtain ⟨n1, rfl⟩ : ∃ z, n1 = z + 1 := ⟨n1 - 1, by omega⟩
    obtain ⟨n2, rfl⟩ : ∃ z, n2 = z + 1 := ⟨n2 - 1, by omega⟩
    have hcvb : ∀ x y z, cv (B (g13 (sz x) (sz y) (sz z))) ≤ 1500000 := fun x y z => by
      have := hJ.1 (g13 (sz x) (sz y) (sz z))
      unfold cv; split <;> omega
    obtain ⟨b, b1, b2, b3, b4⟩ := s_min59 (f := fun i j k => cv (B (g13 (sz i) (sz j) (sz k)))) hF13 hBF hCF hcvb hC (F * nB t F * nC t F) 0 N 1000000 (by omega) (by omega) (Nat.le_refl _) (fun i j k _ _ _ hm => absurd hm (Nat.not_lt_zero _)) (Or.inl rfl)
    have eg : g = nn := by omega
    rw [eg] at hJ
    refine ⟨B, b, stC, stM, ?_, ?_, hJ, hMm, b2, b3, b4⟩
    · rw [g_X5_fewestStood_34, if_pos (nI_lt (by omega) (by omega))]; exact b1
    · rw [g_X10_tables_93, if_pos (nI_lt (by omega) (by omega))]
  | succ d ih =>
    intro g n1 n2 B stC stM e1 e2 e3 hJ hC hMm
    obtain ⟨n1, rfl⟩ : ∃ z, n1 = z + 1 := ⟨n1 - 1, by omega⟩
    obtain ⟨n2, rfl⟩ : ∃ z, n2 = z + 1 := ⟨n2 - 1, by omega⟩
    have hcvb : ∀ x y z, cv (B (g13 (sz x) (sz y) (sz z))) ≤ 1500000 := fun x y z => by
      have := hJ.1 (g13 (sz x) (sz y) (sz z))
      unfold cv; split <;> omega
    -- class
    obtain ⟨st1, c1, c2⟩ := s_sitDown (N := N) (f := fun i j k => cv (B (g13 (sz i) (sz j) (sz k)))) (by omega) hF13 hBF hCF hcvb hC
    have hsl : ∀ i j k, i < F → j < nB t F → k < nC t F → sz i + sz j + sz k ≤ 36 := fun i j k hi hj hk => by
      obtain ⟨-, -, h1, h2⟩ := seat_in hZ hs hi hj hk
      have l1 := hZ.le hi
      have l2 := hZ.le h1
      have l3 := hZ.le h2
      omega
    obtain ⟨st2, d1, d2⟩ := s_count (g := g + 1) (f := fun i j k => cv (B (g13 (sz i) (sz j) (sz k)))) hF13 hBF hCF hcvb (by omega) (fun i _ => by
      rcases Nat.lt_or_ge i F with z | z
      · have := hZ.le z; left; omega
      · exact Or.inr z) hsl hSE (F * nB t F * nC t F) 0 N st1 (by omega) (by omega) (fun i j k hi hj hk => ⟨fun _ => c2 i j k hi hj hk, fun hh => absurd hh (Nat.not_lt_zero _)⟩)
    -- reference
    obtain ⟨m1, G1, f1, f2⟩ := s_sink (S := 1) (F := B) hN (by omega) (by omega) hJ.1 hMm
    obtain ⟨G1', hG1'⟩ : ∃ G1' : Nat → Nat, G1' = fun q => if q < 2197 then G1 q else 0 := ⟨_, rfl⟩
    have hq1 : ∀ q, q < 2197 → G1' q = G1 q := fun q hq => by rw [hG1']; exact if_pos hq
    obtain ⟨m2, G2, p1, p2⟩ := s_sink (S := 13) (F := G1') (st := m1) hN (by omega) (by omega) (fun q => by
      rw [hG1']
      show (if q < 2197 then G1 q else 0) ≤ 9999
      split
      · next h => exact (f2 q h).2.1
      · omega) (fun q hq => by rw [hq1 q hq]; exact (f2 q hq).1)
    obtain ⟨G2', hG2'⟩ : ∃ G2' : Nat → Nat, G2' = fun q => if q < 2197 then G2 q else 0 := ⟨_, rfl⟩
    have hq2 : ∀ q, q < 2197 → G2' q = G2 q := fun q hq => by rw [hG2']; exact if_pos hq
    obtain ⟨m3, G3, r1, r2⟩ := s_sink (S := 169) (F := G2') (st := m2) hN (by omega) (by omega) (fun q => by
      rw [hG2']
      show (if q < 2197 then G2 q else 0) ≤ 9999
      split
      · next h => exact (p2 q h).2.1
      · omega) (fun q hq => by rw [hq2 q hq]; exact (p2 q hq).1)
    have hPM : ∀ x y z, x < 13 → y < 13 → z < 13 → PM (fun x y z => B (g13 x y z)) x y z (G3 (g13 x y z)) := fun x y z hx hy hz => sink3 (F := B) (G1 := G1) (G2 := G2) (G3 := G3) (fun q hq => (f2 q hq).2.2) (fun q hq => by
      have := (p2 q hq).2.2
      rw [hq1 q hq] at this
      exact this) (fun q hq => by
      have := (r2 q hq).2.2
      rw [hq2 q hq] at this
      exact this) hx hy hz
    have hcell : ∀ q, q < 2197 → q = g13 (q / 169) (q / 13 % 13) (q % 13) := fun q hq => by unfold g13; omega
    have hnB : 0 < nB t F := by have := hZ.1; unfold nB; split <;> omega
    have hnC : 0 < nC t F := by have := hZ.1; unfold nC; split <;> omega
    have hG0 : ∀ q, q < 2197 → G3 q ≤ 24 * g := fun q hq => by
      obtain ⟨s0, s1, -, -⟩ := seat_in (t := t) (i := 0) (j := 0) (k := 0) hZ hs hZ.1 hnB hnC
      rw [hZ.2.1] at s0 s1
      have hz := hJ.2.2 (g13 0 0 0) (by decide) s0 (by rw [s1]; omega)
      have hzb := (hJ.2.1 _ hz).2.2.2
      have h1 := hPM (q / 169) (q / 13 % 13) (q % 13) (by omega) (by omega) (by omega)
      rw [← hcell q hq] at h1
      have h2 : G3 q ≤ B (g13 0 0 0) := h1.1 0 0 0 (Nat.zero_le _) (Nat.zero_le _) (Nat.zero_le _)
      omega
    obtain ⟨m4, u1, u2⟩ := s_t121 (t := t) (s := s) (g := g + 1) (F := G3) (rf := rf) (N := N) (by omega) hI hM hr ht (by omega) (by omega) (fun q hq => by have := hG0 q hq; omega) (g_X10_tables_93 N al (nI r) (nI t) (nI s) (nI nn) X5 n2) 2197 0 N m3 (by omega) (by omega) (fun q hq => absurd hq (Nat.not_lt_zero _)) (fun q _ hq => (r2 q hq).1)
    have hJ' := hJ.next (G := G3) (by omega) (fun q hq _ => hG0 q hq)
    have hVS : VS F (nB t F) (nC t F) (fun i j k => cv (BN (fitN (a 0) r) t s (g + 1) G3 (g13 (sz i) (sz j) (sz k)))) st2 := by
      intro i j k hi hj hk
      obtain ⟨v, v1, v2⟩ := d2 i j k hi hj hk
      obtain ⟨k1, k2, k3, k4⟩ := seat_in hZ hs hi hj hk
      have l1 := hZ.le hi
      have l2 := hZ.le k3
      have l3 := hZ.le k4
      obtain ⟨e5, e6⟩ := PM_same hZ hs hJ hi hj hk v1 (hPM (sz i) (sz j) (sz k) (by omega) (by omega) (by omega))
      rw [v2]
      show _ = nI (cv (BN (fitN (a 0) r) t s (g + 1) G3 (g13 (sz i) (sz j) (sz k))))
      unfold BN
      rw [k2, k1, e5]
      congr 1
      by_cases c : sz i + sz j + sz k ≤ g + 1
      · rw [if_pos c, if_pos ⟨g13_lt (by omega) (by omega) (by omega), rfl, c⟩]
        unfold cv
        rw [if_neg (by omega)]
      · rw [if_neg c, if_neg (fun hh => c hh.2.2)]
        rfl
    obtain ⟨B', b, stC', stM', x1, x2, x3⟩ := ih (g + 1) n1 n2 _ st2 m4 (by omega) (by omega) (by omega) hJ' hVS u2
    refine ⟨B', b, stC', stM', ?_, ?_, x3⟩
    · unfold g_X5_fewestStood_34 g_X5_countStanding
      rw [if_neg (fun h => absurd ((e_lt (by omega) (by omega)).mp h) (by omega)), c1, Option.bind_some, show g_X5_countStanding_2 (nI (F * nB t F * nC t F)) seated (nI (g + 1)) N 0 st1 = some st2 from d1, Option.bind_some, z_1]
      exact x1
    · rw [g_X10_tables_93, if_neg (fun h => absurd ((e_lt (by omega) (by omega)).mp h) (by omega)), show g_X10_sink N stM 1 = some m1 from f1, Option.bind_some, show g_X10_sink N m1 13 = some m2 from p1, Option.bind_some, show g_X10_sink N m2 169 = some m3 from r1, Option.bind_some]
      exact u1.trans x2
def B0 (q : Nat) : Nat := if q = 0 then 0 else 9999
theorem s_t57 {al rf : Nat → Int32} {N : Nat} {r t s n x5 : Int32} : ∀ (d m fu : Nat) (st : Nat → Int32), m + d = 2197 → d < fu → (∀ q, q < m → st q = nI (B0 q)) → ∃ st', g_X10_tables_57 N al r t s n x5 fu (nI m) rf st = g_X10_tables_93 N al r t s n x5 N 1 rf st' ∧ ∀ q, q < 2197 → st' q = nI (B0 q) := by
  intro d
  induction d with
  | zero =>
    intro m fu st e1 e2 h
    obtain ⟨fu, rfl⟩ : ∃ z, fu = z + 1 := ⟨fu - 1, by omega⟩
    exact ⟨st, by rw [g_X10_tables_57, if_pos (show 2197 ≤ nI m from nI_le (a := 2197) (by omega) (by omega))], fun q hq => h q (by omega)⟩
  | succ d ih =>
    intro m fu st e1 e2 h
    obtain ⟨fu, rfl⟩ : ∃ z, fu = z + 1 := ⟨fu - 1, by omega⟩
    have go : ∀ u : Int32, u = nI (B0 m) → ∃ st', g_X10_tables_57 N al r t s n x5 fu (nI (m + 1)) rf (upd st m u) = g_X10_tables_93 N al r t s n x5 N 1 rf st' ∧ ∀ q, q < 2197 → st' q = nI (B0 q) := by
      intro u hu
      refine ih (m + 1) fu _ (by omega) (by omega) (fun q hq => ?_)
      by_cases e : q = m
      · rw [e, upd_at, hu]
      · rw [upd_no e]; exact h q (by omega)
    rw [g_X10_tables_57, if_neg (show ¬ 2197 ≤ nI m from fun h => absurd ((e_le (a := 2197) (by decide) (by omega)).mp h) (by omega)), ifi (e_eq0 (a := m) (by omega)), if_pos (in2197 (by omega)), nI_clamp (by omega), z_1]
    by_cases c : m = 0
    · rw [if_pos c]; exact go 0 (by unfold B0; rw [if_pos c]; rfl)
    · rw [if_neg c, if_pos (in2197 (by omega))]; exact go 9999 (by unfold B0; rw [if_neg c]; rfl)
theorem s_fs2 {A B C N : Nat} {seated : Nat → Int32} {x1 : Int32} (habc : A * B * C ≤ 2197) : ∀ (d m fu : Nat) (st : Nat → Int32), m + d = A * B * C → d < fu → (∀ q, q < m → st q = nI (cv (B0 q))) → ∃ st', g_X5_fewestStood_2 N (nI A) (nI B) (nI C) (nI (A * B * C)) seated x1 fu (nI m) st = g_X5_fewestStood_34 N (nI A) (nI B) (nI C) (nI (A * B * C)) seated x1 N 1 st' ∧ ∀ q, q < A * B * C → st' q = nI (cv (B0 q)) := by
  intro d
  induction d with
  | zero =>
    intro m fu st e1 e2 h
    obtain ⟨fu, rfl⟩ : ∃ z, fu = z + 1 := ⟨fu - 1, by omega⟩
    exact ⟨st, by rw [g_X5_fewestStood_2, if_pos (nI_le (by omega) (by omega))], fun q hq => h q (by omega)⟩
  | succ d ih =>
    intro m fu st e1 e2 h
    obtain ⟨fu, rfl⟩ : ∃ z, fu = z + 1 := ⟨fu - 1, by omega⟩
    have go : ∀ u : Int32, u = nI (cv (B0 m)) → ∃ st', g_X5_fewestStood_2 N (nI A) (nI B) (nI C) (nI (A * B * C)) seated x1 fu (nI (m + 1)) (upd st m u) = g_X5_fewestStood_34 N (nI A) (nI B) (nI C) (nI (A * B * C)) seated x1 N 1 st' ∧ ∀ q, q < A * B * C → st' q = nI (cv (B0 q)) := by
      intro u hu
      refine ih (m + 1) fu _ (by omega) (by omega) (fun q hq => ?_)
      by_cases e : q = m
      · rw [e, upd_at, hu]
      · rw [upd_no e]; exact h q (by omega)
    rw [g_X5_fewestStood_2, if_neg (fun h => absurd ((e_le (by omega) (by omega)).mp h) (by omega)), ifi (e_eq0 (a := m) (by omega)), if_pos (in2197 (by omega)), nI_clamp (by omega), z_1]
    by_cases c : m = 0
    · rw [if_pos c]; exact go 0 (by unfold B0; rw [if_pos c]; rfl)
    · rw [if_neg c, if_pos (in2197 (by omega))]; exact go 1000000 (by unfold B0; rw [if_neg c]; rfl)
/-- the relation with what a lay leaves alone -/
def RelT : q_Rel := fun cx cf key ms => Rel WIc cx cf key ms ∧ cf 53 0 = 0
set_option maxHeartbeats 4000000 in
theorem op_tables {N : Nat} (hN : 3000 ≤ N) : Op_tables N RelT := by
  intro cx cf key ms y1 y2 y3 y4 y5 hRT
  obtain ⟨hR, h53⟩ := hRT
  unfold g_X9_tables g_X10_tables g_X9_tables_30 g_X9_tables_31
  rw [s_isRule, s_isRuleM, Option.bind_some, Option.bind_some, if10, if10, if_pos (show (0 : Int32) = 0 from rfl), if_neg (show ¬ (1 : Int32) = 0 by decide)]
  by_cases hv : wi y1 0 3 = true
  · rw [if_pos hv, if_pos hv, s_isWithin, s_in, Option.bind_some, Option.bind_some, if10, if10]
    by_cases hw : wi y2 1 3 = true
    · rw [if_pos hw, if_pos hw, s_isWithin, s_in, Option.bind_some, Option.bind_some, if10, if10]
      by_cases h3 : wi y3 1 12 = true
      · rw [if_pos h3, if_pos h3, s_isWithin, s_in, Option.bind_some, Option.bind_some, if10, if10]
        by_cases h4 : wi y4 0 24 = true
        · rw [if_pos h4, if_pos h4, s_isWithin, s_in, Option.bind_some, Option.bind_some, if10, if10]
          by_cases h5 : wi y5 0 1 = true
          · rw [if_pos h5, if_pos h5]
            obtain ⟨r, -, hr, rfl⟩ := wi_nI (lo := 0) (hi := 3) (by decide) (by decide) hv
            obtain ⟨t, -, ht, rfl⟩ := wi_nI (lo := 1) (hi := 3) (by decide) (by decide) hw
            obtain ⟨s, -, hs, rfl⟩ := wi_nI (lo := 1) (hi := 12) (by decide) (by decide) h3
            obtain ⟨nn, -, hn, rfl⟩ := wi_nI (lo := 0) (hi := 24) (by decide) (by decide) h4
            obtain ⟨w, -, hwh, rfl⟩ := wi_nI (lo := 0) (hi := 1) (by decide) (by decide) h5
            obtain ⟨⟨a, hI, hX, hM⟩, -⟩ := id hR
            obtain ⟨i1, i2, i3, i4, i5, i6, i7, i8, i9, i10⟩ := hI
            obtain ⟨x1, ⟨x2, x3⟩, ⟨x4, x5, x6, x7⟩, x8, x9, ⟨x10, x11⟩, x12, x13⟩ := hX
            obtain ⟨j0, j1, j2, j3, j4, j5, j6⟩ := id i1
            rw [show cx 0 = nI (a 0) from x1.1.1]
            obtain ⟨F, sz, sizes', seated, l1, l2, l3, l4, l5⟩ := s_lay (N := N) (t := t) (s := s) (by omega) i1 hr (by omega) hs (cx 64) (cx 66) (cx 65) (cf 54) (cf 53) h53
            have hBF : nB t F ≤ 13 := by unfold nB; split <;> omega
            have hCF : nC t F ≤ 13 := by unfold nC; split <;> omega
            have habc := abc_le l4 hBF hCF
            have hnB : 0 < nB t F := by have := l3.1; unfold nB; split <;> omega
            have hnC : 0 < nC t F := by have := l3.1; unfold nC; split <;> omega
            obtain ⟨stM, t1, t2⟩ := s_t57 (al := cf 65) (rf := cf 67) (N := N) (r := nI r) (t := nI t) (s := nI s) (n := nI nn) (x5 := nI w) 2197 0 N (cf 86) (by omega) (by omega) (fun q hq => absurd hq (Nat.not_lt_zero _))
            obtain ⟨stC, t3, t4⟩ := s_fs2 (N := N) (seated := seated) (x1 := nI nn) habc (F * nB t F * nC t F) 0 N (cf 55) (by omega) (by omega) (fun q hq => absurd hq (Nat.not_lt_zero _))
            have hJ0 : TJ (fitN (a 0) r) t s 0 B0 := by
              refine ⟨fun q => by unfold B0; split <;> omega, fun q hq => ?_, fun q h1 h2 h3 => ?_⟩
              · have e : q = 0 := by
                  unfold B0 at hq
                  split at hq
                  · next h => exact h
                  · omega
                subst e
                obtain ⟨s0, s1, -, -⟩ := seat_in (t := t) (i := 0) (j := 0) (k := 0) l3 hs l3.1 hnB hnC
                rw [l3.2.1] at s0 s1
                exact ⟨by omega, s0, by decide, by decide⟩
              · unfold sd at h3
                have e : q = 0 := by omega
                subst e
                decide
            have hszp : ∀ i, i < F → sz i = 0 → i = 0 := fun i hi h0 => by
              have := l3.rev (i := i) (j := 0) hi (by rw [h0]; exact Nat.zero_le _)
              omega
            have hVS : VS F (nB t F) (nC t F) (fun i j k => cv (B0 (g13 (sz i) (sz j) (sz k)))) stC := by
              intro i j k hi hj hk
              obtain ⟨-, -, k3, k4⟩ := seat_in l3 hs hi hj hk
              have e00 : ix (nB t F) (nC t F) 0 0 0 = 0 := by unfold ix; rw [Nat.zero_mul, Nat.zero_add, Nat.zero_mul]
              rw [t4 _ (ix_lt3 hi hj hk)]
              show _ = nI (cv (B0 (g13 (sz i) (sz j) (sz k))))
              congr 2
              unfold B0
              refine ifi ⟨fun hh => ?_, fun hh => ?_⟩
              · rw [← e00] at hh
                obtain ⟨q1, q2, q3⟩ := ix3_inj hj hk hnB hnC hh
                rw [q1, q2, q3, l3.2.1]; rfl
              · unfold g13 at hh
                rw [hszp i hi (by omega), hszp j k3 (by omega), hszp k k4 (by omega)]; exact e00
            obtain ⟨B', b, stC', stM', z1, z2, z3, z4, z5, z6, z7⟩ := s_t93 (rf := cf 67) (seated := seated) hN i1 hM hr (by omega) hs l4 hn l3 l2 (nI w) nn 0 N N B0 stC stM (by omega) (by omega) (by omega) hJ0 hVS t2
            obtain ⟨b', y', v1, v2, v3, v4, v5, v6, v7⟩ := s_t228 (rf := cf 67) (X4 := nI nn) (X5 := nI w) z3.1 z4 2197 0 N 9999 0 (by omega) (by omega) (by omega) (by omega) (fun q hq => absurd hq (Nat.not_lt_zero _)) (Or.inl rfl) (fun q hq => absurd hq (Nat.not_lt_zero _)) (Or.inl rfl)
            rw [l1, Option.bind_some, show g_X10_tables_57 N (cf 65) (nI r) (nI t) (nI s) (nI nn) (nI w) N 0 (cf 67) (cf 86) = _ from t1.trans (z2.trans v1)]
            dsimp only
            unfold g_X5_fewestStood g_X5_fewestLeft
            rw [show g_X5_fewestStood_2 N (nI F) (nI (nB t F)) (nI (nC t F)) (nI (F * nB t F * nC t F)) seated (nI nn) N 0 (cf 55) = _ from t3.trans z1, Option.bind_some]
            have hbb : b = b' := by
              obtain ⟨s0, s1, -, -⟩ := seat_in (t := t) (i := 0) (j := 0) (k := 0) l3 hs l3.1 hnB hnC
              have hz := z3.2.2 (g13 (sz 0) (sz 0) (sz 0)) (by rw [l3.2.1]; decide) s0 (by rw [s1, l3.2.1]; omega)
              have hb0 := z6 0 0 0 l3.1 hnB hnC
              have hb0' := v4 (g13 (sz 0) (sz 0) (sz 0)) (by rw [l3.2.1]; decide)
              unfold cv at hb0
              rw [if_neg (by omega)] at hb0
              have h1 : b' ≤ b := by
                rcases z7 with e | ⟨i, j, k, hi, hj, hk, e⟩
                · omega
                · obtain ⟨-, -, k3, k4⟩ := seat_in l3 hs hi hj hk
                  have g1 := l3.le hi
                  have g2 := l3.le k3
                  have g3 := l3.le k4
                  have := v4 (g13 (sz i) (sz j) (sz k)) (g13_lt (by omega) (by omega) (by omega))
                  unfold cv at e
                  split at e <;> omega
              have h2 : b ≤ b' := by
                rcases v5 with e | ⟨q, hq, e⟩
                · omega
                · obtain ⟨m1, m2, m3, m4⟩ := z3.2.1 q (by omega)
                  obtain ⟨i, j, k, hi, hj, hk, e2⟩ := seat_out l3 m1 m2
                  have := z6 i j k hi hj hk
                  rw [← e2] at this
                  unfold cv at this
                  rw [if_neg (by omega)] at this
                  omega
              omega
            rcases (show w = 0 ∨ w = 1 by omega) with rfl | rfl
            · rw [if_pos (show nI 0 = 0 from rfl), if_pos (show nI 0 = 0 from rfl)]
              exact ⟨_, _, rfl, rfl, congrArg nI hbb, Rel_ext hR rfl rfl, l5⟩
            · obtain ⟨lf, q1, q2, q3, q4⟩ := s_left4 (g := nn) (sz := sz) l4 hBF hCF hn (fun i j k hi hj hk => by
                obtain ⟨-, -, k3, k4⟩ := seat_in l3 hs hi hj hk
                have g1 := l3.le hi
                have g2 := l3.le k3
                have g3 := l3.le k4
                omega) l2 (F * nB t F * nC t F) 0 N nn (by omega) (by omega) (Nat.le_refl _) (fun i j k _ _ _ hm => absurd hm (Nat.not_lt_zero _)) (Or.inl rfl)
              have hyn : y' ≤ nn := by
                rcases v7 with e | ⟨q, hq, e, e2⟩
                · omega
                · have := (z3.2.1 q e).2.2.1; omega
              have hlf : lf = nn - y' := by
                have h1 : lf ≤ nn - y' := by
                  rcases v7 with e | ⟨q, hq, e, e2⟩
                  · omega
                  · obtain ⟨m1, m2, m3, m4⟩ := z3.2.1 q e
                    obtain ⟨i, j, k, hi, hj, hk, e3⟩ := seat_out l3 m1 m2
                    obtain ⟨-, k2, -, -⟩ := seat_in l3 hs hi hj hk
                    rw [← e3] at k2
                    have := q3 i j k hi hj hk (by omega)
                    omega
                have h2 : nn - y' ≤ lf := by
                  rcases q4 with e | ⟨i, j, k, hi, hj, hk, e, e2⟩
                  · omega
                  · obtain ⟨k1, k2, k3, k4⟩ := seat_in l3 hs hi hj hk
                    have g1 := l3.le hi
                    have g2 := l3.le k3
                    have g3 := l3.le k4
                    have hcl := g13_lt (x := sz i) (y := sz j) (z := sz k) (by omega) (by omega) (by omega)
                    have := v6 _ hcl (z3.2.2 _ hcl k1 (by omega))
                    omega
                omega
              rw [if_neg (show ¬ nI 1 = 0 by decide), if_neg (show ¬ nI 1 = 0 by decide), show g_X5_fewestLeft_4 (nI (F * nB t F * nC t F)) seated (nI nn) N (nI nn) 0 = some (nI lf) from q1, Option.bind_some, z_sub hyn, hlf]
              exact ⟨_, _, rfl, rfl, rfl, Rel_ext hR rfl rfl, l5⟩
          · rw [if_neg h5, if_neg h5, s_refB, s_refMB]
            exact ⟨_, _, rfl, rfl, rfl, Rel_ext (Rel_rfd 0 hR) rfl rfl, h53⟩
        · rw [if_neg h4, if_neg h4, s_refB, s_refMB]
          exact ⟨_, _, rfl, rfl, rfl, Rel_ext (Rel_rfd 0 hR) rfl rfl, h53⟩
      · rw [if_neg h3, if_neg h3, s_refB, s_refMB]
        exact ⟨_, _, rfl, rfl, rfl, Rel_ext (Rel_rfd 0 hR) rfl rfl, h53⟩
    · rw [if_neg hw, if_neg hw, s_refB, s_refMB]
      exact ⟨_, _, rfl, rfl, rfl, Rel_ext (Rel_rfd 0 hR) rfl rfl, h53⟩
  · rw [if_neg hv, if_neg hv, s_refB, s_refMB]
    exact ⟨_, _, rfl, rfl, rfl, Rel_ext (Rel_rfd 0 hR) rfl rfl, h53⟩
