/-! walks: all that are an hour away, corner by corner -/
theorem ix_inj {n x i j k : Nat} (hi : i < n) (hk : k < n) (h : n * x + i = n * j + k) : x = j ∧ i = k := by
  have h1 : (n * x + i) / n = x := by rw [Nat.mul_add_div (by omega), Nat.div_eq_of_lt hi]; rfl
  have h2 : (n * j + k) / n = j := by rw [Nat.mul_add_div (by omega), Nat.div_eq_of_lt hk]; rfl
  rw [h] at h1
  have e : x = j := by omega
  subst e
  exact ⟨rfl, by omega⟩
theorem ix_lt {n m x i : Nat} (hx : x < m) (hi : i < n) : n * x + i < n * m := by
  have : n * (x + 1) ≤ n * m := Nat.mul_le_mul_left _ hx
  rw [Nat.mul_add, Nat.mul_one] at this
  omega
/-- the products done so far: of choice x the first i, of those above all -/
def MUL (n m : Nat) (A B : Nat → Nat) (x i : Nat) (f : Nat → Int32) : Prop := (∀ j k, j < m → k < n → (x < j ∨ (j = x ∧ k < i)) → f (n * j + k) = nI (A k ||| B j)) ∧ ∀ k, k < n → (0 < x ∨ i ≤ k) → f k = nI (A k)
theorem s_mul_13 {n m : Nat} {A B : Nat → Nat} {ch : Nat → Int32} (hnm : n * m ≤ 1024) (hB : ∀ j, j < m → ch j = nI (B j)) (K : Int32 → Int32 → (Nat → Int32) → Option (Int32 × (Nat → Int32))) {x : Nat} (hx : x < m) : ∀ (d i fu : Nat) (f : Nat → Int32), i + d = n → d < fu → MUL n m A B x i f → ∃ f', g_X8_multiply_13 ch K fu (nI x) (nI i) (nI n) f = K (nI x + (-1)) (nI n) f' ∧ MUL n m A B x n f' := by
  have hn : n ≤ 1024 := by
    have : n * 1 ≤ n * m := Nat.mul_le_mul_left _ (by omega)
    omega
  have hm : 0 < n → m ≤ 1024 := by
    intro h
    have : 1 * m ≤ n * m := Nat.mul_le_mul_right _ h
    omega
  intro d
  induction d with
  | zero =>
    intro i fu f e1 e2 h
    obtain ⟨fu, rfl⟩ : ∃ z, fu = z + 1 := ⟨fu - 1, by omega⟩
    have e : i = n := by omega
    subst e
    exact ⟨f, by rw [g_X8_multiply_13, if_pos (nI_le (by omega) (by omega))], h⟩
  | succ d ih =>
    intro i fu f e1 e2 h
    obtain ⟨fu, rfl⟩ : ∃ z, fu = z + 1 := ⟨fu - 1, by omega⟩
    have hl := ix_lt hx (show i < n by omega)
    have hm' := hm (by omega)
    have hi0 : f i = nI (A i) := h.2 i (by omega) (Or.inr (Nat.le_refl _))
    rw [g_X8_multiply_13, if_neg (fun h => absurd ((e_le (by omega) (by omega)).mp h) (by omega)), z_mul, nI_add, if_neg (show ¬ 1024 ≤ nI (n * x + i) from fun h => absurd ((e_le (a := 1024) (by decide) (by omega)).mp h) (by omega)), if_pos (in1024 (by omega)), if_pos (in1024 (by omega)), if_pos (in1024 (by omega)), nI_clamp (by omega), nI_clamp (by omega), nI_clamp (by omega), hi0, hB x hx, z_or, z_1]
    refine ih (i + 1) fu _ (by omega) (by omega) ⟨fun j k hj hk hjk => ?_, fun k hk hjk => ?_⟩
    · by_cases e : j = x ∧ k = i
      · rw [e.1, e.2, upd_at]
      · rw [upd_no (fun hh => by
          have := ix_inj hk (show i < n by omega) hh
          exact e this)]
        refine h.1 j k hj hk ?_
        rcases hjk with q | ⟨q1, q2⟩
        · exact Or.inl q
        · exact Or.inr ⟨q1, by omega⟩
    · rw [upd_no ?_]
      · exact h.2 k hk (by omega)
      · intro hh
        rcases Nat.eq_zero_or_pos x with e | e
        · subst e; rw [Nat.mul_zero, Nat.zero_add] at hh; omega
        · have : n * 1 ≤ n * x := Nat.mul_le_mul_left _ e
          omega
theorem s_mul_7 {n m N : Nat} {A B : Nat → Nat} {ch : Nat → Int32} (hN : 2000 ≤ N) (hm1 : 0 < m) (hm1024 : m ≤ 1024) (hnm : n * m ≤ 1024) (hB : ∀ j, j < m → ch j = nI (B j)) : ∀ (x fu : Nat) (f : Nat → Int32), x ≤ m → x < fu → (∀ j k, j < m → k < n → x ≤ j → f (n * j + k) = nI (A k ||| B j)) → (0 < x → ∀ k, k < n → f k = nI (A k)) → ∃ f', g_X8_multiply_7 N (nI m) ch fu (nI x + (-1)) (nI n) f = some (nI (n * m), f') ∧ ∀ j k, j < m → k < n → f' (n * j + k) = nI (A k ||| B j) := by
  have hn : n ≤ 1024 := by
    have : n * 1 ≤ n * m := Nat.mul_le_mul_left _ hm1
    omega
  intro x
  induction x with
  | zero =>
    intro fu f e1 e2 h1 h2
    obtain ⟨fu, rfl⟩ : ∃ z, fu = z + 1 := ⟨fu - 1, by omega⟩
    refine ⟨f, ?_, fun j k hj hk => h1 j k hj hk (Nat.zero_le _)⟩
    rw [g_X8_multiply_7, if_pos (by decide), z_mul, if_neg (show ¬ 1024 < nI (n * m) from fun h => absurd ((e_lt (a := 1024) (by decide) (by omega)).mp h) (by omega))]
  | succ x ih =>
    intro fu f e1 e2 h1 h2
    obtain ⟨fu, rfl⟩ : ∃ z, fu = z + 1 := ⟨fu - 1, by omega⟩
    rw [pk_m1, g_X8_multiply_7, if_neg (nI_pos (by omega))]
    obtain ⟨f1, c1, c2⟩ := s_mul_13 (A := A) hnm hB (g_X8_multiply_7 N (nI m) ch fu) (x := x) (by omega) n 0 N f (by omega) (by omega) ⟨fun j k hj hk hjk => by
      rcases hjk with q | ⟨q1, q2⟩
      · exact h1 j k hj hk q
      · omega, fun k hk _ => h2 (by omega) k hk⟩
    obtain ⟨f', d1, d2⟩ := ih fu f1 (by omega) (by omega) (fun j k hj hk hx => by
      rcases Nat.eq_or_lt_of_le hx with q | q
      · exact c2.1 j k hj hk (Or.inr ⟨q.symm, hk⟩)
      · exact c2.1 j k hj hk (Or.inl q)) (fun h0 k hk => c2.2 k hk (Or.inl h0))
    exact ⟨f', c1.trans d1, d2⟩
/-- a choice from a list -/
theorem LIST.fn {n : Nat} {f : Nat → Int32} {S : Nat → Prop} (h : LIST n f S) : ∃ A : Nat → Nat, ∀ i, i < n → f i = nI (A i) ∧ S (A i) := by
  have hx : ∀ i, ∃ u, i < n → f i = nI u ∧ S u := by
    intro i
    by_cases q : i < n
    · obtain ⟨u, h1, h2⟩ := h.1 i q
      exact ⟨u, fun _ => ⟨h1, h2⟩⟩
    · exact ⟨0, fun h => absurd h q⟩
  exact ⟨fun i => Classical.choose (hx i), fun i hi => Classical.choose_spec (hx i) hi⟩
theorem s_multiply {n m N : Nat} {f ch : Nat → Int32} {S T : Nat → Prop} (hN : 2000 ≤ N) (hm1 : 0 < m) (hm2 : m ≤ 1024) (hnm : n * m ≤ 1024) (h1 : LIST n f S) (h2 : LIST m ch T) (hlt : ∀ u v u' v', S u → T v → S u' → T v' → True) (hS : ∀ u, S u → u < 2147483648) (hT : ∀ v, T v → v < 2147483648) : ∃ f', g_X8_multiply N (nI n) (nI m) ch f = some (nI (n * m), f') ∧ LIST (n * m) f' (fun t => ∃ u v, S u ∧ T v ∧ t = u ||| v) := by
  obtain ⟨A, hA⟩ := h1.fn
  obtain ⟨B, hB⟩ := h2.fn
  obtain ⟨f', c1, c2⟩ := s_mul_7 (A := A) hN hm1 hm2 hnm (fun j hj => (hB j hj).1) m N f (Nat.le_refl _) (by omega) (fun j k hj hk hx => by omega) (fun _ k hk => (hA k hk).1)
  refine ⟨f', ?_, fun i hi => ?_, fun t ⟨u, v, hu, hv, ht⟩ => ?_⟩
  · unfold g_X8_multiply
    rw [m1_add]; exact c1
  · have hn : 0 < n := by
      rcases Nat.eq_zero_or_pos n with e | e
      · subst e; rw [Nat.zero_mul] at hi; omega
      · exact e
    have hd := Nat.div_add_mod i n
    have hj : i / n < m := Nat.div_lt_of_lt_mul hi
    have hk := Nat.mod_lt i hn
    have := c2 (i / n) (i % n) hj hk
    rw [hd] at this
    exact ⟨_, this, A (i % n), B (i / n), (hA _ hk).2, (hB _ hj).2, rfl⟩
  · obtain ⟨k, k1, k2⟩ := h1.2 u hu
    obtain ⟨j, j1, j2⟩ := h2.2 v hv
    have e1 : A k = u := by
      have := (hA k k1).1
      rw [k2] at this
      exact ((e_eq (hS _ hu) (hS _ (hA k k1).2)).mp this).symm
    have e2 : B j = v := by
      have := (hB j j1).1
      rw [j2] at this
      exact ((e_eq (hT _ hv) (hT _ (hB j j1).2)).mp this).symm
    exact ⟨n * j + k, ix_lt j1 k1, by rw [c2 j k j1 k1, e1, e2, ht]⟩
/-- what those at the first c corners may do, the rest at 0 -/
def NS (w ft P s c u : Nat) : Prop := u < 2 ^ (2 * P) ∧ (∀ p, p < P → c ≤ dg P s p → dg P u p = 0) ∧ ∀ x, x < c → okc w ft P s x u
theorem c2_cg {P s t u x y : Nat} (h : ∀ p, p < P → dg P s p = x → dg P t p = dg P u p) : ∀ n, n ≤ P → c2 P s t x y n = c2 P s u x y n := by
  intro n
  induction n with
  | zero => intro _; rfl
  | succ n ih =>
    intro hn
    rw [c2, c2, ih (by omega)]
    congr 1
    refine ifi ⟨fun hh => ⟨hh.1, by rw [← h n (by omega) hh.1]; exact hh.2⟩, fun hh => ⟨hh.1, by rw [h n (by omega) hh.1]; exact hh.2⟩⟩
theorem okc_cg {w ft P s t u x : Nat} (h : ∀ p, p < P → dg P s p = x → dg P t p = dg P u p) (ho : okc w ft P s x t) : okc w ft P s x u := by
  intro y hy hne h0
  have e := c2_cg (y := y) h P (Nat.le_refl _)
  rw [← e] at h0 ⊢
  exact ho y hy hne h0
theorem NS_step {w ft P s c t : Nat} : NS w ft P s (c + 1) t ↔ ∃ u v, NS w ft P s c u ∧ CHO w ft P s c v ∧ t = u ||| v := by
  constructor
  · rintro ⟨h1, h2, h3⟩
    obtain ⟨u, u1, u2⟩ := asm_ex (P := P) (d := fun p => if dg P s p < c then dg P t p else 0) (fun p => by have := dg_lt P t p; show (if _ then _ else _) < 4; split <;> omega)
    obtain ⟨v, v1, v2⟩ := asm_ex (P := P) (d := fun p => if dg P s p = c then dg P t p else 0) (fun p => by have := dg_lt P t p; show (if _ then _ else _) < 4; split <;> omega)
    refine ⟨u, v, ⟨u1, fun p hp hc => by rw [u2 p hp, if_neg (by omega)], fun x hx => okc_cg (fun p hp hd => ?_) (h3 x (by omega))⟩, ⟨v1, fun p hp hne => by rw [v2 p hp, if_neg hne], okc_cg (fun p hp hd => ?_) (h3 c (by omega))⟩, ?_⟩
    · rw [u2 p hp, if_pos (by omega)]
    · rw [v2 p hp, if_pos hd]
    · refine dg_ext h1 (Nat.or_lt_two_pow u1 v1) (fun p hp => ?_)
      rw [dg_or, u2 p hp, v2 p hp]
      by_cases a : dg P s p < c
      · rw [if_pos a, if_neg (by omega), Nat.or_zero]
      · rw [if_neg a]
        by_cases b : dg P s p = c
        · rw [if_pos b, Nat.zero_or]
        · rw [if_neg b, h2 p hp (by omega)]; rfl
  · rintro ⟨u, v, ⟨u1, u2, u3⟩, ⟨v1, v2, v3⟩, rfl⟩
    refine ⟨Nat.or_lt_two_pow u1 v1, fun p hp hc => ?_, fun x hx => ?_⟩
    · rw [dg_or, u2 p hp (by omega), v2 p hp (by omega)]; rfl
    · rcases (show x = c ∨ x < c by omega) with rfl | hh
      · exact okc_cg (fun p hp hd => by rw [dg_or, u2 p hp (by omega), Nat.zero_or]) v3
      · exact okc_cg (fun p hp hd => by rw [dg_or, v2 p hp (by omega), Nat.or_zero]) (u3 x hh)
theorem NS_4 {w ft P s t : Nat} : NS w ft P s 4 t ↔ t < 2 ^ (2 * P) ∧ ST w ft P s t := by
  constructor
  · rintro ⟨h1, -, h3⟩
    exact ⟨h1, fun x y hx hy hxy h0 => h3 x hx y hy (Ne.symm hxy) h0⟩
  · rintro ⟨h1, h2⟩
    exact ⟨h1, fun p hp hc => by have := dg_lt P s p; omega, fun x hx y hy hne h0 => h2 x y hx hy (Ne.symm hne) h0⟩
def gs (P s c : Nat) : Nat → Nat
  | 0 => 0
  | p + 1 => gs P s c p + (if dg P s p < c then 1 else 0)
theorem gs_le (P s c : Nat) : ∀ n, gs P s c n ≤ n := by
  intro n
  induction n with
  | zero => exact Nat.le_refl _
  | succ n ih => rw [gs]; split <;> omega
theorem gs_step (P s c : Nat) : ∀ n, gs P s (c + 1) n = gs P s c n + gi P s c n := by
  intro n
  induction n with
  | zero => rfl
  | succ n ih =>
    rw [gs, gs, gi, ih]
    by_cases a : dg P s n < c
    · rw [if_pos a, if_pos (by omega), if_neg (by omega)]; omega
    · rw [if_neg a]
      by_cases b : dg P s n = c
      · rw [if_pos b, if_pos (by omega)]; omega
      · rw [if_neg b, if_neg (by omega)]; omega
theorem s_findNear_14 {w ft P s N : Nat} (hN : 2000 ≤ N) (hw : w < 65536) (hft : ft < 64) (hP : P ≤ 5) (hs : s < 2147483648) : ∀ (d c fu n : Nat) (cc : Int32) (ch goers group near : Nat → Int32), c + d = 4 → d < fu → n ≤ 2 ^ (2 * gs P s c P) → LIST n near (NS w ft P s c) → ∃ n' cc' ch' goers' group' near', g_X8_findNear_14 N (nI P) (nI w) (nI ft) (nI s) fu (nI c) cc (nI n) ch goers group near = some (cc', nI n', ch', goers', group', near') ∧ n' ≤ 1024 ∧ LIST n' near' (fun t => t < 2 ^ (2 * P) ∧ ST w ft P s t) := by
  have hp2 := p2P hP
  intro d
  induction d with
  | zero =>
    intro c fu n cc ch goers group near e1 e2 e3 hL
    obtain ⟨fu, rfl⟩ : ∃ z, fu = z + 1 := ⟨fu - 1, by omega⟩
    have e : c = 4 := by omega
    subst e
    have hgs := gs_le P s 4 P
    have hp3 : 2 ^ (2 * gs P s 4 P) ≤ 1024 := p2P (by omega)
    refine ⟨n, cc, ch, goers, group, near, by rw [g_X8_findNear_14, if_pos (by decide)], by omega, fun i hi => ?_, fun u hu => hL.2 u (NS_4.mpr hu)⟩
    obtain ⟨u, u1, u2⟩ := hL.1 i hi
    exact ⟨u, u1, NS_4.mp u2⟩
  | succ d ih =>
    intro c fu n cc ch goers group near e1 e2 e3 hL
    obtain ⟨fu, rfl⟩ : ∃ z, fu = z + 1 := ⟨fu - 1, by omega⟩
    have hc : c < 4 := by omega
    obtain ⟨group1, g1, g2⟩ := s_gather_5 (P := P) (s := s) (c := c) hP hs hc P 0 N group (by omega) (by omega) (fun p hp => absurd hp (by omega))
    obtain ⟨m, ch1, goers1, c1, c2', c3⟩ := s_findChoices hN hw hft hP hc g2 ch goers
    have hgs := gs_le P s (c + 1) P
    have hst := gs_step P s c P
    have hnm : n * m ≤ 2 ^ (2 * gs P s (c + 1) P) := by
      rw [hst, Nat.mul_add, Nat.pow_add]
      exact Nat.mul_le_mul e3 c2'
    have hp3 : 2 ^ (2 * gs P s (c + 1) P) ≤ 1024 := p2P (by omega)
    have hgi := gi_le P s c P
    have hp4 : 2 ^ (2 * gi P s c P) ≤ 1024 := p2P (by omega)
    have hm0 : 0 < m := by
      obtain ⟨v, v1, v2⟩ := asm_ex (P := P) (d := fun p => if dg P s p = c then c else 0) (fun p => by show (if _ then _ else _) < 4; split <;> omega)
      obtain ⟨i, i1, i2⟩ := c3.2 v ⟨v1, fun p hp hne => by rw [v2 p hp, if_neg hne], fun y hy hne h0 => by
        obtain ⟨p, p1, p2, p3⟩ := c2_ex P h0
        rw [v2 p p1, if_pos p2] at p3
        exact absurd p3.symm hne⟩
      omega
    obtain ⟨near1, m1, m2⟩ := s_multiply (N := N) hN hm0 (by omega) (by omega) hL c3 (fun _ _ _ _ _ _ _ _ => trivial) (fun u hu => by have := hu.1; omega) (fun v hv => by have := hv.1; omega)
    have hL' : LIST (n * m) near1 (NS w ft P s (c + 1)) := ⟨fun i hi => by
      obtain ⟨t, t1, t2⟩ := m2.1 i hi
      exact ⟨t, t1, NS_step.mpr t2⟩, fun t ht => m2.2 t (NS_step.mp ht)⟩
    rw [g_X8_findNear_14, if_neg (show ¬ 4 ≤ nI c from fun h => absurd ((e_le (a := 4) (by decide) (by omega)).mp h) (by omega))]
    unfold g_X8_gather
    rw [show g_X8_gather_5 (nI P) (nI s) (nI c) N 0 0 group = some (nI (gi P s c P), group1) from g1, Option.bind_some, c1, Option.bind_some, m1, Option.bind_some, z_1]
    exact ih (c + 1) fu (n * m) _ _ _ _ near1 (by omega) (by omega) hnm hL'
theorem s_findNear {w ft P s N : Nat} (hN : 2000 ≤ N) (hw : w < 65536) (hft : ft < 64) (hP : P ≤ 5) (hs : s < 2147483648) (cc : Int32) (ch goers group near : Nat → Int32) : ∃ n' cc' ch' goers' group' near', g_X8_findNear N (nI P) (nI w) (nI ft) cc ch goers group near (nI s) = some (cc', nI n', ch', goers', group', near') ∧ n' ≤ 1024 ∧ LIST n' near' (fun t => t < 2 ^ (2 * P) ∧ ST w ft P s t) := by
  have hp2 := p2P hP
  unfold g_X8_findNear
  rw [if_pos (show inb 0 1024 = true from rfl)]
  refine s_findNear_14 hN hw hft hP hs 4 0 N 1 cc ch goers group (upd near 0 0) (by omega) (by omega) (Nat.two_pow_pos _) ⟨fun i hi => ⟨0, ?_, Nat.two_pow_pos _, fun p hp _ => dg_0 P p, fun x hx => absurd hx (Nat.not_lt_zero _)⟩, fun u hu => ⟨0, by omega, ?_⟩⟩
  · have e : i = 0 := by omega
    subst e
    exact upd_at
  · have e : u = 0 := dg_ext hu.1 (Nat.two_pow_pos _) (fun p hp => by rw [hu.2.1 p hp (Nat.zero_le _), dg_0])
    subst e
    exact upd_at
