/-! tables: class, the states -/
/-- the sizes of a table, up to s -/
def SZ (Q : Nat → Bool) (s F : Nat) (sz : Nat → Nat) : Prop := 1 ≤ F ∧ sz 0 = 0 ∧ (∀ i j, i < j → j < F → sz i < sz j) ∧ (∀ i, i < F → sz i = 0 ∨ (sz i ≤ s ∧ Q (sz i) = true)) ∧ ∀ v, v = 0 ∨ (v ≤ s ∧ Q v = true) → ∃ i, i < F ∧ sz i = v
theorem in13 {x : Nat} (h : x < 13) : inb (nI x) 13 = true := by rw [inb_nI (by omega)]; simpa using h
theorem in2197 {x : Nat} (h : x < 2197) : inb (nI x) 2197 = true := by rw [inb_nI (by omega)]; simpa using h
def ix (B C i j k : Nat) : Nat := (i * B + j) * C + k
theorem ix_k (B C i j k : Nat) : ix B C i j k + 1 = ix B C i j (k + 1) := rfl
theorem ix_j (B C i j : Nat) : ix B C i j C = ix B C i (j + 1) 0 := by
  unfold ix
  rw [← Nat.add_assoc, Nat.add_mul (i * B + j) 1, Nat.one_mul, Nat.add_zero]
theorem ix_i (B C i : Nat) : ix B C i B 0 = ix B C (i + 1) 0 0 := by
  unfold ix
  rw [Nat.add_mul i 1, Nat.one_mul, Nat.add_zero (i * B + B)]
theorem ix_dec {B C i j k : Nat} (hj : j < B) (hk : k < C) : ix B C i j k / C = i * B + j ∧ ix B C i j k % C = k ∧ ix B C i j k / C / B = i ∧ ix B C i j k / C % B = j := by
  have h1 : ix B C i j k / C = i * B + j := by
    unfold ix
    rw [Nat.mul_comm, Nat.mul_add_div (by omega), Nat.div_eq_of_lt hk, Nat.add_zero]
  refine ⟨h1, ?_, ?_, ?_⟩
  · unfold ix
    rw [Nat.mul_comm, Nat.mul_add_mod, Nat.mod_eq_of_lt hk]
  · rw [h1, Nat.mul_comm, Nat.mul_add_div (by omega), Nat.div_eq_of_lt hj, Nat.add_zero]
  · rw [h1, Nat.mul_comm, Nat.mul_add_mod, Nat.mod_eq_of_lt hj]
theorem ix3_inj {B C i j k i' j' k' : Nat} (hj : j < B) (hk : k < C) (hj' : j' < B) (hk' : k' < C) (h : ix B C i j k = ix B C i' j' k') : i = i' ∧ j = j' ∧ k = k' := by
  obtain ⟨-, a2, a3, a4⟩ := ix_dec (i := i) hj hk
  obtain ⟨-, b2, b3, b4⟩ := ix_dec (i := i') hj' hk'
  rw [h] at a2 a3 a4
  exact ⟨a3.symm.trans b3, a4.symm.trans b4, a2.symm.trans b2⟩
theorem ix_lt3 {A B C i j k : Nat} (hi : i < A) (hj : j < B) (hk : k < C) : ix B C i j k < A * B * C := by
  unfold ix
  have h1 : (i * B + j) + 1 ≤ A * B := by
    have : (i + 1) * B ≤ A * B := Nat.mul_le_mul_right _ hi
    rw [Nat.add_mul, Nat.one_mul] at this
    omega
  have h2 : (i * B + j + 1) * C ≤ A * B * C := Nat.mul_le_mul_right _ h1
  rw [Nat.add_mul, Nat.one_mul] at h2
  omega
theorem abc_le {A B C : Nat} (hA : A ≤ 13) (hB : B ≤ 13) (hC : C ≤ 13) : A * B * C ≤ 2197 := by
  have h1 : A * B ≤ 13 * 13 := Nat.mul_le_mul hA hB
  have h2 : A * B * C ≤ 13 * 13 * 13 := Nat.mul_le_mul h1 hC
  exact h2
theorem ix_pi (B C i j k : Nat) : ix B C (i + 1) j k = ix B C i j k + B * C := by
  unfold ix
  rw [Nat.add_mul i 1, Nat.one_mul, Nat.add_right_comm (i * B) B j, Nat.add_mul (i * B + j) B]
  omega
theorem ix_pj (B C i j k : Nat) : ix B C i (j + 1) k = ix B C i j k + C := by
  unfold ix
  rw [← Nat.add_assoc, Nat.add_mul (i * B + j) 1, Nat.one_mul]
  omega
/-- how many are seated in the states before m -/
def SE (A B C : Nat) (sz : Nat → Nat) (m : Nat) (f : Nat → Int32) : Prop := ∀ i j k, i < A → j < B → k < C → ix B C i j k < m → f (ix B C i j k) = nI (sz i + sz j + sz k)
def szs (F : Nat) (sz : Nat → Nat) (f : Nat → Int32) : Prop := ∀ i, i < F → f i = nI (sz i)
theorem s_lay_127 {A B C F : Nat} {sz : Nat → Nat} {sizes : Nat → Int32} (hA : A ≤ F) (hB : B ≤ F) (hC : C ≤ F) (hF : F ≤ 13) (hs : szs F sz sizes) (K : Int32 → Int32 → Int32 → Int32 → Int32 → Int32 → (Nat → Int32) → (Nat → Int32) → Option (Int32 × Int32 × Int32 × Int32 × (Nat → Int32) × (Nat → Int32))) {i j : Nat} (hi : i < A) (hj : j < B) : ∀ (d k n : Nat) (f : Nat → Int32), k + d = C → d < n → SE A B C sz (ix B C i j k) f → ∃ f', g_X5_lay_127 K n (nI i) (nI j) (nI k) (nI A) (nI B) (nI (ix B C i j k)) (nI C) f sizes = K (nI i) (nI (j + 1)) (nI A) (nI B) (nI (ix B C i (j + 1) 0)) (nI C) f' sizes ∧ SE A B C sz (ix B C i (j + 1) 0) f' := by
  have habc := abc_le (A := A) (B := B) (C := C) (by omega) (by omega) (by omega)
  intro d
  induction d with
  | zero =>
    intro k n f e1 e2 h
    obtain ⟨n, rfl⟩ : ∃ z, n = z + 1 := ⟨n - 1, by omega⟩
    have e : k = C := by omega
    rw [e, ix_j] at h
    exact ⟨f, by rw [g_X5_lay_127, if_pos (nI_le (by omega) (by omega)), z_1, e, ix_j], h⟩
  | succ d ih =>
    intro k n f e1 e2 h
    obtain ⟨n, rfl⟩ : ∃ z, n = z + 1 := ⟨n - 1, by omega⟩
    have hk : k < C := by omega
    have hl := ix_lt3 hi hj hk
    rw [g_X5_lay_127, if_neg (fun h => absurd ((e_le (by omega) (by omega)).mp h) (by omega)), if_neg (show ¬ 2197 ≤ nI (ix B C i j k) from fun h => absurd ((e_le (a := 2197) (by decide) (by omega)).mp h) (by omega)), if_pos (in13 (by omega)), if_pos (in13 (by omega)), if_pos (in13 (by omega)), if_pos (in2197 (by omega)), nI_clamp (by omega), nI_clamp (by omega), nI_clamp (by omega), nI_clamp (by omega), hs i (by omega), hs j (by omega), hs k (by omega), nI_add, nI_add, z_1, z_1, ix_k]
    refine ih (k + 1) n _ (by omega) (by omega) (fun i' j' k' hi' hj' hk' hm => ?_)
    by_cases q : ix B C i' j' k' = ix B C i j k
    · obtain ⟨q1, q2, q3⟩ := ix3_inj hj' hk' hj hk q
      rw [q, upd_at, q1, q2, q3]
    · rw [upd_no q]
      exact h i' j' k' hi' hj' hk' (by have := ix_k B C i j k; omega)
theorem s_lay_115 {A B C F N : Nat} {sz : Nat → Nat} {sizes : Nat → Int32} (hN : 300 ≤ N) (hA : A ≤ F) (hB : B ≤ F) (hC : C ≤ F) (hF : F ≤ 13) (hs : szs F sz sizes) (K : Int32 → Int32 → Int32 → Int32 → Int32 → (Nat → Int32) → (Nat → Int32) → Option (Int32 × Int32 × Int32 × Int32 × (Nat → Int32) × (Nat → Int32))) {i : Nat} (hi : i < A) : ∀ (d j n : Nat) (f : Nat → Int32), j + d = B → d < n → SE A B C sz (ix B C i j 0) f → ∃ f', g_X5_lay_115 N K n (nI i) (nI j) (nI A) (nI B) (nI (ix B C i j 0)) (nI C) f sizes = K (nI (i + 1)) (nI A) (nI B) (nI (ix B C (i + 1) 0 0)) (nI C) f' sizes ∧ SE A B C sz (ix B C (i + 1) 0 0) f' := by
  intro d
  induction d with
  | zero =>
    intro j n f e1 e2 h
    obtain ⟨n, rfl⟩ : ∃ z, n = z + 1 := ⟨n - 1, by omega⟩
    have e : j = B := by omega
    rw [e, ix_i] at h
    exact ⟨f, by rw [g_X5_lay_115, if_pos (nI_le (by omega) (by omega)), z_1, e, ix_i], h⟩
  | succ d ih =>
    intro j n f e1 e2 h
    obtain ⟨n, rfl⟩ : ∃ z, n = z + 1 := ⟨n - 1, by omega⟩
    obtain ⟨f1, c1, c2⟩ := s_lay_127 hA hB hC hF hs (g_X5_lay_115 N K n) hi (show j < B by omega) C 0 N f (by omega) (by omega) h
    obtain ⟨f', d1, d2⟩ := ih (j + 1) n f1 (by omega) (by omega) c2
    refine ⟨f', ?_, d2⟩
    rw [g_X5_lay_115, if_neg (fun h => absurd ((e_le (by omega) (by omega)).mp h) (by omega))]
    exact c1.trans d1
theorem s_lay_103 {A B C F N : Nat} {sz : Nat → Nat} {sizes : Nat → Int32} (hN : 300 ≤ N) (hA : A ≤ F) (hB : B ≤ F) (hC : C ≤ F) (hF : F ≤ 13) (hs : szs F sz sizes) : ∀ (d i n : Nat) (f : Nat → Int32), i + d = A → d < n → SE A B C sz (ix B C i 0 0) f → ∃ f', g_X5_lay_103 N n (nI i) (nI A) (nI B) (nI (ix B C i 0 0)) (nI C) f sizes = some (nI A, nI B, nI (A * B * C), nI C, f', sizes) ∧ SE A B C sz (A * B * C) f' := by
  intro d
  induction d with
  | zero =>
    intro i n f e1 e2 h
    obtain ⟨n, rfl⟩ : ∃ z, n = z + 1 := ⟨n - 1, by omega⟩
    have e : i = A := by omega
    have e3 : ix B C A 0 0 = A * B * C := by unfold ix; rfl
    rw [e, e3] at h
    exact ⟨f, by rw [g_X5_lay_103, if_pos (nI_le (by omega) (by omega)), e, e3], h⟩
  | succ d ih =>
    intro i n f e1 e2 h
    obtain ⟨n, rfl⟩ : ∃ z, n = z + 1 := ⟨n - 1, by omega⟩
    obtain ⟨f1, c1, c2⟩ := s_lay_115 hN hA hB hC hF hs (g_X5_lay_103 N n) (show i < A by omega) B 0 N f (by omega) (by omega) h
    obtain ⟨f', d1, d2⟩ := ih (i + 1) n f1 (by omega) (by omega) c2
    refine ⟨f', ?_, d2⟩
    rw [g_X5_lay_103, if_neg (fun h => absurd ((e_le (by omega) (by omega)).mp h) (by omega))]
    exact c1.trans d1
/-- the second, the third table are there -/
def nB (t F : Nat) : Nat := if t ≤ 1 then 1 else F
def nC (t F : Nat) : Nat := if t ≤ 2 then 1 else F
theorem s_lay_61 {F N t : Nat} {sz : Nat → Nat} {sizes : Nat → Int32} (hN : 300 ≤ N) (h1 : 1 ≤ F) (hF : F ≤ 13) (hs : szs F sz sizes) (ht : t < 100) (x2 x3 x4 : Int32) (f : Nat → Int32) : ∃ f', g_X5_lay_61 N (nI t) (nI F) x2 x3 x4 f sizes = some (nI F, nI (nB t F), nI (F * nB t F * nC t F), nI (nC t F), f', sizes) ∧ SE F (nB t F) (nC t F) sz (F * nB t F * nC t F) f' := by
  have hB : nB t F ≤ F := by unfold nB; split <;> omega
  have hC : nC t F ≤ F := by unfold nC; split <;> omega
  obtain ⟨f', c1, c2⟩ := s_lay_103 (N := N) hN (Nat.le_refl F) hB hC hF hs F 0 N f (by omega) (by omega) (fun i j k _ _ _ hm => by unfold ix at hm; rw [Nat.zero_mul, Nat.zero_add, Nat.zero_mul] at hm; omega)
  have e0 : ix (nB t F) (nC t F) 0 0 0 = 0 := by unfold ix; rw [Nat.zero_mul, Nat.zero_add, Nat.zero_mul]
  rw [e0] at c1
  refine ⟨f', ?_, c2⟩
  unfold g_X5_lay_61
  rw [ifi (show nI t ≤ 1 ↔ t ≤ 1 from e_le (b := 1) (by omega) (by decide)), ifi (show nI t ≤ 2 ↔ t ≤ 2 from e_le (b := 2) (by omega) (by decide)), ifi (show nI t ≤ 2 ↔ t ≤ 2 from e_le (b := 2) (by omega) (by decide))]
  rw [← c1]
  unfold nB nC
  by_cases a1 : t ≤ 1
  · rw [if_pos a1, if_pos (show t ≤ 2 by omega), if_pos a1, if_pos (show t ≤ 2 by omega)]; rfl
  · rw [if_neg a1, if_neg a1]
    by_cases a2 : t ≤ 2
    · rw [if_pos a2, if_pos a2]; rfl
    · rw [if_neg a2, if_neg a2]; rfl
theorem s_lay_8 {a : Nat → Nat} {N r t s : Nat} (hN : 300 ≤ N) (hI : IC a) (hr : r ≤ 3) (ht : t < 100) (hs12 : s ≤ 12) (x2 x3 x4 : Int32) (f : Nat → Int32) : ∀ (d v n F : Nat) (sz : Nat → Nat) (sizes : Nat → Int32), v + d = s → d < n → SZ (fitN (a 0) r) v F sz → F ≤ v + 1 → szs F sz sizes → ∃ F' sz' sizes' f', g_X5_lay_8 N (nI (a 0)) (nI r) (nI t) (nI s) n (nI (v + 1)) (nI F) x2 x3 x4 f sizes = some (nI F', nI (nB t F'), nI (F' * nB t F' * nC t F'), nI (nC t F'), f', sizes') ∧ SE F' (nB t F') (nC t F') sz' (F' * nB t F' * nC t F') f' ∧ SZ (fitN (a 0) r) s F' sz' ∧ F' ≤ 13 ∧ sizes' 0 = sizes 0 := by
  intro d
  induction d with
  | zero =>
    intro v n F sz sizes e1 e2 hZ hF hs
    obtain ⟨n, rfl⟩ : ∃ z, n = z + 1 := ⟨n - 1, by omega⟩
    obtain ⟨f', c1, c2⟩ := s_lay_61 (N := N) (t := t) hN hZ.1 (by omega) hs ht x2 x3 x4 f
    have e : v = s := by omega
    rw [e] at hZ
    exact ⟨F, sz, sizes, f', by rw [g_X5_lay_8, if_pos (nI_lt (by omega) (by omega))]; exact c1, c2, hZ, by omega, rfl⟩
  | succ d ih =>
    intro v n F sz sizes e1 e2 hZ hF hs
    obtain ⟨n, rfl⟩ : ∃ z, n = z + 1 := ⟨n - 1, by omega⟩
    obtain ⟨z1, z2, z3, z4, z5⟩ := hZ
    have hsl : ∀ i, i < F → sz i ≤ v := fun i hi => by rcases z4 i hi with e | ⟨e, -⟩ <;> omega
    rw [g_X5_lay_8, if_neg (fun h => absurd ((e_lt (by omega) (by omega)).mp h) (by omega)), if_neg (show ¬ 13 ≤ nI F from fun h => absurd ((e_le (a := 13) (by decide) (by omega)).mp h) (by omega)), s_fits hI.1 hr (by omega) (by omega), Option.bind_some, if10, if_pos (in13 (by omega)), nI_clamp (by omega), z_1 (v + 1), z_1 F]
    cases hq : fitN (a 0) r (v + 1) with
    | false =>
      rw [if_neg (by decide)]
      refine ih (v + 1) n F sz sizes (by omega) (by omega) ⟨z1, z2, z3, fun i hi => ?_, fun w hw => ?_⟩ (by omega) hs
      · rcases z4 i hi with e | ⟨e, e'⟩
        · exact Or.inl e
        · exact Or.inr ⟨by omega, e'⟩
      · rcases hw with rfl | ⟨w1, w2⟩
        · exact z5 0 (Or.inl rfl)
        · rcases (show w = v + 1 ∨ w ≤ v by omega) with rfl | q
          · rw [hq] at w2; exact absurd w2 (by decide)
          · exact z5 w (Or.inr ⟨q, w2⟩)
    | true =>
      rw [if_pos rfl]
      have hsz : SZ (fitN (a 0) r) (v + 1) (F + 1) (va_up sz F (v + 1)) := by
        refine ⟨by omega, by rw [va_up_no _ _ (by omega)]; exact z2, fun i j hij hj => ?_, fun i hi => ?_, fun w hw => ?_⟩
        · by_cases q : j = F
          · rw [q, va_up_at, va_up_no _ _ (by omega)]
            have := hsl i (by omega)
            omega
          · rw [va_up_no _ _ (by omega), va_up_no _ _ q]; exact z3 i j hij (by omega)
        · by_cases q : i = F
          · rw [q, va_up_at]; exact Or.inr ⟨Nat.le_refl _, hq⟩
          · rw [va_up_no _ _ q]
            rcases z4 i (by omega) with e | ⟨e, e'⟩
            · exact Or.inl e
            · exact Or.inr ⟨by omega, e'⟩
        · rcases hw with rfl | ⟨w1, w2⟩
          · exact ⟨0, by omega, by rw [va_up_no _ _ (by omega)]; exact z2⟩
          · by_cases q : w = v + 1
            · exact ⟨F, by omega, by rw [va_up_at, q]⟩
            · obtain ⟨i, i1, i2⟩ := z5 w (Or.inr ⟨by omega, w2⟩)
              exact ⟨i, by omega, by rw [va_up_no _ _ (by omega)]; exact i2⟩
      have hss : szs (F + 1) (va_up sz F (v + 1)) (upd sizes F (nI (v + 1))) := by
        intro i hi
        by_cases q : i = F
        · rw [q, upd_at, va_up_at]
        · rw [upd_no q, va_up_no _ _ q]; exact hs i (by omega)
      obtain ⟨F', sz', sizes', f', c1, c2, c3, c4, c5⟩ := ih (v + 1) n (F + 1) _ _ (by omega) (by omega) hsz (by omega) hss
      exact ⟨F', sz', sizes', f', c1, c2, c3, c4, by rw [c5, upd_no (by omega)]⟩
theorem s_lay {a : Nat → Nat} {N r t s : Nat} (hN : 300 ≤ N) (hI : IC a) (hr : r ≤ 3) (ht : t < 100) (hs12 : s ≤ 12) (x2 x3 x4 : Int32) (f sizes : Nat → Int32) (h0 : sizes 0 = 0) : ∃ F' sz' sizes' f', g_X5_lay N x2 x4 x3 f sizes (nI (a 0)) (nI r) (nI t) (nI s) = some (nI F', nI (nB t F'), nI (F' * nB t F' * nC t F'), nI (nC t F'), f', sizes') ∧ SE F' (nB t F') (nC t F') sz' (F' * nB t F' * nC t F') f' ∧ SZ (fitN (a 0) r) s F' sz' ∧ F' ≤ 13 ∧ sizes' 0 = 0 := by
  obtain ⟨F', sz', sizes', f', c1, c2, c3, c4, c5⟩ := s_lay_8 (N := N) (t := t) (s := s) hN hI hr ht hs12 x2 x3 x4 f s 0 N 1 (fun _ => 0) sizes (by omega) (by omega) ⟨by omega, rfl, fun i j h1 h2 => by omega, fun i _ => Or.inl rfl, fun v hv => ⟨0, by omega, (show (0 : Nat) = v by rcases hv with e | ⟨e, -⟩ <;> omega)⟩⟩ (by omega) (fun i hi => by
    have e : i = 0 := by omega
    subst e
    exact h0)
  exact ⟨F', sz', sizes', f', c1, c2, c3, c4, c5.trans h0⟩
