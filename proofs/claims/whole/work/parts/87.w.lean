/-! read: what is kept of it -/
abbrev HT (m g k : Nat) : Prop := k = 1 ∨ k = 2 ∨ (7 ≤ k ∧ k < 23) ∨ (23 ≤ k ∧ k < 23 + m) ∨ (28 ≤ k ∧ k < 28 + m) ∨ (33 ≤ k ∧ k < 33 + g) ∨ (57 ≤ k ∧ k < 57 + g) ∨ (81 ≤ k ∧ k < 81 + g) ∨ (105 ≤ k ∧ k < 105 + g)
theorem s_22 {N : Nat} (at_ fa go me so st va : Int32) (al gf gH gh gS gt gb : Nat → Int32) : ∀ (d k fu : Nat) (gw : Nat → Int32), k + d = 16 → d < fu → (∀ j, j < k → gw j = 0) → ∃ gw', (∀ j, j < 16 → gw' j = 0) ∧ g_X10_read_22 N fu (nI k) at_ fa go me so st va al gf gH gh gS gt gw gb = ((g_X10_next N at_ st so va al).bind fun u42 => g_X10_read_45 N N u42.1 fa go me u42.2.1 u42.2.2.1 u42.2.2.2 al gf gH gh gS gt gw' gb) := by
  intro d
  induction d with
  | zero =>
    intro k fu gw e1 e2 h
    obtain ⟨fu, rfl⟩ : ∃ z, fu = z + 1 := ⟨fu - 1, by omega⟩
    refine ⟨gw, fun j hj => h j (by omega), ?_⟩
    rw [g_X10_read_22, if_pos (show 16 ≤ nI k from (e_le (a := 16) (by decide) (by omega)).mpr (by omega))]
  | succ d ih =>
    intro k fu gw e1 e2 h
    obtain ⟨fu, rfl⟩ : ∃ z, fu = z + 1 := ⟨fu - 1, by omega⟩
    obtain ⟨gw', h1, h2⟩ := ih (k + 1) fu (upd gw k 0) (by omega) (by omega) (fun j hj => by
      by_cases c : j = k
      · rw [c, upd_at]
      · rw [upd_no c]; exact h j (by omega))
    refine ⟨gw', h1, ?_⟩
    rw [g_X10_read_22, if_neg (show ¬ 16 ≤ nI k from fun h => absurd ((e_le (a := 16) (by decide) (by omega)).mp h) (by omega)), if_pos (in16 (by omega)), nI_clamp (by omega), z_1]
    exact h2
theorem s_181 {g : Nat} (hg : g ≤ 24) (at_ fa me so st va : Int32) (gf gH gh gS gt gw gb : Nat → Int32) : ∀ (d k fu : Nat) (al : Nat → Int32), k + d = g → d < fu → ∃ al', g_X10_read_181 fu (nI k) at_ fa (nI g) me so st va al gf gH gh gS gt gw gb = some (nI g, at_, fa, nI g, me, so, st, va, al', gf, gH, gh, gS, gt, gw, gb) ∧ (∀ j, k ≤ j → j < g → al' (33 + j) = gh j ∧ al' (57 + j) = gf j ∧ al' (81 + j) = gt j ∧ al' (105 + j) = gb j) ∧ ∀ i, ¬ ((33 + k ≤ i ∧ i < 33 + g) ∨ (57 + k ≤ i ∧ i < 57 + g) ∨ (81 + k ≤ i ∧ i < 81 + g) ∨ (105 + k ≤ i ∧ i < 105 + g)) → al' i = al i := by
  intro d
  induction d with
  | zero =>
    intro k fu al e1 e2
    obtain ⟨fu, rfl⟩ : ∃ z, fu = z + 1 := ⟨fu - 1, by omega⟩
    refine ⟨al, ?_, fun j h1 h2 => by omega, fun i hi => rfl⟩
    rw [g_X10_read_181, if_pos ((e_le (by omega) (by omega)).mpr (by omega))]
  | succ d ih =>
    intro k fu al e1 e2
    obtain ⟨fu, rfl⟩ : ∃ z, fu = z + 1 := ⟨fu - 1, by omega⟩
    obtain ⟨al', h1, h2, h3⟩ := ih (k + 1) fu (upd (upd (upd (upd al (33 + k) (gh k)) (57 + k) (gf k)) (81 + k) (gt k)) (105 + k) (gb k)) (by omega) (by omega)
    refine ⟨al', ?_, fun j j1 j2 => ?_, fun i hi => ?_⟩
    · rw [g_X10_read_181, if_neg (fun h => absurd ((e_le (by omega) (by omega)).mp h) (by omega)), if_pos (show inb (nI k) 24 = true by rw [inb_nI (by omega)]; simpa using (show k < 24 by omega)), show (33 : Int32) + nI k = nI (33 + k) from nI_add 33 k, show (57 : Int32) + nI k = nI (57 + k) from nI_add 57 k, show (81 : Int32) + nI k = nI (81 + k) from nI_add 81 k, show (105 : Int32) + nI k = nI (105 + k) from nI_add 105 k, if_pos (in_n (by omega)), if_pos (in_n (by omega)), if_pos (in_n (by omega)), if_pos (in_n (by omega)), nI_clamp (by omega), nI_clamp (by omega), nI_clamp (by omega), nI_clamp (by omega), nI_clamp (by omega), z_1]
      exact h1
    · rcases (show j = k ∨ k + 1 ≤ j by omega) with rfl | z
      · refine ⟨?_, ?_, ?_, ?_⟩
        · rw [h3 _ (by omega), upd_no (by omega), upd_no (by omega), upd_no (by omega), upd_at]
        · rw [h3 _ (by omega), upd_no (by omega), upd_no (by omega), upd_at]
        · rw [h3 _ (by omega), upd_no (by omega), upd_at]
        · rw [h3 _ (by omega), upd_at]
      · exact h2 j z j2
    · rw [h3 i (by omega), upd_no (by omega), upd_no (by omega), upd_no (by omega), upd_no (by omega)]
theorem s_135 {N m : Nat} (hm : m ≤ 5) (at_ fa go so st va : Int32) (gf gH gh gS gt gw gb : Nat → Int32) : ∀ (d k fu : Nat) (al : Nat → Int32), k + d = m → d < fu → ∃ al', g_X10_read_135 N fu (nI k) at_ fa go (nI m) so st va al gf gH gh gS gt gw gb = g_X10_read_181 N 0 at_ fa go (nI m) so st va al' gf gH gh gS gt gw gb ∧ (∀ j, k ≤ j → j < m → al' (23 + j) = gS j ∧ al' (28 + j) = gH j) ∧ ∀ i, ¬ ((23 + k ≤ i ∧ i < 23 + m) ∨ (28 + k ≤ i ∧ i < 28 + m)) → al' i = al i := by
  intro d
  induction d with
  | zero =>
    intro k fu al e1 e2
    obtain ⟨fu, rfl⟩ : ∃ z, fu = z + 1 := ⟨fu - 1, by omega⟩
    refine ⟨al, ?_, fun j h1 h2 => by omega, fun i hi => rfl⟩
    rw [g_X10_read_135, if_pos ((e_le (by omega) (by omega)).mpr (by omega))]
  | succ d ih =>
    intro k fu al e1 e2
    obtain ⟨fu, rfl⟩ : ∃ z, fu = z + 1 := ⟨fu - 1, by omega⟩
    obtain ⟨al', h1, h2, h3⟩ := ih (k + 1) fu (upd (upd al (23 + k) (gS k)) (28 + k) (gH k)) (by omega) (by omega)
    refine ⟨al', ?_, fun j j1 j2 => ?_, fun i hi => ?_⟩
    · rw [g_X10_read_135, if_neg (fun h => absurd ((e_le (by omega) (by omega)).mp h) (by omega)), if_pos (show inb (nI k) 5 = true by rw [inb_nI (by omega)]; simpa using (show k < 5 by omega)), show (23 : Int32) + nI k = nI (23 + k) from nI_add 23 k, show (28 : Int32) + nI k = nI (28 + k) from nI_add 28 k, if_pos (in_n (by omega)), if_pos (in_n (by omega)), nI_clamp (by omega), nI_clamp (by omega), nI_clamp (by omega), z_1]
      exact h1
    · rcases (show j = k ∨ k + 1 ≤ j by omega) with rfl | z
      · refine ⟨?_, ?_⟩
        · rw [h3 _ (by omega), upd_no (by omega), upd_at]
        · rw [h3 _ (by omega), upd_at]
      · exact h2 j z j2
    · rw [h3 i (by omega), upd_no (by omega), upd_no (by omega)]
theorem s_106 {N : Nat} (at_ fa go me so st va : Int32) (gf gH gh gS gt gw gb : Nat → Int32) : ∀ (d k fu : Nat) (al : Nat → Int32), k + d = 16 → d < fu → ∃ al', g_X10_read_106 N fu (nI k) at_ fa go me so st va al gf gH gh gS gt gw gb = g_X10_read_135 N N 0 at_ fa go me so st va al' gf gH gh gS gt gw gb ∧ (∀ j, k ≤ j → j < 16 → al' (7 + j) = gw j) ∧ ∀ i, ¬ (7 + k ≤ i ∧ i < 23) → al' i = al i := by
  intro d
  induction d with
  | zero =>
    intro k fu al e1 e2
    obtain ⟨fu, rfl⟩ : ∃ z, fu = z + 1 := ⟨fu - 1, by omega⟩
    refine ⟨al, ?_, fun j h1 h2 => by omega, fun i hi => rfl⟩
    rw [g_X10_read_106, if_pos (show 16 ≤ nI k from (e_le (a := 16) (by decide) (by omega)).mpr (by omega))]
  | succ d ih =>
    intro k fu al e1 e2
    obtain ⟨fu, rfl⟩ : ∃ z, fu = z + 1 := ⟨fu - 1, by omega⟩
    obtain ⟨al', h1, h2, h3⟩ := ih (k + 1) fu (upd al (7 + k) (gw k)) (by omega) (by omega)
    refine ⟨al', ?_, fun j j1 j2 => ?_, fun i hi => ?_⟩
    · rw [g_X10_read_106, if_neg (show ¬ 16 ≤ nI k from fun h => absurd ((e_le (a := 16) (by decide) (by omega)).mp h) (by omega)), if_pos (in16 (by omega)), show (7 : Int32) + nI k = nI (7 + k) from nI_add 7 k, if_pos (in_n (by omega)), nI_clamp (by omega), nI_clamp (by omega), z_1]
      exact h1
    · rcases (show j = k ∨ k + 1 ≤ j by omega) with rfl | z
      · rw [h3 _ (by omega), upd_at]
      · exact h2 j z j2
    · rw [h3 i (by omega), upd_no (by omega)]
theorem s_68 {N m g : Nat} (hN : 300 ≤ N) (hm : m ≤ 5) (hg : g ≤ 24) (at_ so st va : Int32) (al gf gH gh gS gt gw gb : Nat → Int32) : ∃ al', g_X10_read_68 N at_ (-1) (nI g) (nI m) so st va al gf gH gh gS gt gw gb = some (nI g, at_, -1, nI g, nI m, so, st, va, al', gf, gH, gh, gS, gt, gw, gb) ∧ al' 1 = nI m ∧ al' 2 = nI g ∧ (∀ j, j < 16 → al' (7 + j) = gw j) ∧ (∀ j, j < m → al' (23 + j) = gS j ∧ al' (28 + j) = gH j) ∧ (∀ j, j < g → al' (33 + j) = gh j ∧ al' (57 + j) = gf j ∧ al' (81 + j) = gt j ∧ al' (105 + j) = gb j) ∧ ∀ i, ¬ HT m g i → al' i = al i := by
  obtain ⟨a1, p1, p2, p3⟩ := s_106 (N := N) at_ (-1) (nI g) (nI m) so st va gf gH gh gS gt gw gb 16 0 N (upd (upd al 1 (nI m)) 2 (nI g)) (by omega) (by omega)
  obtain ⟨a2, q1, q2, q3⟩ := s_135 (N := N) hm at_ (-1) (nI g) so st va gf gH gh gS gt gw gb m 0 N a1 (by omega) (by omega)
  obtain ⟨a3, r1, r2, r3⟩ := s_181 hg at_ (-1) (nI m) so st va gf gH gh gS gt gw gb g 0 N a2 (by omega) (by omega)
  refine ⟨a3, ?_, ?_, ?_, fun j hj => ?_, fun j hj => ?_, fun j hj => r2 j (by omega) hj, fun i hi => ?_⟩
  · unfold g_X10_read_68
    rw [if_pos rfl, if_pos (show inb 1 1080 = true from rfl), if_pos (show inb 2 1080 = true from rfl)]
    exact (p1.trans q1).trans r1
  · rw [r3 1 (by omega), q3 1 (by omega), p3 1 (by omega), upd_no (by omega), upd_at]
  · rw [r3 2 (by omega), q3 2 (by omega), p3 2 (by omega), upd_at]
  · rw [r3 _ (by omega), q3 _ (by omega), p2 j (by omega) hj]
  · rw [r3 _ (by omega), r3 _ (by omega)]
    exact q2 j (by omega) hj
  · rw [r3 i (by omega), q3 i (by omega), p3 i (by omega), upd_no (by omega), upd_no (by omega)]
