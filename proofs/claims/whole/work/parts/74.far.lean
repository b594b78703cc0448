/-! walks: how far, on both sides -/
def Rch (n : Nat) (S : Nat → Nat → Prop) (s0 : Nat) : Nat → Nat → Prop
  | 0, t => t = s0
  | d + 1, t => Rch n S s0 d t ∨ ∃ u, Rch n S s0 d u ∧ t < n ∧ S u t
theorem Rch_lt {n : Nat} {S : Nat → Nat → Prop} {s0 : Nat} (h0 : s0 < n) : ∀ d t, Rch n S s0 d t → t < n := by
  intro d
  induction d with
  | zero => intro t h; rw [show t = s0 from h]; exact h0
  | succ d ih =>
    intro t h
    rcases h with h | ⟨u, _, h2, _⟩
    · exact ih t h
    · exact h2
def cntU (h : Nat → Nat) : Nat → Nat
  | 0 => 0
  | k + 1 => cntU h k + (if h k = 9999 then 1 else 0)
theorem cntU_up {h : Nat → Nat} {t v : Nat} (ht : h t = 9999) (hv : v ≠ 9999) : ∀ n, cntU (va_up h t v) n + (if t < n then 1 else 0) = cntU h n := by
  intro n
  induction n with
  | zero => rw [if_neg (Nat.not_lt_zero _)]; rfl
  | succ n ih =>
    rw [cntU, cntU]
    by_cases e : n = t
    · subst e
      rw [va_up_at, if_neg hv, if_pos ht]
      rw [if_neg (Nat.lt_irrefl _)] at ih
      rw [if_pos (Nat.lt_succ_self _)]
      omega
    · rw [va_up_no _ _ e]
      by_cases f : t < n
      · rw [if_pos f] at ih; rw [if_pos (show t < n + 1 by omega)]; omega
      · rw [if_neg f] at ih; rw [if_neg (show ¬ t < n + 1 by omega)]; omega
theorem cntU_0 {h : Nat → Nat} : ∀ n, cntU h n = 0 → ∀ t, t < n → h t ≠ 9999 := by
  intro n
  induction n with
  | zero => intro _ t ht; omega
  | succ n ih =>
    intro h0 t ht
    rw [cntU] at h0
    rcases (show t = n ∨ t < n by omega) with rfl | q
    · intro e; rw [if_pos e] at h0; omega
    · exact ih (by omega) t q
theorem cntU_all (n : Nat) : cntU (fun _ => 9999) n = n := by
  induction n with
  | zero => rfl
  | succ n ih => rw [cntU, ih, if_pos rfl]
def BI (n : Nat) (S : Nat → Nat → Prop) (s0 tail head : Nat) (q h : Nat → Nat) : Prop :=
  (head ≤ tail ∧ s0 < n ∧ h s0 < 9999 ∧ tail + cntU h n = n) ∧ (∀ i, i < tail → q i < n ∧ h (q i) < 9999 ∧ h (q i) ≤ i) ∧ (∀ t, t < n → h t < 9999 → ∃ i, i < tail ∧ q i = t) ∧
  (∀ i j, i ≤ j → j < tail → h (q i) ≤ h (q j)) ∧ (∀ j, head < tail → j < tail → h (q j) ≤ h (q head) + 1) ∧ (∀ i t, i < head → t < n → S (q i) t → h t < 9999) ∧
  (∀ t, t < n → h t < 9999 → Rch n S s0 (h t) t) ∧ (∀ t d, t < n → h t < 9999 → Rch n S s0 d t → h t ≤ d) ∧ (∀ t d, head < tail → d ≤ h (q head) → Rch n S s0 d t → h t < 9999) ∧ ∀ t, h t ≤ 9999
theorem BI.disc {n : Nat} {S : Nat → Nat → Prop} {s0 tail head t : Nat} {q h : Nat → Nat} (hn : n ≤ 1024) (B : BI n S s0 tail head q h) (hh : head < tail) (ht : t < n) (hu : h t = 9999) (hS : S (q head) t) : BI n S s0 (tail + 1) head (va_up q tail t) (va_up h t (h (q head) + 1)) := by
  obtain ⟨⟨a1, a2, a3, a4⟩, b, c, d, e, f, g, i1, i2, i3⟩ := B
  obtain ⟨b1, b2, b3⟩ := b head hh
  have hq : ∀ i, i < tail → q i ≠ t := fun i hi hc => by have := (b i hi).2.1; rw [hc, hu] at this; omega
  have hqi : ∀ i, i < tail → va_up h t (h (q head) + 1) (va_up q tail t i) = h (q i) := fun i hi => by rw [va_up_no q t (by omega), va_up_no _ _ (hq i hi)]
  have hqt : va_up h t (h (q head) + 1) (va_up q tail t tail) = h (q head) + 1 := by rw [va_up_at, va_up_at]
  have hle : ∀ w, h w < 9999 → va_up h t (h (q head) + 1) w < 9999 := fun w hw => by
    by_cases z : w = t
    · rw [z, va_up_at]; omega
    · rw [va_up_no _ _ z]; exact hw
  refine ⟨⟨by omega, a2, hle _ a3, ?_⟩, fun i hi => ?_, fun w hw hw2 => ?_, fun i j hij hj => ?_, fun j _ hj => ?_, fun i w hi hw hs => ?_, fun w hw hw2 => ?_, fun w k hw hw2 hr => ?_, fun w k _ hk hr => ?_, fun w => ?_⟩
  · have := cntU_up hu (show h (q head) + 1 ≠ 9999 by omega) n
    rw [if_pos ht] at this
    omega
  · rcases (show i = tail ∨ i < tail by omega) with rfl | z
    · rw [hqt, va_up_at]; exact ⟨ht, by omega, by omega⟩
    · rw [hqi i z, va_up_no q t (by omega)]; exact b i z
  · by_cases z : w = t
    · exact ⟨tail, by omega, by rw [va_up_at, z]⟩
    · rw [va_up_no _ _ z] at hw2
      obtain ⟨i, j1, j2⟩ := c w hw hw2
      exact ⟨i, by omega, by rw [va_up_no q t (by omega)]; exact j2⟩
  · rcases (show j = tail ∨ j < tail by omega) with rfl | z
    · rw [hqt]
      rcases (show i = j ∨ i < j by omega) with rfl | y
      · rw [hqt]; exact Nat.le_refl _
      · rw [hqi i y]; exact e i hh y
    · rw [hqi i (by omega), hqi j z]; exact d i j hij z
  · rw [hqi head hh]
    rcases (show j = tail ∨ j < tail by omega) with rfl | z
    · rw [hqt]; exact Nat.le_refl _
    · rw [hqi j z]; exact e j hh z
  · rw [va_up_no q t (by omega)] at hs
    exact hle _ (f i w hi hw hs)
  · by_cases z : w = t
    · subst z
      rw [va_up_at]
      exact Or.inr ⟨q head, g _ b1 b2, hw, hS⟩
    · rw [va_up_no _ _ z] at hw2 ⊢
      exact g w hw hw2
  · by_cases z : w = t
    · subst z
      rw [va_up_at]
      rcases Nat.lt_or_ge (h (q head)) k with y | y
      · exact y
      · have := i2 w k hh y hr
        omega
    · rw [va_up_no _ _ z] at hw2 ⊢
      exact i1 w k hw hw2 hr
  · rw [hqi head hh] at hk
    exact hle _ (i2 w k hh hk hr)
  · by_cases z : w = t
    · rw [z, va_up_at]; omega
    · rw [va_up_no _ _ z]; exact i3 w
theorem BI.adv {n : Nat} {S : Nat → Nat → Prop} {s0 tail head : Nat} {q h : Nat → Nat} (B : BI n S s0 tail head q h) (hh : head < tail) (hS : ∀ t, t < n → S (q head) t → h t < 9999) : BI n S s0 tail (head + 1) q h := by
  obtain ⟨⟨a1, a2, a3, a4⟩, b, c, d, e, f, g, i1, i2, i3⟩ := B
  have hf : ∀ i t, i < head + 1 → t < n → S (q i) t → h t < 9999 := by
    intro i t hi ht hs
    rcases (show i = head ∨ i < head by omega) with rfl | z
    · exact hS t ht hs
    · exact f i t z ht hs
  refine ⟨⟨by omega, a2, a3, a4⟩, b, c, d, fun j h1 hj => ?_, hf, g, i1, fun t k h1 hk hr => ?_, i3⟩
  · have h2 := e j hh hj
    have h3 := d head (head + 1) (by omega) h1
    omega
  · have h2 := e (head + 1) hh h1
    rcases Nat.lt_or_ge (h (q head)) k with y | y
    · have hk1 : k = h (q head) + 1 := by omega
      rw [hk1] at hr
      rcases hr with hr | ⟨u, u1, u2, u3⟩
      · exact i2 t _ hh (Nat.le_refl _) hr
      · have hu := i2 u _ hh (Nat.le_refl _) u1
        have hun := Rch_lt a2 _ _ u1
        have hul := i1 u _ hun hu u1
        obtain ⟨i, j1, j2⟩ := c u hun hu
        refine hf i t ?_ u2 (by rw [j2]; exact u3)
        rcases Nat.lt_or_ge i (head + 1) with z | z
        · exact z
        · have := d (head + 1) i z j1
          rw [j2] at this
          omega
    · exact i2 t k hh y hr
/-- h is how far each is from s0 -/
def DST (n : Nat) (S : Nat → Nat → Prop) (s0 : Nat) (h : Nat → Nat) : Prop := (∀ t, t < n → h t < 9999 → Rch n S s0 (h t) t) ∧ (∀ t d, t < n → Rch n S s0 d t → h t ≤ d) ∧ (∀ t, t < n → h t = 9999 ∨ h t < 1024) ∧ s0 < n ∧ h s0 = 0
theorem BI.dst {n : Nat} {S : Nat → Nat → Prop} {s0 tail head : Nat} {q h : Nat → Nat} (hn : n ≤ 1024) (B : BI n S s0 tail head q h) (hh : head = tail ∨ tail = n) : DST n S s0 h := by
  obtain ⟨⟨a1, a2, a3, a4⟩, b, c, d, e, f, g, i1, i2, i3⟩ := B
  have hall : ∀ k t, Rch n S s0 k t → h t < 9999 := by
    rcases hh with hh | hh
    · intro k
      induction k with
      | zero => intro t ht; rw [show t = s0 from ht]; exact a3
      | succ k ih =>
        intro t ht
        rcases ht with ht | ⟨u, u1, u2, u3⟩
        · exact ih t ht
        · obtain ⟨i, j1, j2⟩ := c u (Rch_lt a2 _ _ u1) (ih u u1)
          exact f i t (by omega) u2 (by rw [j2]; exact u3)
    · intro k t ht
      have h1 := cntU_0 (h := h) n (by omega) t (Rch_lt a2 _ _ ht)
      have h2 := i3 t
      omega
  refine ⟨g, fun t k ht hr => i1 t k ht (hall k t hr) hr, fun t ht => ?_, a2, ?_⟩
  · have h2 := i3 t
    rcases (show h t = 9999 ∨ h t < 9999 by omega) with z | z
    · exact Or.inl z
    · obtain ⟨i, j1, j2⟩ := c t ht z
      have := (b i j1).2.2
      rw [j2] at this
      right; omega
  · have := i1 s0 0 a2 a3 rfl
    omega
theorem DST.uq {n : Nat} {S : Nat → Nat → Prop} {s0 : Nat} {h h' : Nat → Nat} (H : DST n S s0 h) (H' : DST n S s0 h') {t : Nat} (ht : t < n) : h t = h' t := by
  obtain ⟨a1, a2, a3, -⟩ := H
  obtain ⟨b1, b2, b3, -⟩ := H'
  rcases a3 t ht with e | e <;> rcases b3 t ht with f | f
  · omega
  · have := a2 t _ ht (b1 t ht (by omega)); omega
  · have := b2 t _ ht (a1 t ht (by omega)); omega
  · have h1 := a2 t _ ht (b1 t ht (by omega))
    have h2 := b2 t _ ht (a1 t ht (by omega))
    omega
theorem BI.start {n : Nat} {S : Nat → Nat → Prop} {s0 : Nat} (h0 : s0 < n) (q : Nat → Nat) (hq : q 0 = s0) : BI n S s0 1 0 q (va_up (fun _ => 9999) s0 0) := by
  have hz : va_up (fun _ => 9999) s0 0 s0 = 0 := va_up_at _ _ _
  have hlt : ∀ t, va_up (fun _ => 9999) s0 0 t < 9999 → t = s0 := by
    intro t ht
    by_cases z : t = s0
    · exact z
    · rw [va_up_no _ _ z] at ht; omega
  refine ⟨⟨by omega, h0, by rw [hz]; omega, ?_⟩, fun i hi => ?_, fun t _ ht2 => ⟨0, by omega, by rw [hq, hlt t ht2]⟩, fun i j hij hj => ?_, fun j _ hj => ?_, fun i t hi => absurd hi (Nat.not_lt_zero _), fun t _ ht2 => ?_, fun t d _ ht2 _ => ?_, fun t d _ hd hr => ?_, fun t => ?_⟩
  · have := cntU_up (h := fun _ => 9999) (t := s0) (v := 0) rfl (by decide) n
    rw [if_pos h0, cntU_all] at this
    omega
  · have e : i = 0 := by omega
    subst e
    rw [hq, hz]; exact ⟨h0, by omega, by omega⟩
  · have e : i = j := by omega
    rw [e]; exact Nat.le_refl _
  · have e : j = 0 := by omega
    subst e; omega
  · have e := hlt t ht2
    rw [e, hz]; rfl
  · rw [hlt t ht2, hz]; exact Nat.zero_le _
  · rw [hq, hz] at hd
    have e : d = 0 := by omega
    subst e
    rw [show t = s0 from hr, hz]; omega
  · by_cases z : t = s0
    · rw [z, hz]; omega
    · rw [va_up_no _ _ z]; exact Nat.le_refl _
/-! the class -/
def eh (x : Nat) : Int32 := if x = 9999 then -1 else nI x
theorem eh_m1 {x : Nat} (h : x ≤ 9999) : eh x = -1 ↔ x = 9999 := by
  unfold eh
  by_cases e : x = 9999
  · rw [if_pos e]; exact ⟨fun _ => e, fun _ => rfl⟩
  · rw [if_neg e]; exact ⟨fun h' => absurd h' (nI_nm1 (by omega)), fun h' => absurd h' e⟩
theorem s_stateCount {P : Nat} (hP : P ≤ 5) : g_X8_stateCount (nI P) = some (nI (2 ^ (2 * P))) := by
  have := p2P hP
  unfold g_X8_stateCount
  rw [show (2 : Int32) * nI P = nI (2 * P) from pk_mul 2 P, z_pow (by omega), if_neg (show ¬ 1024 < nI (2 ^ (2 * P)) from fun h => absurd ((e_lt (a := 1024) (by decide) (by omega)).mp h) (by omega))]
def STP (w ft P : Nat) (s t : Nat) : Prop := ST w ft P s t
theorem s_spread_73 {n : Nat} {S : Nat → Nat → Prop} {s0 head m : Nat} {near ch goers group : Nat → Int32} {cc : Int32} (hn : n ≤ 1024) (hm : m ≤ 1024) (K : Int32 → Int32 → Int32 → Int32 → (Nat → Int32) → (Nat → Int32) → (Nat → Int32) → (Nat → Int32) → (Nat → Int32) → (Nat → Int32) → Option (Int32 × Int32 × (Nat → Int32) × (Nat → Int32) × (Nat → Int32) × (Nat → Int32) × (Nat → Int32) × (Nat → Int32))) (u0 : Nat) (hL : LIST m near (fun t => t < n ∧ S u0 t)) : ∀ (d i fu tail : Nat) (q h : Nat → Nat) (hours queue : Nat → Int32), i + d = m → d < fu → head < tail → q head = u0 → BI n S s0 tail head q h → (∀ t, t < n → hours t = eh (h t)) → (∀ j, j < tail → queue j = nI (q j)) → (∀ j t, j < i → t < n → near j = nI t → h t < 9999) → ∃ tail' q' h' hours' queue', g_X8_spread_73 K fu (nI tail) (nI head) (nI i) cc (nI m) ch goers group hours near queue = K (nI tail') (nI (head + 1)) cc (nI m) ch goers group hours' near queue' ∧ head < tail' ∧ BI n S s0 tail' (head + 1) q' h' ∧ (∀ t, t < n → hours' t = eh (h' t)) ∧ ∀ j, j < tail' → queue' j = nI (q' j) := by
  intro d
  induction d with
  | zero =>
    intro i fu tail q h hours queue e1 e2 hh hq B hE hQ hD
    obtain ⟨fu, rfl⟩ : ∃ z, fu = z + 1 := ⟨fu - 1, by omega⟩
    have htn : tail ≤ n := by have := B.1.2.2.2; omega
    refine ⟨tail, q, h, hours, queue, by rw [g_X8_spread_73, if_pos (nI_le (by omega) (by omega)), z_1], hh, B.adv hh (fun t ht hs => ?_), hE, hQ⟩
    rw [hq] at hs
    obtain ⟨j, j1, j2⟩ := hL.2 t ⟨ht, hs⟩
    exact hD j t (by omega) ht j2
  | succ d ih =>
    intro i fu tail q h hours queue e1 e2 hh hq B hE hQ hD
    obtain ⟨fu, rfl⟩ : ∃ z, fu = z + 1 := ⟨fu - 1, by omega⟩
    have htn : tail ≤ n := by have := B.1.2.2.2; omega
    obtain ⟨t, t1, t2, t3⟩ := hL.1 i (by omega)
    have hb := B.2.2.2.2.2.2.2.2.2 t
    obtain ⟨b1, b2, b3⟩ := B.2.1 head hh
    rw [g_X8_spread_73, if_neg (fun h => absurd ((e_le (by omega) (by omega)).mp h) (by omega)), if_pos (in1024 (by omega)), nI_clamp (by omega), t1, if_pos (in1024 (by omega)), nI_clamp (by omega), hE t t2, ifi (eh_m1 hb), z_1]
    by_cases c : h t = 9999
    · rw [if_pos c]
      have htl : tail < n := by
        rcases Nat.lt_or_ge tail n with z | z
        · exact z
        · have := B.1.2.2.2
          exact absurd c (cntU_0 n (by omega) t t2)
      rw [if_neg (show ¬ 1024 ≤ nI tail from fun h => absurd ((e_le (a := 1024) (by decide) (by omega)).mp h) (by omega)), if_pos (in1024 (by omega)), nI_clamp (by omega), hQ head hh, if_pos (in1024 (by omega)), if_pos (in1024 (by omega)), nI_clamp (by omega), nI_clamp (by omega), hE _ b1, show eh (h (q head)) = nI (h (q head)) from if_neg (by omega), z_1, z_1]
      refine ih (i + 1) fu (tail + 1) _ _ _ _ (by omega) (by omega) (by omega) (by rw [va_up_no _ _ (by omega)]; exact hq) (B.disc hn hh t2 c (by rw [hq]; exact t3)) (fun w hw => ?_) (fun j hj => ?_) (fun j w hj hw hjw => ?_)
      · by_cases z : w = t
        · rw [z, upd_at, va_up_at]
          exact (if_neg (by omega)).symm
        · rw [upd_no z, va_up_no _ _ z]; exact hE w hw
      · by_cases z : j = tail
        · rw [z, upd_at, va_up_at]
        · rw [upd_no z, va_up_no _ _ z]; exact hQ j (by omega)
      · by_cases z : w = t
        · rw [z, va_up_at]; omega
        · rw [va_up_no _ _ z]
          rcases (show j = i ∨ j < i by omega) with rfl | y
          · rw [t1] at hjw
            exact absurd ((e_eq (by omega) (by omega)).mp hjw).symm z
          · exact hD j w y hw hjw
    · rw [if_neg c]
      refine ih (i + 1) fu tail q h hours queue (by omega) (by omega) hh hq B hE hQ (fun j w hj hw hjw => ?_)
      rcases (show j = i ∨ j < i by omega) with rfl | y
      · rw [t1] at hjw
        have := (e_eq (by omega) (by omega)).mp hjw
        rw [← this]; omega
      · exact hD j w y hw hjw
theorem s_spread_40 {w ft P s0 N : Nat} (hN : 2000 ≤ N) (hw : w < 65536) (hft : ft < 64) (hP : P ≤ 5) : ∀ (d head fu tail : Nat) (q h : Nat → Nat) (cc nc : Int32) (ch goers group hours near queue : Nat → Int32), head + d = 2 ^ (2 * P) → d < fu → BI (2 ^ (2 * P)) (ST w ft P) s0 tail head q h → (∀ t, t < 2 ^ (2 * P) → hours t = eh (h t)) → (∀ j, j < tail → queue j = nI (q j)) → ∃ h' cc' nc' ch' goers' group' hours' near' queue', g_X8_spread_40 N (nI P) (nI w) (nI ft) fu (nI tail) (nI head) cc nc ch goers group hours near queue = some (cc', nc', ch', goers', group', hours', near', queue') ∧ DST (2 ^ (2 * P)) (ST w ft P) s0 h' ∧ ∀ t, t < 2 ^ (2 * P) → hours' t = eh (h' t) := by
  have hp2 := p2P hP
  intro d
  induction d with
  | zero =>
    intro head fu tail q h cc nc ch goers group hours near queue e1 e2 B hE hQ
    obtain ⟨fu, rfl⟩ : ∃ z, fu = z + 1 := ⟨fu - 1, by omega⟩
    have htn : tail ≤ 2 ^ (2 * P) := by have := B.1.2.2.2; omega
    have hht : head = tail := by have := B.1.1; omega
    refine ⟨h, cc, nc, ch, goers, group, hours, near, queue, ?_, B.dst hp2 (Or.inl hht), hE⟩
    rw [g_X8_spread_40, if_pos (show nI tail ≤ nI head from nI_le (by omega) (by omega))]
    split <;> rfl
  | succ d ih =>
    intro head fu tail q h cc nc ch goers group hours near queue e1 e2 B hE hQ
    obtain ⟨fu, rfl⟩ : ∃ z, fu = z + 1 := ⟨fu - 1, by omega⟩
    have htn : tail ≤ 2 ^ (2 * P) := by have := B.1.2.2.2; omega
    have hht := B.1.1
    rw [g_X8_spread_40, if_neg (show ¬ 1024 ≤ nI head from fun h => absurd ((e_le (a := 1024) (by decide) (by omega)).mp h) (by omega)), ifi (e_le (a := tail) (b := head) (by omega) (by omega)), s_stateCount hP, Option.bind_some, ifi (e_le (a := 2 ^ (2 * P)) (b := tail) (by omega) (by omega)), if_pos (in1024 (by omega)), nI_clamp (by omega)]
    by_cases c1 : tail ≤ head
    · rw [if_pos c1]
      exact ⟨h, cc, nc, ch, goers, group, hours, near, queue, rfl, B.dst hp2 (Or.inl (by omega)), hE⟩
    · rw [if_neg c1]
      by_cases c2 : 2 ^ (2 * P) ≤ tail
      · rw [if_pos c2]
        exact ⟨h, cc, nc, ch, goers, group, hours, near, queue, rfl, B.dst hp2 (Or.inr (by omega)), hE⟩
      · rw [if_neg c2, hQ head (by omega)]
        obtain ⟨b1, b2, b3⟩ := B.2.1 head (by omega)
        obtain ⟨m, cc1, ch1, goers1, group1, near1, f1, f2, f3⟩ := s_findNear (N := N) hN hw hft hP (show q head < 2147483648 by omega) cc ch goers group near
        obtain ⟨tail', q', h', hours', queue', g1, g2, g3, g4, g5⟩ := s_spread_73 (s0 := s0) (ch := ch1) (goers := goers1) (group := group1) (cc := cc1) hp2 f2 (g_X8_spread_40 N (nI P) (nI w) (nI ft) fu) (q head) f3 m 0 N tail q h hours queue (by omega) (by omega) (by omega) rfl B hE hQ (fun j t hj => absurd hj (by omega))
        rw [f1, Option.bind_some]
        obtain ⟨h'', x⟩ := ih (head + 1) fu tail' q' h' cc1 (nI m) ch1 goers1 group1 hours' near1 queue' (by omega) (by omega) g3 g4 g5
        exact ⟨h'', by rw [show g_X8_spread_73 (g_X8_spread_40 N (nI P) (nI w) (nI ft) fu) N (nI tail) (nI head) 0 cc1 (nI m) ch1 goers1 group1 hours near1 queue = _ from g1]; exact x⟩
theorem s_spread_2 {w ft P s0 N : Nat} (hN : 2000 ≤ N) (hw : w < 65536) (hft : ft < 64) (hP : P ≤ 5) (h0 : s0 < 2 ^ (2 * P)) : ∀ (m k fu : Nat) (cc nc : Int32) (ch goers group hours near queue : Nat → Int32), k + m = 1024 → m < fu → (∀ j, j < k → hours j = -1) → ∃ h' cc' nc' ch' goers' group' hours' near' queue', g_X8_spread_2 N (nI P) (nI w) (nI ft) (nI s0) fu (nI k) cc nc ch goers group hours near queue = some (cc', nc', ch', goers', group', hours', near', queue') ∧ DST (2 ^ (2 * P)) (ST w ft P) s0 h' ∧ ∀ t, t < 2 ^ (2 * P) → hours' t = eh (h' t) := by
  have hp2 := p2P hP
  intro m
  induction m with
  | zero =>
    intro k fu cc nc ch goers group hours near queue e1 e2 h
    obtain ⟨fu, rfl⟩ : ∃ z, fu = z + 1 := ⟨fu - 1, by omega⟩
    have e : k = 1024 := by omega
    subst e
    rw [g_X8_spread_2, if_pos (by decide), if_pos (in1024 (by omega)), if_pos (show inb 0 1024 = true from rfl), nI_clamp (by omega)]
    refine s_spread_40 hN hw hft hP (2 ^ (2 * P)) 0 N 1 (fun _ => s0) _ cc nc ch goers group _ near _ (by omega) (by omega) (BI.start h0 _ rfl) (fun t ht => ?_) (fun j hj => ?_)
    · by_cases z : t = s0
      · rw [z, upd_at, va_up_at]; rfl
      · rw [upd_no z, va_up_no _ _ z, h t (by omega)]; rfl
    · have e : j = 0 := by omega
      subst e
      exact upd_at
  | succ m ih =>
    intro k fu cc nc ch goers group hours near queue e1 e2 h
    obtain ⟨fu, rfl⟩ : ∃ z, fu = z + 1 := ⟨fu - 1, by omega⟩
    rw [g_X8_spread_2, if_neg (show ¬ 1024 ≤ nI k from fun h => absurd ((e_le (a := 1024) (by decide) (by omega)).mp h) (by omega)), if_pos (in1024 (by omega)), nI_clamp (by omega), z_1]
    exact ih (k + 1) fu _ _ _ _ _ _ _ _ (by omega) (by omega) (fun j hj => by
      rcases (show j = k ∨ j < k by omega) with rfl | hh
      · exact upd_at
      · rw [upd_no (by omega)]; exact h j hh)
theorem s_spread {w ft P s0 N : Nat} (hN : 2000 ≤ N) (hw : w < 65536) (hft : ft < 64) (hP : P ≤ 5) (h0 : s0 < 2 ^ (2 * P)) (cc nc : Int32) (ch goers group hours near queue : Nat → Int32) : ∃ h' cc' nc' ch' goers' group' hours' near' queue', g_X8_spread N (nI P) (nI w) (nI ft) nc cc ch goers group hours near queue (nI s0) = some (cc', nc', ch', goers', group', hours', near', queue') ∧ DST (2 ^ (2 * P)) (ST w ft P) s0 h' ∧ ∀ t, t < 2 ^ (2 * P) → hours' t = eh (h' t) :=
  s_spread_2 hN hw hft hP h0 1024 0 N cc nc ch goers group hours near queue (by omega) (by omega) (fun j hj => absurd hj (by omega))
/-! the reference -/
theorem s_states {a : Nat → Nat} {al : Nat → Int32} (hI : IC a) (hM : KM a al 0) : g_X10_states al = some (nI (2 ^ (2 * a 1))) := by
  have j1 := hI.2.1
  unfold g_X10_states
  rw [if_pos in1, show (1 : Int32).toNatClampNeg = 1 from rfl, hM.at (by decide), show (2 : Int32) * nI (a 1) = nI (2 * a 1) from pk_mul 2 _, z_pow (by omega)]
theorem s_ff53 {a : Nat → Nat} {al : Nat → Int32} {N r ft s0 head : Nat} (hN : 200 ≤ N) (hI : IC a) (hW : IW a) (hM : KM a al 0) (hr : r ≤ 3) (hft : FB a r ft) (K : Int32 → Int32 → (Nat → Int32) → (Nat → Int32) → (Nat → Int32) → Option ((Nat → Int32) × (Nat → Int32) × (Nat → Int32))) : ∀ (d t fu tail : Nat) (q h : Nat → Nat) (far gone queue : Nat → Int32), t + d = 2 ^ (2 * a 1) → d < fu → head < tail → BI (2 ^ (2 * a 1)) (ST (a 359) ft (a 1)) s0 tail head q h → (∀ t, t < 2 ^ (2 * a 1) → far t = nI (h t)) → (∀ j, j < tail → queue j = nI (q j)) → (∀ u, u < t → ST (a 359) ft (a 1) (q head) u → h u < 9999) → ∃ tail' q' h' far' gone' queue', g_X10_findFar_53 N al (nI r) K fu (nI tail) (nI head) (nI t) far gone queue = K (nI tail') (nI (head + 1)) far' gone' queue' ∧ head < tail' ∧ BI (2 ^ (2 * a 1)) (ST (a 359) ft (a 1)) s0 tail' (head + 1) q' h' ∧ (∀ t, t < 2 ^ (2 * a 1) → far' t = nI (h' t)) ∧ ∀ j, j < tail' → queue' j = nI (q' j) := by
  have hp2 := p2P hI.2.1
  intro d
  induction d with
  | zero =>
    intro t fu tail q h far gone queue e1 e2 hh B hE hQ hD
    obtain ⟨fu, rfl⟩ : ∃ z, fu = z + 1 := ⟨fu - 1, by omega⟩
    have htn : tail ≤ 2 ^ (2 * a 1) := by have := B.1.2.2.2; omega
    refine ⟨tail, q, h, far, gone, queue, by rw [g_X10_findFar_53, s_states hI hM, Option.bind_some, if_pos (nI_le (by omega) (by omega)), z_1], hh, B.adv hh (fun u hu hs => hD u (by omega) hs), hE, hQ⟩
  | succ d ih =>
    intro t fu tail q h far gone queue e1 e2 hh B hE hQ hD
    obtain ⟨fu, rfl⟩ : ∃ z, fu = z + 1 := ⟨fu - 1, by omega⟩
    have htn : tail ≤ 2 ^ (2 * a 1) := by have := B.1.2.2.2; omega
    have ht : t < 2 ^ (2 * a 1) := by omega
    have hb := B.2.2.2.2.2.2.2.2.2 t
    obtain ⟨b1, b2, b3⟩ := B.2.1 head hh
    obtain ⟨b, gone1, c1, c2⟩ := s_isStep hN hI hW hM hr hft (show q head < 2147483648 by omega) (show t < 2147483648 by omega) gone
    rw [g_X10_findFar_53, s_states hI hM, Option.bind_some, if_neg (fun h => absurd ((e_le (by omega) (by omega)).mp h) (by omega)), if_pos (in1024 (by omega)), nI_clamp (by omega), hE t ht, ifi (show nI (h t) = 9999 ↔ h t = 9999 from e_eq (b := 9999) (by omega) (by decide)), if_pos (in1024 (by omega)), nI_clamp (by omega), hQ head hh, c1, Option.bind_some, if_pos (in1024 (by omega)), nI_clamp (by omega), hE _ b1, z_1 t, z_1 tail, z_1 (h (q head))]
    by_cases c : h t = 9999
    · have htl : tail < 2 ^ (2 * a 1) := by
        rcases Nat.lt_or_ge tail (2 ^ (2 * a 1)) with z | z
        · exact z
        · have := B.1.2.2.2
          exact absurd c (cntU_0 _ (by omega) t ht)
      rw [if_pos c, if_pos (in1024 (by omega)), nI_clamp (by omega)]
      cases b with
      | false =>
        rw [if_pos (show ((if false = true then 1 else 0 : Int32), gone1).1 = 0 from rfl)]
        refine ih (t + 1) fu tail q h far gone1 queue (by omega) (by omega) hh B hE hQ (fun u hu hs => ?_)
        rcases (show u = t ∨ u < t by omega) with rfl | z
        · exact absurd (c2.mpr hs) (by decide)
        · exact hD u z hs
      | true =>
        rw [if_neg (show ¬ ((if true = true then 1 else 0 : Int32), gone1).1 = 0 from (by decide : ¬ (1 : Int32) = 0))]
        refine ih (t + 1) fu (tail + 1) _ _ _ _ _ (by omega) (by omega) (by omega) (B.disc hp2 hh ht c (c2.mp rfl)) (fun w hw => ?_) (fun j hj => ?_) (fun u hu hs => ?_)
        · by_cases z : w = t
          · rw [z, upd_at, va_up_at]
          · rw [upd_no z, va_up_no _ _ z]; exact hE w hw
        · by_cases z : j = tail
          · rw [z, upd_at, va_up_at]
          · rw [upd_no z, va_up_no _ _ z]; exact hQ j (by omega)
        · by_cases z : u = t
          · rw [z, va_up_at]; omega
          · rw [va_up_no _ _ z]
            rw [va_up_no q t (by omega)] at hs
            exact hD u (by omega) hs
    · rw [if_neg c]
      refine ih (t + 1) fu tail q h far gone queue (by omega) (by omega) hh B hE hQ (fun u hu hs => ?_)
      rcases (show u = t ∨ u < t by omega) with rfl | z
      · omega
      · exact hD u z hs
theorem s_ff44 {a : Nat → Nat} {al : Nat → Int32} {N r ft s0 : Nat} (hN : 2000 ≤ N) (hI : IC a) (hW : IW a) (hM : KM a al 0) (hr : r ≤ 3) (hft : FB a r ft) : ∀ (d head fu tail : Nat) (q h : Nat → Nat) (far gone queue : Nat → Int32), head + d = 2 ^ (2 * a 1) → d < fu → BI (2 ^ (2 * a 1)) (ST (a 359) ft (a 1)) s0 tail head q h → (∀ t, t < 2 ^ (2 * a 1) → far t = nI (h t)) → (∀ j, j < tail → queue j = nI (q j)) → ∃ h' far' gone' queue', g_X10_findFar_44 N al (nI r) fu (nI tail) (nI head) far gone queue = some (far', gone', queue') ∧ DST (2 ^ (2 * a 1)) (ST (a 359) ft (a 1)) s0 h' ∧ ∀ t, t < 2 ^ (2 * a 1) → far' t = nI (h' t) := by
  have hp2 := p2P hI.2.1
  intro d
  induction d with
  | zero =>
    intro head fu tail q h far gone queue e1 e2 B hE hQ
    obtain ⟨fu, rfl⟩ : ∃ z, fu = z + 1 := ⟨fu - 1, by omega⟩
    have htn : tail ≤ 2 ^ (2 * a 1) := by have := B.1.2.2.2; omega
    have hht : head = tail := by have := B.1.1; omega
    exact ⟨h, far, gone, queue, by rw [g_X10_findFar_44, if_pos (show nI tail ≤ nI head from nI_le (by omega) (by omega))], B.dst hp2 (Or.inl hht), hE⟩
  | succ d ih =>
    intro head fu tail q h far gone queue e1 e2 B hE hQ
    obtain ⟨fu, rfl⟩ : ∃ z, fu = z + 1 := ⟨fu - 1, by omega⟩
    have htn : tail ≤ 2 ^ (2 * a 1) := by have := B.1.2.2.2; omega
    have hht := B.1.1
    rw [g_X10_findFar_44, ifi (e_le (a := tail) (b := head) (by omega) (by omega))]
    by_cases c1 : tail ≤ head
    · rw [if_pos c1]
      exact ⟨h, far, gone, queue, rfl, B.dst hp2 (Or.inl (by omega)), hE⟩
    · rw [if_neg c1]
      obtain ⟨tail', q', h', far', gone', queue', g1, g2, g3, g4, g5⟩ := s_ff53 (N := N) (s0 := s0) (by omega) hI hW hM hr hft (g_X10_findFar_44 N al (nI r) fu) (2 ^ (2 * a 1)) 0 N tail q h far gone queue (by omega) (by omega) (by omega) B hE hQ (fun u hu => absurd hu (by omega))
      obtain ⟨h'', far'', gone'', queue'', x⟩ := ih (head + 1) fu tail' q' h' far' gone' queue' (by omega) (by omega) g3 g4 g5
      exact ⟨h'', far'', gone'', queue'', by rw [show g_X10_findFar_53 N al (nI r) (g_X10_findFar_44 N al (nI r) fu) N (nI tail) (nI head) 0 far gone queue = _ from g1]; exact x⟩
theorem s_ff2 {a : Nat → Nat} {al : Nat → Int32} {N r ft s0 : Nat} (hN : 2000 ≤ N) (hI : IC a) (hW : IW a) (hM : KM a al 0) (hr : r ≤ 3) (hft : FB a r ft) (h0 : s0 < 2 ^ (2 * a 1)) : ∀ (m k fu : Nat) (far gone queue : Nat → Int32), k + m = 2 ^ (2 * a 1) → m < fu → (∀ j, j < k → far j = 9999) → ∃ h' far' gone' queue', g_X10_findFar_2 N al (nI r) (nI s0) fu (nI k) far gone queue = some (far', gone', queue') ∧ DST (2 ^ (2 * a 1)) (ST (a 359) ft (a 1)) s0 h' ∧ ∀ t, t < 2 ^ (2 * a 1) → far' t = nI (h' t) := by
  have hp2 := p2P hI.2.1
  intro m
  induction m with
  | zero =>
    intro k fu far gone queue e1 e2 h
    obtain ⟨fu, rfl⟩ : ∃ z, fu = z + 1 := ⟨fu - 1, by omega⟩
    rw [g_X10_findFar_2, s_states hI hM, Option.bind_some, if_pos (show nI (2 ^ (2 * a 1)) ≤ nI k from nI_le (by omega) (by omega)), if_pos (in1024 (by omega)), if_pos (show inb 0 1024 = true from rfl), nI_clamp (by omega)]
    refine s_ff44 hN hI hW hM hr hft (2 ^ (2 * a 1)) 0 N 1 (fun _ => s0) _ _ gone _ (by omega) (by omega) (BI.start h0 _ rfl) (fun t ht => ?_) (fun j hj => ?_)
    · by_cases z : t = s0
      · rw [z, upd_at, va_up_at]; rfl
      · rw [upd_no z, va_up_no _ _ z, h t (by omega)]; rfl
    · have e : j = 0 := by omega
      subst e
      exact upd_at
  | succ m ih =>
    intro k fu far gone queue e1 e2 h
    obtain ⟨fu, rfl⟩ : ∃ z, fu = z + 1 := ⟨fu - 1, by omega⟩
    rw [g_X10_findFar_2, s_states hI hM, Option.bind_some, if_neg (fun h => absurd ((e_le (by omega) (by omega)).mp h) (by omega)), if_pos (in1024 (by omega)), nI_clamp (by omega), z_1]
    exact ih (k + 1) fu _ _ _ (by omega) (by omega) (fun j hj => by
      rcases (show j = k ∨ j < k by omega) with rfl | hh
      · exact upd_at
      · rw [upd_no (by omega)]; exact h j hh)
theorem s_findFar {a : Nat → Nat} {al : Nat → Int32} {N r ft s0 : Nat} (hN : 2000 ≤ N) (hI : IC a) (hW : IW a) (hM : KM a al 0) (hr : r ≤ 3) (hft : FB a r ft) (h0 : s0 < 2 ^ (2 * a 1)) (far gone queue : Nat → Int32) : ∃ h' far' gone' queue', g_X10_findFar N al far gone queue (nI r) (nI s0) = some (far', gone', queue') ∧ DST (2 ^ (2 * a 1)) (ST (a 359) ft (a 1)) s0 h' ∧ ∀ t, t < 2 ^ (2 * a 1) → far' t = nI (h' t) :=
  s_ff2 hN hI hW hM hr hft h0 (2 ^ (2 * a 1)) 0 N far gone queue (by omega) (by have := p2P hI.2.1; omega) (fun j hj => absurd hj (by omega))
