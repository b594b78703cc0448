/-! walks: the state of all, the key, never, the row, the cache -/
/-- the state of the digits from b on -/
def sv (a : Nat → Nat) (b : Nat) : Nat → Nat
  | 0 => 0
  | p + 1 => 4 * sv a b p + a (b + p)
theorem sv_lt {a : Nat → Nat} {b : Nat} : ∀ n, (∀ p, p < n → a (b + p) < 4) → sv a b n < 2 ^ (2 * n) := by
  intro n
  induction n with
  | zero => intro _; exact Nat.two_pow_pos _
  | succ n ih =>
    intro h
    have h1 := ih (fun p hp => h p (by omega))
    have h2 := h n (by omega)
    rw [sv, show 2 * (n + 1) = 2 * n + 2 by omega, Nat.pow_add]
    omega
theorem sv_dg {a : Nat → Nat} {b p : Nat} : ∀ n, p < n → (∀ p, p < n → a (b + p) < 4) → dg n (sv a b n) p = a (b + p) := by
  intro n
  induction n with
  | zero => intro h; omega
  | succ n ih =>
    intro h h4
    have h2 := h4 n (by omega)
    unfold dg
    rw [sv]
    rcases (show p = n ∨ p < n by omega) with rfl | q
    · rw [show 2 * (p + 1 - 1 - p) = 0 by omega, Nat.pow_zero, Nat.div_one]
      omega
    · have := ih q (fun p hp => h4 p (by omega))
      unfold dg at this
      rw [show 2 * (n + 1 - 1 - p) = 2 + 2 * (n - 1 - p) by omega, Nat.pow_add, ← Nat.div_div_eq_div_mul, show (4 * sv a b n + a (b + n)) / 2 ^ 2 = sv a b n by omega]
      exact this
theorem z_push {x v : Nat} (hx : x < 268435456) (hv : v < 4) : (nI x <<< ((2 : Int32) &&& 31)) ||| (nI v &&& 3) = nI (4 * x + v) := by
  rw [show ((2 : Int32) &&& 31) = (nI 2 &&& 31) from rfl, z_shl (by omega) (show x * 2 ^ 2 < 4294967296 by omega), z_and3 (by omega), z_or, Nat.mod_eq_of_lt hv]
  congr 1
  rw [← Nat.shiftLeft_eq, ← Nat.shiftLeft_add_eq_or_of_lt (show v < 2 ^ 2 by omega), Nat.shiftLeft_eq]
  omega
theorem s_state_4 {a : Nat → Nat} {b : Nat} {f : Nat → Int32} (hI : IC a) (h : AR a 1 b f) (h4 : ∀ p, p < a 1 → a (b + p) < 4) : ∀ (m p n : Nat), p + m = a 1 → m < n → g_X8_state_4 5 (nI (a 1)) (nI (a 1)) f n (nI (sv a b p)) (nI p) = some (nI (sv a b (a 1))) := by
  have j1 := hI.2.1
  intro m
  induction m with
  | zero =>
    intro p n e1 e2
    obtain ⟨n, rfl⟩ : ∃ z, n = z + 1 := ⟨n - 1, by omega⟩
    have e : p = a 1 := by omega
    have hl := sv_lt (a := a) (b := b) (a 1) h4
    have hp2 := p2P j1
    rw [g_X8_state_4, if_pos (nI_le (by omega) (by omega)), e, show nI (sv a b (a 1)) &&& 1023 = nI (sv a b (a 1) % 2 ^ 10) from pk_andN (by omega) 10 (by decide), Nat.mod_eq_of_lt (show sv a b (a 1) < 2 ^ 10 by omega)]
  | succ m ih =>
    intro p n e1 e2
    obtain ⟨n, rfl⟩ : ∃ z, n = z + 1 := ⟨n - 1, by omega⟩
    have hl := sv_lt (a := a) (b := b) p (fun q hq => h4 q (by omega))
    have hp3 : 2 ^ (2 * p) ≤ 1024 := p2P (by omega)
    rw [g_X8_state_4, if_neg (fun h => absurd ((e_le (by omega) (by omega)).mp h) (by omega)), s_get (by decide) j1 (by omega), Option.bind_some, if_pos (show p < a 1 by omega), h p (by omega), z_push (by omega) (h4 p (by omega)), z_1]
    exact ih (p + 1) n (by omega) (by omega)
theorem s_state {a : Nat → Nat} {b N : Nat} {f : Nat → Int32} (hN : 200 ≤ N) (hI : IC a) (h : AR a 1 b f) (h4 : ∀ p, p < a 1 → a (b + p) < 4) : g_X8_state N 5 (nI (a 1)) (nI (a 1)) f = some (nI (sv a b (a 1))) := s_state_4 hI h h4 (a 1) 0 N (by omega) (by have := hI.2.1; omega)
theorem s_stateOf_4 {a : Nat → Nat} {b : Nat} {al : Nat → Int32} (hI : IC a) (hM : KM a al 0) (hb : b < 100) : ∀ (m p n : Nat), p + m = a 1 → m < n → g_X10_stateOf_4 al (nI b) n (nI (sv a b p)) (nI p) = some (nI (sv a b (a 1))) := by
  have j1 := hI.2.1
  intro m
  induction m with
  | zero =>
    intro p n e1 e2
    obtain ⟨n, rfl⟩ : ∃ z, n = z + 1 := ⟨n - 1, by omega⟩
    have e : p = a 1 := by omega
    rw [g_X10_stateOf_4, if_pos in1, show (1 : Int32).toNatClampNeg = 1 from rfl, hM.at (by decide), if_pos (nI_le (by omega) (by omega)), e]
  | succ m ih =>
    intro p n e1 e2
    obtain ⟨n, rfl⟩ : ∃ z, n = z + 1 := ⟨n - 1, by omega⟩
    rw [g_X10_stateOf_4, if_pos in1, show (1 : Int32).toNatClampNeg = 1 from rfl, hM.at (by decide), if_neg (fun h => absurd ((e_le (by omega) (by omega)).mp h) (by omega)), nI_add, if_pos (in_n (by omega)), nI_clamp (by omega), hM.at (by omega), show (4 : Int32) * nI (sv a b p) = nI (4 * sv a b p) from pk_mul 4 _, nI_add, z_1]
    exact ih (p + 1) n (by omega) (by omega)
theorem s_stateOf {a : Nat → Nat} {b N : Nat} {al : Nat → Int32} (hN : 200 ≤ N) (hI : IC a) (hM : KM a al 0) (hb : b < 100) : g_X10_stateOf N al (nI b) = some (nI (sv a b (a 1))) := s_stateOf_4 hI hM hb (a 1) 0 N (by omega) (by have := hI.2.1; omega)
/-! never -/
/-- state k is reached: those at home in it are not among never -/
def nv (P k H : Nat) : Nat → Int32 → Int32
  | 0, x => x
  | p + 1, x => if dg P k p = dg P H p then nv P k H p x &&& ((1 <<< (nI p &&& 31)) ^^^ (-1)) else nv P k H p x
def nA (P H : Nat) (h : Nat → Nat) (x : Int32) : Nat → Int32
  | 0 => x
  | k + 1 => if h k = 9999 then nA P H h x k else nv P k H P (nA P H h x k)
theorem nA_cg {P H : Nat} {h h' : Nat → Nat} {x : Int32} : ∀ n, (∀ t, t < n → h t = h' t) → nA P H h x n = nA P H h' x n := by
  intro n
  induction n with
  | zero => intro _; rfl
  | succ n ih => intro H; rw [nA, nA, ih (fun t ht => H t (by omega)), H n (by omega)]
theorem s_corner {P s p : Nat} (hP : P ≤ 5) (hs : s < 2147483648) (hp : p < P) : g_X8_corner (nI P) (nI s) (nI p) = some (nI (dg P s p)) := by
  unfold g_X8_corner
  rw [s_shift hp, Option.bind_some, z_dg' hP hs]
theorem s_findNever_24 {P H k : Nat} {h : Nat → Nat} {hours : Nat → Int32} (hP : P ≤ 5) (hH : H < 1024) (hk : k < 1024) (hhk : hours k = eh (h k)) (hne : h k < 9999) (K : Int32 → Int32 → Option Int32) (x : Int32) : ∀ (m p n : Nat), p + m = P → m < n → g_X8_findNever_24 (nI P) hours (nI H) K n (nI k) (nI p) (nv P k H p x) = K (nI (k + 1)) (nv P k H P x) := by
  intro m
  induction m with
  | zero =>
    intro p n e1 e2
    obtain ⟨n, rfl⟩ : ∃ z, n = z + 1 := ⟨n - 1, by omega⟩
    rw [g_X8_findNever_24, if_pos (nI_le (by omega) (by omega)), z_1, show p = P by omega]
  | succ m ih =>
    intro p n e1 e2
    obtain ⟨n, rfl⟩ : ∃ z, n = z + 1 := ⟨n - 1, by omega⟩
    have ih' := ih (p + 1) n (by omega) (by omega)
    rw [nv] at ih'
    have d1 := dg_lt P k p
    have d2 := dg_lt P H p
    rw [g_X8_findNever_24, if_neg (fun h => absurd ((e_le (by omega) (by omega)).mp h) (by omega)), if_pos (in1024 hk), nI_clamp (by omega), hhk, if_neg (fun hh => by have := (eh_m1 (by omega)).mp hh; omega), s_corner hP (by omega) (by omega), s_corner hP (by omega) (by omega), Option.bind_some, Option.bind_some, ifi (e_eq (by omega) (by omega)), z_1 p]
    by_cases c : dg P k p = dg P H p
    · rw [if_pos c] at ih' ⊢; exact ih'
    · rw [if_neg c] at ih' ⊢; exact ih'
theorem s_findNever_14 {P H N : Nat} {h : Nat → Nat} {hours : Nat → Int32} (hN : 2000 ≤ N) (hP : P ≤ 5) (hH : H < 1024) (hE : ∀ t, t < 2 ^ (2 * P) → hours t = eh (h t)) (hb : ∀ t, t < 2 ^ (2 * P) → h t ≤ 9999) (hP0 : 0 < P ∨ True) (x : Int32) : ∀ (m k n : Nat), k + m = 2 ^ (2 * P) → m < n → g_X8_findNever_14 N (nI P) hours (nI H) n (nI k) (nA P H h x k) = some (nA P H h x (2 ^ (2 * P))) := by
  have hp2 := p2P hP
  intro m
  induction m with
  | zero =>
    intro k n e1 e2
    obtain ⟨n, rfl⟩ : ∃ z, n = z + 1 := ⟨n - 1, by omega⟩
    rw [g_X8_findNever_14, s_stateCount hP, Option.bind_some, if_pos (nI_le (by omega) (by omega)), show k = 2 ^ (2 * P) by omega]
  | succ m ih =>
    intro k n e1 e2
    obtain ⟨n, rfl⟩ : ∃ z, n = z + 1 := ⟨n - 1, by omega⟩
    have ih' := ih (k + 1) n (by omega) (by omega)
    rw [nA] at ih'
    rw [g_X8_findNever_14, s_stateCount hP, Option.bind_some, if_neg (fun h => absurd ((e_le (by omega) (by omega)).mp h) (by omega))]
    have hbk := hb k (by omega)
    by_cases c : h k = 9999
    · rw [if_pos c] at ih'
      rw [← ih']
      obtain ⟨M, hM⟩ : ∃ M, N = M + 1 := ⟨N - 1, by omega⟩
      have hgen : ∀ (n2 : Nat), 0 < n2 → g_X8_findNever_24 (nI P) hours (nI H) (g_X8_findNever_14 N (nI P) hours (nI H) n) n2 (nI k) 0 (nA P H h x k) = g_X8_findNever_14 N (nI P) hours (nI H) n (nI (k + 1)) (nA P H h x k) := by
        intro n2 h2
        obtain ⟨n2, rfl⟩ : ∃ z, n2 = z + 1 := ⟨n2 - 1, by omega⟩
        rw [g_X8_findNever_24, if_pos (in1024 (by omega)), nI_clamp (by omega), hE k (by omega), if_pos ((eh_m1 hbk).mpr c), z_1]
        split <;> rfl
      exact hgen N (by omega)
    · rw [if_neg c] at ih'
      rw [← ih']
      exact s_findNever_24 hP hH (by omega) (hE k (by omega)) (by omega) _ _ P 0 N (by omega) (by omega)
theorem and_m1 (x : Int32) : x &&& (-1) = x := by
  apply Int32.toBitVec_inj.1
  rw [Int32.toBitVec_and]
  show x.toBitVec &&& BitVec.allOnes 32 = x.toBitVec
  exact BitVec.and_allOnes
theorem s_never_49 {a : Nat → Nat} {al far : Nat → Int32} {H k : Nat} {h : Nat → Nat} {gone queue rf : Nat → Int32} (hI : IC a) (hM : KM a al 0) (hk : k < 1024) (hhk : far k = nI (h k)) (hne : h k < 9999) (hH : ∀ p, p < a 1 → a (28 + p) = dg (a 1) H p) (K : Int32 → Int32 → (Nat → Int32) → (Nat → Int32) → (Nat → Int32) → (Nat → Int32) → Option (Int32 × (Nat → Int32) × (Nat → Int32) × (Nat → Int32) × (Nat → Int32))) (x : Int32) : ∀ (m p n : Nat), p + m = a 1 → m < n → g_X10_never_49 al K n (nv (a 1) k H p x) (nI k) (nI p) far gone queue rf = K (nv (a 1) k H (a 1) x) (nI (k + 1)) far gone queue rf := by
  have j1 := hI.2.1
  intro m
  induction m with
  | zero =>
    intro p n e1 e2
    obtain ⟨n, rfl⟩ : ∃ z, n = z + 1 := ⟨n - 1, by omega⟩
    rw [g_X10_never_49, if_pos in1, show (1 : Int32).toNatClampNeg = 1 from rfl, hM.at (by decide), if_pos (nI_le (by omega) (by omega)), z_1 k, show p = a 1 by omega]
  | succ m ih =>
    intro p n e1 e2
    obtain ⟨n, rfl⟩ : ∃ z, n = z + 1 := ⟨n - 1, by omega⟩
    have ih' := ih (p + 1) n (by omega) (by omega)
    rw [nv] at ih'
    have d1 := dg_lt (a 1) k p
    have d2 := dg_lt (a 1) H p
    rw [g_X10_never_49, if_pos in1, show (1 : Int32).toNatClampNeg = 1 from rfl, hM.at (by decide), if_neg (fun h => absurd ((e_le (by omega) (by omega)).mp h) (by omega)), if_pos (in1024 hk), nI_clamp (by omega), hhk, if_neg (show ¬ 9999 ≤ nI (h k) from fun hh => by have := (e_le (a := 9999) (b := h k) (by decide) (by omega)).mp hh; omega), s_whereIn hI hM (by omega) (by omega), Option.bind_some, show (28 : Int32) + nI p = nI (28 + p) from nI_add 28 p, if_pos (in_n (by omega)), nI_clamp (by omega), hM.at (by omega), hH p (by omega), ifi (e_eq (by omega) (by omega)), z_1 p, and_m1]
    by_cases c : dg (a 1) k p = dg (a 1) H p
    · rw [if_pos c] at ih' ⊢; exact ih'
    · rw [if_neg c] at ih' ⊢; exact ih'
theorem s_never_38 {a : Nat → Nat} {al far : Nat → Int32} {N H : Nat} {h : Nat → Nat} {gone queue rf : Nat → Int32} (hN : 2000 ≤ N) (hI : IC a) (hM : KM a al 0) (hE : ∀ t, t < 2 ^ (2 * a 1) → far t = nI (h t)) (hb : ∀ t, t < 2 ^ (2 * a 1) → h t ≤ 9999) (hH : ∀ p, p < a 1 → a (28 + p) = dg (a 1) H p) (x : Int32) : ∀ (m k n : Nat), k + m = 2 ^ (2 * a 1) → m < n → g_X10_never_38 N al n (nA (a 1) H h x k) (nI k) far gone queue rf = some (nA (a 1) H h x (2 ^ (2 * a 1)), far, gone, queue, rf) := by
  have hp2 := p2P hI.2.1
  have j1 := hI.2.1
  intro m
  induction m with
  | zero =>
    intro k n e1 e2
    obtain ⟨n, rfl⟩ : ∃ z, n = z + 1 := ⟨n - 1, by omega⟩
    rw [g_X10_never_38, s_states hI hM, Option.bind_some, if_pos (nI_le (by omega) (by omega)), show k = 2 ^ (2 * a 1) by omega]
  | succ m ih =>
    intro k n e1 e2
    obtain ⟨n, rfl⟩ : ∃ z, n = z + 1 := ⟨n - 1, by omega⟩
    have ih' := ih (k + 1) n (by omega) (by omega)
    rw [nA] at ih'
    rw [g_X10_never_38, s_states hI hM, Option.bind_some, if_neg (fun h => absurd ((e_le (by omega) (by omega)).mp h) (by omega))]
    have hbk := hb k (by omega)
    by_cases c : h k = 9999
    · rw [if_pos c] at ih'
      rw [← ih']
      have hgen : ∀ (n2 : Nat), 0 < n2 → g_X10_never_49 al (g_X10_never_38 N al n) n2 (nA (a 1) H h x k) (nI k) 0 far gone queue rf = g_X10_never_38 N al n (nA (a 1) H h x k) (nI (k + 1)) far gone queue rf := by
        intro n2 h2
        obtain ⟨n2, rfl⟩ : ∃ z, n2 = z + 1 := ⟨n2 - 1, by omega⟩
        rw [g_X10_never_49, if_pos in1, show (1 : Int32).toNatClampNeg = 1 from rfl, hM.at (by decide), if_pos (in1024 (by omega)), nI_clamp (by omega), hE k (by omega), if_pos (show 9999 ≤ nI (h k) from nI_le (a := 9999) (by omega) (by omega)), z_1 k]
        split <;> rfl
      exact hgen N (by omega)
    · rw [if_neg c] at ih'
      rw [← ih']
      exact s_never_49 hI hM (by omega) (hE k (by omega)) (by omega) hH _ _ (a 1) 0 N (by omega) (by omega)
/-! the row of the soonest -/
theorem Rch_cons {n : Nat} {S : Nat → Nat → Prop} {t u : Nat} (hu : u < n) (h : S t u) : ∀ d s, Rch n S u d s → Rch n S t (d + 1) s := by
  intro d
  induction d with
  | zero => intro s hs; rw [show s = u from hs]; exact Or.inr ⟨t, rfl, hu, h⟩
  | succ d ih =>
    intro s hs
    rcases hs with hs | ⟨v, v1, v2, v3⟩
    · exact Or.inl (ih s hs)
    · exact Or.inr ⟨v, ih v v1, v2, v3⟩
theorem Rch_rev {n : Nat} {S : Nat → Nat → Prop} (hS : ∀ x y, S x y → S y x) {s : Nat} (hs : s < n) : ∀ d t, Rch n S s d t → Rch n S t d s := by
  intro d
  induction d with
  | zero => intro t h; exact (show t = s from h).symm
  | succ d ih =>
    intro t h
    rcases h with h | ⟨u, u1, u2, u3⟩
    · exact Or.inl (ih t h)
    · exact Rch_cons (Rch_lt hs _ _ u1) (hS _ _ u3) d s (ih u u1)
theorem DST.sym {n : Nat} {S : Nat → Nat → Prop} (hS : ∀ x y, S x y → S y x) {s t : Nat} {h h' : Nat → Nat} (H : DST n S s h) (H' : DST n S t h') : h t = h' s := by
  obtain ⟨a1, a2, a3, a4, -⟩ := H
  obtain ⟨b1, b2, b3, b4, -⟩ := H'
  have k1 : h t < 9999 → h' s ≤ h t := fun hh => b2 s _ a4 (Rch_rev hS a4 _ _ (a1 t b4 hh))
  have k2 : h' s < 9999 → h t ≤ h' s := fun hh => a2 t _ b4 (Rch_rev hS b4 _ _ (b1 s a4 hh))
  rcases a3 t b4 with e | e <;> rcases b3 s a4 with f | f
  · omega
  · have := k2 (by omega); omega
  · have := k1 (by omega); omega
  · have := k1 (by omega); have := k2 (by omega); omega
theorem DST.next {n : Nat} {S : Nat → Nat → Prop} (hS : ∀ x y, S x y → S y x) {s t k : Nat} {h : Nat → Nat} (H : DST n S s h) (ht : t < n) (hk : h t = k + 1) (hk2 : k < 9000) : ∃ u, u < n ∧ S t u ∧ h u = k := by
  obtain ⟨a1, a2, a3, a4, -⟩ := H
  have hr := a1 t ht (by omega)
  rw [hk] at hr
  rcases hr with hr | ⟨u, u1, u2, u3⟩
  · have := a2 t _ ht hr; omega
  · have hu := Rch_lt a4 _ _ u1
    have h1 := a2 u _ hu u1
    have h2 := a2 t _ ht (show Rch n S s (h u + 1) t from Or.inr ⟨u, a1 u hu (by omega), ht, u3⟩)
    exact ⟨u, hu, hS _ _ u3, by omega⟩
/-- of all the soonest, the first -/
def ROW (n : Nat) (S : Nat → Nat → Prop) (s D : Nat) (h pth : Nat → Nat) : Prop := pth 0 = s ∧ (∀ i, i ≤ D → pth i < n ∧ h (pth i) = D - i) ∧ ∀ i, i < D → S (pth i) (pth (i + 1)) ∧ ∀ u, u < n → S (pth i) u → h u = D - (i + 1) → pth (i + 1) ≤ u
/-- the least of those of m numbers that are k hours away -/
theorem s_findPath_43 {n D x2 m : Nat} {T : Nat → Prop} {h : Nat → Nat} {hours near ch goers group path : Nat → Int32} {cc : Int32} (hn : n ≤ 1024) (hm : m ≤ 1024) (hD : D < 1024) (hx1 : 1 ≤ x2) (hx : x2 ≤ D) (hE : ∀ t, t < n → hours t = eh (h t)) (hb : ∀ t, t < n → h t ≤ 9999) (hL : LIST m near (fun t => t < n ∧ T t)) (K : Int32 → Int32 → Int32 → (Nat → Int32) → (Nat → Int32) → (Nat → Int32) → (Nat → Int32) → (Nat → Int32) → Option (Int32 × Int32 × (Nat → Int32) × (Nat → Int32) × (Nat → Int32) × (Nat → Int32) × (Nat → Int32))) : ∀ (d i fu best : Nat), i + d = m → d < fu → best ≤ 1023 → (best = 1023 ∨ (best < n ∧ T best ∧ h best = D - x2)) → (∀ j t, j < i → t < n → near j = nI t → h t = D - x2 → best ≤ t) → ∃ best', g_X8_findPath_43 (nI D) hours K fu (nI x2) (nI best) (nI i) cc (nI m) ch goers group near path = K (nI (x2 + 1)) cc (nI m) ch goers group near (upd path x2 (nI best')) ∧ best' ≤ 1023 ∧ (best' = 1023 ∨ (best' < n ∧ T best' ∧ h best' = D - x2)) ∧ ∀ t, t < n → T t → h t = D - x2 → best' ≤ t := by
  intro d
  induction d with
  | zero =>
    intro i fu best e1 e2 e3 hB hM
    obtain ⟨fu, rfl⟩ : ∃ z, fu = z + 1 := ⟨fu - 1, by omega⟩
    refine ⟨best, by rw [g_X8_findPath_43, if_pos (nI_le (by omega) (by omega)), if_pos (in1024 (by omega)), nI_clamp (by omega), z_1], e3, hB, fun t ht hT hh => ?_⟩
    obtain ⟨j, j1, j2⟩ := hL.2 t ⟨ht, hT⟩
    exact hM j t (by omega) ht j2 hh
  | succ d ih =>
    intro i fu best e1 e2 e3 hB hM
    obtain ⟨fu, rfl⟩ : ∃ z, fu = z + 1 := ⟨fu - 1, by omega⟩
    obtain ⟨t, t1, t2, t3⟩ := hL.1 i (by omega)
    have hbt := hb t t2
    have hcond : eh (h t) = nI D - nI x2 ↔ h t = D - x2 := by
      rw [z_sub hx]
      unfold eh
      by_cases c : h t = 9999
      · rw [if_pos c]
        exact ⟨fun hh => absurd hh.symm (nI_nm1 (by omega)), fun hh => by omega⟩
      · rw [if_neg c]; exact e_eq (by omega) (by omega)
    rw [g_X8_findPath_43, if_neg (fun h => absurd ((e_le (by omega) (by omega)).mp h) (by omega)), if_pos (in1024 (by omega)), nI_clamp (by omega), t1, if_pos (in1024 (by omega)), nI_clamp (by omega), hE t t2, ifi hcond, ifi (e_lt (a := t) (b := best) (by omega) (by omega)), z_1]
    by_cases c : h t = D - x2
    · rw [if_pos c]
      by_cases c2 : t < best
      · rw [if_pos c2]
        refine ih (i + 1) fu t (by omega) (by omega) (by omega) (Or.inr ⟨t2, t3, c⟩) (fun j u hj hu hju hh => ?_)
        rcases (show j = i ∨ j < i by omega) with rfl | z
        · rw [t1] at hju
          have := (e_eq (by omega) (by omega)).mp hju
          omega
        · have := hM j u z hu hju hh; omega
      · rw [if_neg c2]
        refine ih (i + 1) fu best (by omega) (by omega) e3 hB (fun j u hj hu hju hh => ?_)
        rcases (show j = i ∨ j < i by omega) with rfl | z
        · rw [t1] at hju
          have := (e_eq (by omega) (by omega)).mp hju
          omega
        · exact hM j u z hu hju hh
    · rw [if_neg c]
      refine ih (i + 1) fu best (by omega) (by omega) e3 hB (fun j u hj hu hju hh => ?_)
      rcases (show j = i ∨ j < i by omega) with rfl | z
      · rw [t1] at hju
        have := (e_eq (by omega) (by omega)).mp hju
        subst this
        exact absurd hh c
      · exact hM j u z hu hju hh
theorem s_findPath_9 {w ft P N s D H : Nat} {h : Nat → Nat} {hours : Nat → Int32} (hN : 2000 ≤ N) (hw : w < 65536) (hft : ft < 64) (hP : P ≤ 5) (hsy : ∀ x y, ST w ft P x y → ST w ft P y x) (hD : D < 1024) (hE : ∀ t, t < 2 ^ (2 * P) → hours t = eh (h t)) (hH : DST (2 ^ (2 * P)) (ST w ft P) H h) : ∀ (d x fu : Nat) (pth : Nat → Nat) (cc nc : Int32) (ch goers group near path : Nat → Int32), x + d = D + 1 → d < fu → 1 ≤ x → pth 0 = s → (∀ i, i < x → path i = nI (pth i) ∧ pth i < 2 ^ (2 * P) ∧ h (pth i) = D - i) → (∀ i, i + 1 < x → ST w ft P (pth i) (pth (i + 1)) ∧ ∀ u, u < 2 ^ (2 * P) → ST w ft P (pth i) u → h u = D - (i + 1) → pth (i + 1) ≤ u) → ∃ pth' cc' nc' ch' goers' group' near' path', g_X8_findPath_9 N (nI P) (nI w) (nI ft) (nI D) hours fu (nI x) cc nc ch goers group near path = some (cc', nc', ch', goers', group', near', path') ∧ ROW (2 ^ (2 * P)) (ST w ft P) s D h pth' ∧ ∀ i, i ≤ D → path' i = nI (pth' i) := by
  have hp2 := p2P hP
  have hb : ∀ t, t < 2 ^ (2 * P) → h t ≤ 9999 := fun t ht => by rcases hH.2.2.1 t ht with e | e <;> omega
  intro d
  induction d with
  | zero =>
    intro x fu pth cc nc ch goers group near path e1 e2 e3 h0 h1 h2
    obtain ⟨fu, rfl⟩ : ∃ z, fu = z + 1 := ⟨fu - 1, by omega⟩
    refine ⟨pth, cc, nc, ch, goers, group, near, path, by rw [g_X8_findPath_9, if_pos (nI_lt (by omega) (by omega))], ⟨h0, fun i hi => (h1 i (by omega)).2, fun i hi => h2 i (by omega)⟩, fun i hi => (h1 i (by omega)).1⟩
  | succ d ih =>
    intro x fu pth cc nc ch goers group near path e1 e2 e3 h0 h1 h2
    obtain ⟨fu, rfl⟩ : ∃ z, fu = z + 1 := ⟨fu - 1, by omega⟩
    obtain ⟨p1, p2, p3⟩ := h1 (x - 1) (by omega)
    obtain ⟨m, cc1, ch1, goers1, group1, near1, f1, f2, f3⟩ := s_findNear (N := N) hN hw hft hP (show pth (x - 1) < 2147483648 by omega) cc ch goers group near
    obtain ⟨best, g1, g2, g3, g4⟩ := s_findPath_43 (path := path) (ch := ch1) (goers := goers1) (group := group1) (cc := cc1) hp2 f2 hD e3 (show x ≤ D by omega) hE hb f3 (g_X8_findPath_9 N (nI P) (nI w) (nI ft) (nI D) hours fu) m 0 N 1023 (by omega) (by omega) (by omega) (Or.inl rfl) (fun j t hj => absurd hj (by omega))
    obtain ⟨u, u1, u2, u3⟩ := hH.next hsy p2 (k := D - x) (by omega) (by omega)
    have hbu := g4 u u1 u2 u3
    have hbest : best < 2 ^ (2 * P) ∧ ST w ft P (pth (x - 1)) best ∧ h best = D - x := by
      rcases g3 with e | e
      · have e4 : u = best := by omega
        rw [← e4]; exact ⟨u1, u2, u3⟩
      · exact e
    rw [g_X8_findPath_9, if_neg (fun h => absurd ((e_lt (by omega) (by omega)).mp h) (by omega)), if_neg (show ¬ 1024 ≤ nI x from fun h => absurd ((e_le (a := 1024) (by decide) (by omega)).mp h) (by omega)), z_sub1 (by omega), if_pos (in1024 (by omega)), nI_clamp (by omega), p1, f1, Option.bind_some]
    rw [show g_X8_findPath_43 (nI D) hours (g_X8_findPath_9 N (nI P) (nI w) (nI ft) (nI D) hours fu) N (nI x) 1023 0 cc1 (nI m) ch1 goers1 group1 near1 path = _ from g1]
    refine ih (x + 1) fu (va_up pth x best) _ _ _ _ _ _ _ (by omega) (by omega) (by omega) (by rw [va_up_no _ _ (by omega)]; exact h0) (fun i hi => ?_) (fun i hi => ?_)
    · by_cases z : i = x
      · rw [z, upd_at, va_up_at]; exact ⟨rfl, hbest.1, hbest.2.2⟩
      · rw [upd_no z, va_up_no _ _ z]; exact h1 i (by omega)
    · rw [va_up_no pth best (show i ≠ x by omega)]
      by_cases z : i + 1 = x
      · rw [z, va_up_at, show i = x - 1 by omega]
        exact ⟨hbest.2.1, fun v v1 v2 v3 => g4 v v1 v2 (by rw [v3])⟩
      · rw [va_up_no _ _ z]; exact h2 i (by omega)
theorem s_findPath {w ft P N s D H : Nat} {h : Nat → Nat} {hours : Nat → Int32} (hN : 2000 ≤ N) (hw : w < 65536) (hft : ft < 64) (hP : P ≤ 5) (hsy : ∀ x y, ST w ft P x y → ST w ft P y x) (hD : D < 1024) (hE : ∀ t, t < 2 ^ (2 * P) → hours t = eh (h t)) (hH : DST (2 ^ (2 * P)) (ST w ft P) H h) (hs : s < 2 ^ (2 * P)) (hsD : h s = D) (cc nc : Int32) (ch goers group near path : Nat → Int32) : ∃ pth' cc' nc' ch' goers' group' near' path', g_X8_findPath N (nI P) (nI w) (nI ft) (nI D) nc cc ch goers group hours near path (nI s) = some (cc', nc', ch', goers', group', near', path') ∧ ROW (2 ^ (2 * P)) (ST w ft P) s D h pth' ∧ ∀ i, i ≤ D → path' i = nI (pth' i) := by
  unfold g_X8_findPath
  rw [if_pos (show inb 0 1024 = true from rfl)]
  exact s_findPath_9 hN hw hft hP hsy hD hE hH D 1 N (fun _ => s) cc nc ch goers group near _ (by omega) (by omega) (by omega) rfl (fun i hi => by
    have e : i = 0 := by omega
    subst e
    exact ⟨upd_at, hs, by omega⟩) (fun i hi => absurd hi (by omega))
theorem ROW.uq {n : Nat} {S : Nat → Nat → Prop} {s D : Nat} {h h' p p' : Nat → Nat} (hh : ∀ t, t < n → h t = h' t) (H : ROW n S s D h p) (H' : ROW n S s D h' p') : ∀ i, i ≤ D → p i = p' i := by
  obtain ⟨a1, a2, a3⟩ := H
  obtain ⟨b1, b2, b3⟩ := H'
  intro i
  induction i with
  | zero => intro _; rw [a1, b1]
  | succ i ih =>
    intro hi
    have e := ih (by omega)
    obtain ⟨c1, c2⟩ := a3 i (by omega)
    obtain ⟨d1, d2⟩ := b3 i (by omega)
    obtain ⟨f1, f2⟩ := a2 (i + 1) hi
    obtain ⟨g1, g2⟩ := b2 (i + 1) hi
    have h1 := c2 (p' (i + 1)) g1 (by rw [e]; exact d1) (by rw [hh _ g1]; exact g2)
    have h2 := d2 (p (i + 1)) f1 (by rw [← e]; exact c1) (by rw [← hh _ f1]; exact f2)
    omega
