/-! the relation; what a change of scratch leaves -/
abbrev q_WI : Type := Int64 → Int32 → Int32 → Int32 → Int32 → Int32 → (Nat → Int32) → Prop
def Rel (WI : q_WI) : q_Rel := fun cx cf key _ => (∃ a, K2 a cx cf 0) ∧ RI cx cf ∧ RF cx ∧ RR cf ∧ WI key (cx 56) (cx 57) (cx 58) (cx 59) (cx 60) (cf 50)
def LX : List Nat := [0, 1, 2, 3, 4, 5, 6, 7, 8, 9, 10, 11, 12, 13, 14, 15, 16, 17, 18, 19, 20, 21, 22, 23, 24, 25, 26, 27, 28, 29, 30, 31, 32, 33, 34, 35, 36, 37, 38, 39, 40, 41, 42, 43, 44, 45, 46, 47, 48, 49, 50, 56, 57, 58, 59, 60, 77, 78]
def LF : List Nat := [0, 1, 2, 3, 4, 5, 6, 7, 8, 9, 10, 11, 12, 13, 14, 15, 16, 17, 18, 19, 20, 21, 22, 23, 24, 25, 26, 27, 28, 29, 30, 31, 32, 33, 34, 35, 36, 50, 65, 66, 67]
theorem LX_in : ∀ i, i < 3 → ∀ k, k < 16 → 16 * i + k ∈ LX := by decide
theorem LF_in : ∀ i, i < 3 → ∀ k, k < 12 → 12 * i + k ∈ LF := by decide
theorem K2.ext {a : Nat → Nat} {cx cx' : Nat → Int32} {cf cf' : Nat → Nat → Int32} {i : Nat} (hi : i < 3) (h : K2 a cx cf i) (hx : ∀ k ∈ LX, cx' k = cx k) (hf : ∀ k ∈ LF, cf' k = cf k) : K2 a cx' cf' i :=
  h.congr (fun k hk => hx _ (LX_in i hi k hk)) (fun k hk => hf _ (LF_in i hi k hk)) (fun k _ => by rw [hf 65 (by decide)])
theorem Rel_ext {WI : q_WI} {cx cx' : Nat → Int32} {cf cf' : Nat → Nat → Int32} {key ms ms' : Int64} (hR : Rel WI cx cf key ms) (h1 : LX.map cx' = LX.map cx) (h2 : LF.map cf' = LF.map cf) : Rel WI cx' cf' key ms' := by
  have hx := List.map_inj_left.mp h1
  have hf := List.map_inj_left.mp h2
  obtain ⟨⟨a, ha⟩, ⟨b0, b1, c1, c2, c3, c4, c5, c6, c7⟩, hF, hRR, hW⟩ := hR
  refine ⟨⟨a, ha.ext (by decide) hx hf⟩, ⟨b0, b1, c1, c2, ?_, ?_, ?_, ?_, ?_⟩, ?_, ?_, ?_⟩
  · rw [hx 48 (by decide)]; exact c3
  · rw [hf 66 (by decide)]; exact c4
  · rw [hf 66 (by decide)]; exact c5
  · intro hb; obtain ⟨a, ha⟩ := c6 hb; exact ⟨a, ha.ext (by decide) hx hf⟩
  · intro hb; obtain ⟨a, ha⟩ := c7 hb; exact ⟨a, ha.ext (by decide) hx hf⟩
  · exact ⟨by rw [hx 49 (by decide), hx 77 (by decide)]; exact hF.1, by rw [hx 50 (by decide), hx 78 (by decide)]; exact hF.2⟩
  · intro i hi; rw [hf 36 (by decide), hf 67 (by decide)]; exact hRR i hi
  · rw [hx 56 (by decide), hx 57 (by decide), hx 58 (by decide), hx 59 (by decide), hx 60 (by decide), hf 50 (by decide)]; exact hW
/-- a change of what is refused, alike on both sides -/
def cfR (cf : Nat → Nat → Int32) (i : Nat) : Nat → Nat → Int32 := va_up (va_up cf 36 (rfd (cf 36) i)) 67 (rfd (cf 67) i)
theorem K2.cfR {a : Nat → Nat} {cx : Nat → Int32} {cf : Nat → Nat → Int32} {i j : Nat} (hi : i < 3) (h : K2 a cx cf i) : K2 a cx (cfR cf j) i := by
  refine h.congr (fun k _ => rfl) (fun k hk => ?_) (fun k _ => rfl)
  unfold _root_.Jvm.Pilot.@@N@@.cfR
  rw [va_up_no _ _ (by omega), va_up_no _ _ (by omega)]
theorem Rel_rfd {WI : q_WI} {cx : Nat → Int32} {cf : Nat → Nat → Int32} {key ms : Int64} (j : Nat) (hR : Rel WI cx cf key ms) : Rel WI cx (cfR cf j) key ms := by
  obtain ⟨⟨a, ha⟩, ⟨b0, b1, c1, c2, c3, c4, c5, c6, c7⟩, hF, hRR, hW⟩ := hR
  refine ⟨⟨a, ha.cfR (by decide)⟩, ⟨b0, b1, c1, c2, c3, c4, c5, ?_, ?_⟩, hF, ?_, hW⟩
  · intro hb; obtain ⟨a, ha⟩ := c6 hb; exact ⟨a, ha.cfR (by decide)⟩
  · intro hb; obtain ⟨a, ha⟩ := c7 hb; exact ⟨a, ha.cfR (by decide)⟩
  · intro i hi
    show rfd (cf 36) j i = rfd (cf 67) j i
    unfold rfd upd
    split
    · next h => subst h; rw [hRR i hi]
    · exact hRR i hi
/-- a change of the land of now: the images stay -/
theorem Rel_now {WI : q_WI} {cx cx' : Nat → Int32} {cf cf' : Nat → Nat → Int32} {key ms : Int64} (hR : Rel WI cx cf key ms) (a' : Nat → Nat) (hI : INV a') (hX : KX a' cx' cf' 0 0) (hM : KM a' (cf' 65) 0) (hx : ∀ k, 16 ≤ k → cx' k = cx k) (hf : ∀ k, 12 ≤ k → k ≠ 65 → cf' k = cf k) (h65 : ∀ k, 359 ≤ k → cf' 65 k = cf 65 k) : Rel WI cx' cf' key ms := by
  obtain ⟨-, ⟨b0, b1, c1, c2, c3, c4, c5, c6, c7⟩, hF, hRR, hW⟩ := hR
  have hk : ∀ {a : Nat → Nat} {i : Nat}, 1 ≤ i → i < 3 → K2 a cx cf i → K2 a cx' cf' i := fun h1 h2 h => h.congr (fun k hk => hx _ (by omega)) (fun k hk => hf _ (by omega) (by omega)) (fun k hk => h65 _ (by omega))
  refine ⟨⟨a', hI, hX, hM⟩, ⟨b0, b1, c1, c2, ?_, ?_, ?_, ?_, ?_⟩, ?_, ?_, ?_⟩
  · rw [hx 48 (by decide)]; exact c3
  · rw [hf 66 (by decide) (by decide)]; exact c4
  · rw [hf 66 (by decide) (by decide)]; exact c5
  · intro hb; obtain ⟨a, ha⟩ := c6 hb; exact ⟨a, hk (by decide) (by decide) ha⟩
  · intro hb; obtain ⟨a, ha⟩ := c7 hb; exact ⟨a, hk (by decide) (by decide) ha⟩
  · exact ⟨by rw [hx 49 (by decide), hx 77 (by decide)]; exact hF.1, by rw [hx 50 (by decide), hx 78 (by decide)]; exact hF.2⟩
  · intro i hi; rw [hf 36 (by decide) (by decide), hf 67 (by decide) (by decide)]; exact hRR i hi
  · rw [hx 56 (by decide), hx 57 (by decide), hx 58 (by decide), hx 59 (by decide), hx 60 (by decide), hf 50 (by decide) (by decide)]; exact hW
theorem wi_no {x lo hi : Int32} (h : ¬ wi x lo hi = true) : x < lo ∨ hi < x := by
  by_cases h1 : x < lo
  · exact Or.inl h1
  · right
    by_cases h2 : hi < x
    · exact h2
    · exact absurd (by unfold wi; simp [nlt_le h1, nlt_le h2]) h
theorem KM.up {a : Nat → Nat} {al : Nat → Int32} (h : KM a al 0) {i v : Nat} (hi : i < 359) : KM (va_up a i v) (upd al i (nI v)) 0 := by
  intro k hk
  rw [Nat.zero_add]
  unfold upd va_up
  by_cases e : k = i
  · rw [if_pos e, if_pos e]
  · rw [if_neg e, if_neg e]
    have := h k hk
    rwa [Nat.zero_add] at this
theorem KM.at {a : Nat → Nat} {al : Nat → Int32} (h : KM a al 0) {i : Nat} (hi : i < 359) : al i = nI (a i) := by
  have := h i hi
  rwa [Nat.zero_add] at this
set_option maxHeartbeats 1000000 in
theorem op_told {WI : q_WI} {N : Nat} : Op_told N (Rel WI) := by
  intro cx cf key ms x1 hR
  unfold g_X9_told g_X10_told
  rw [s_in, Option.bind_some, if10]
  by_cases hv : wi x1 0 1048575 = true
  · obtain ⟨k, -, hk, rfl⟩ := wi_nI (lo := 0) (hi := 1048575) (by decide) (by decide) hv
    rw [if_pos hv, if_neg (nI_pos (by omega)), if_pos (show nI k < 1048576 from nI_lt (b := 1048576) (by omega) (by decide)), if_pos (by decide)]
    refine ⟨_, _, rfl, rfl, ?_, ?_⟩
    · obtain ⟨⟨a, ha⟩, -⟩ := hR
      exact ha.2.1.1.1.1.trans (ha.2.2.at (i := 0) (by decide)).symm
    · have hR' : Rel WI (va_up cx 0 (nI k)) (va_up cf 65 (upd (cf 65) 0 (nI k))) key ms := by
        obtain ⟨⟨a, hI, hX, hM⟩, -⟩ := id hR
        refine Rel_now hR (va_up a 0 k) ?_ ?_ (hM.up (by decide)) (fun k hk => va_up_no _ _ (by omega)) (fun k _ hk => va_up_no _ _ hk) (fun j hj => ?_)
        · obtain ⟨i1, i2, i3, i4, i5, i6, i7, i8, i9, i10⟩ := hI
          have hg : ∀ lo hi, 1 ≤ lo → ag a (va_up a 0 k) lo hi := fun lo hi h j h1 h2 => va_up_no _ _ (by omega)
          exact ⟨⟨by rw [va_up_at]; omega, i1.2⟩, i2.cg (hg _ _ (by decide)) rfl, i3.cg i1 rfl (hg _ _ (by decide)), i4.cg i1 rfl rfl (hg _ _ (by decide)), i5.cg i1 rfl (hg _ _ (by decide)), i6.cg i1 rfl (hg _ _ (by decide)), i7.cg i1 (Nat.le_refl _) rfl (hg _ _ (by decide)), i8.cg (hg _ _ (by decide)), i9.cg i1 rfl (hg _ _ (by decide)), i10.cg (hg _ _ (by decide))⟩
        · obtain ⟨x1, ⟨x2, x3⟩, ⟨x4, x5, x6, x7⟩, x8, x9, ⟨x10, x11⟩, x12, x13⟩ := hX
          have hg : ∀ lo hi, 1 ≤ lo → ag a (va_up a 0 k) lo hi := fun lo hi h j h1 h2 => va_up_no _ _ (by omega)
          exact ⟨⟨⟨rfl, x1.1.2⟩, x1.2⟩, ⟨x2.cg rfl (hg _ _ (by decide)), x3.cg rfl (hg _ _ (by decide))⟩, ⟨x4.cg rfl (hg _ _ (by decide)), x5.cg rfl (hg _ _ (by decide)), x6.cg rfl (hg _ _ (by decide)), x7.cg rfl (hg _ _ (by decide))⟩, x8.cg rfl (hg _ _ (by decide)), x9.cg rfl (hg _ _ (by decide)), ⟨x10.cg rfl (hg _ _ (by decide)), x11.cg rfl (hg _ _ (by decide))⟩, x12.cg (hg _ _ (by decide)), x13.cg rfl (hg _ _ (by decide))⟩
        · rw [va_up_at]; unfold upd; rw [if_neg (by omega)]
      exact Rel_ext hR' rfl rfl
  · rw [if_neg hv]
    have hB : ∀ (A : Option (Int32 × Int32 × (Nat → Int32))), (if x1 < 0 then A else if x1 < 1048576 then some (cx 0, x1, cf 36) else A) = A := by
      intro A
      rcases wi_no hv with h | h
      · rw [if_pos h]
      · by_cases h0 : x1 < 0
        · rw [if_pos h0]
        · rw [if_neg h0, if_neg]
          intro h2
          rw [Int32.lt_iff_toInt_lt] at h h2
          have e1 : (1048575 : Int32).toInt = 1048575 := by decide
          have e2 : (1048576 : Int32).toInt = 1048576 := by decide
          omega
    rw [hB, s_refB, s_refMB, Option.bind_some, Option.bind_some]
    exact ⟨_, _, rfl, rfl, rfl, Rel_ext (Rel_rfd 0 hR) rfl rfl⟩
