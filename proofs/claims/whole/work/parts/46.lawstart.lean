set_option maxHeartbeats 8000000 in
set_option maxRecDepth 100000 in
theorem whole_open {p : Program} {e : Env} {s : State} {m : MethodId} {below : List Frame} {meth : Method} {c : Code} (l : Launch) {b L : Nat} {xs : Nat → Int32} (hL : L ≤ 3072) (C0 : lw_At p s m meth c b L xs) {N : Nat} {Rel : q_Rel} (hO : OpsOk N Rel) (h0 : Rel cx0 cf0 (-1) 0) : W p l e room_1 s m #[Value.ref b] below meth c s.heap [] 0 0 (lw_Z below #[Value.ref b] s) (entryFrame m ([Value.ref b] : List Value).toArray 4) := by
  obtain ⟨hx, hb, hr, hml, hown, hts, hX, hbl, hlocks, hgv⟩ := id C0
  have hA : ∀ q : Nat, s.heap.size ≤ q → (fun q : Nat => s.heap.size ≤ q) q := fun _ h => h
  have hbA : ¬ (fun q : Nat => s.heap.size ≤ q) b := Nat.not_le.mpr hbl
  have hout : ∀ a : Nat, a < s.heap.size → ¬ (fun q : Nat => s.heap.size ≤ q) a := fun a h => Nat.not_le.mpr h
  obtain ⟨k0, i0, hKn0⟩ := u_known (C := RX0) (T := TX0) (N := 2) (n := 2) hts inX0 (hts (.instantiable RX0 2) (List.mem_of_getElem? (i := 255) (by decide +kernel)))
  obtain ⟨k1, i1, hKn1⟩ := u_known (C := RX1) (T := TX1) (N := 10) (n := 10) hts inX1 (hts (.instantiable RX1 10) (List.mem_of_getElem? (i := 102) (by decide +kernel)))
  obtain ⟨k2, i2, hKn2⟩ := u_known (C := RX2) (T := TX2) (N := 7) (n := 7) hts inX2 (hts (.instantiable RX2 7) (List.mem_of_getElem? (i := 108) (by decide +kernel)))
  obtain ⟨k3, i3, hKn3⟩ := u_known (C := RX3) (T := TX3) (N := 6) (n := 6) hts inX3 (hts (.instantiable RX3 6) (List.mem_of_getElem? (i := 225) (by decide +kernel)))
  obtain ⟨k4, i4, hKn4⟩ := u_known (C := RX4) (T := TX4) (N := 4) (n := 4) hts inX4 (hts (.instantiable RX4 4) (List.mem_of_getElem? (i := 270) (by decide +kernel)))
  obtain ⟨k5, i5, hKn5⟩ := u_known (C := RX5) (T := TX5) (N := 7) (n := 7) hts inX5 (hts (.instantiable RX5 7) (List.mem_of_getElem? (i := 370) (by decide +kernel)))
  obtain ⟨k6, i6, hKn6⟩ := u_known (C := RX6) (T := TX6) (N := 6) (n := 6) hts inX6 (hts (.instantiable RX6 6) (List.mem_of_getElem? (i := 290) (by decide +kernel)))
  obtain ⟨k7, i7, hKn7⟩ := u_known (C := RX7) (T := TX7) (N := 2) (n := 2) hts inX7 (hts (.instantiable RX7 2) (List.mem_of_getElem? (i := 114) (by decide +kernel)))
  obtain ⟨k8, i8, hKn8⟩ := u_known (C := RX8) (T := TX8) (N := 15) (n := 15) hts inX8 (hts (.instantiable RX8 15) (List.mem_of_getElem? (i := 315) (by decide +kernel)))
  obtain ⟨k9, i9, hKn9⟩ := u_known (C := RX9) (T := TX9) (N := 12) (n := 12) hts inX9 (hts (.instantiable RX9 12) (List.mem_of_getElem? (i := 94) (by decide +kernel)))
  obtain ⟨k10, i10, hKn10⟩ := u_known (C := RX10) (T := TX10) (N := 33) (n := 33) hts inX10 (hts (.instantiable RX10 33) (List.mem_of_getElem? (i := 1069) (by decide +kernel)))
  obtain ⟨D, hKc⟩ : ∃ D : va_G, ∀ (k : Nat) (q : vw_C), vwCl[k]? = some q → u_Kn s q.1 q.2.1 q.2.2 (D.1 k) (D.2 k) := by
    refine ⟨(fun k => ([k0, k1, k2, k3, k4, k5, k6, k7, k8, k9, k10] : List ClassId).getD k k0, fun k => ([i0, i1, i2, i3, i4, i5, i6, i7, i8, i9, i10] : List (Nat → Nat)).getD k i0), ?_⟩
    intro k q hq
    match k, hq with
    | 0, hq => cases hq; exact hKn0
    | 1, hq => cases hq; exact hKn1
    | 2, hq => cases hq; exact hKn2
    | 3, hq => cases hq; exact hKn3
    | 4, hq => cases hq; exact hKn4
    | 5, hq => cases hq; exact hKn5
    | 6, hq => cases hq; exact hKn6
    | 7, hq => cases hq; exact hKn7
    | 8, hq => cases hq; exact hKn8
    | 9, hq => cases hq; exact hKn9
    | 10, hq => cases hq; exact hKn10
    | k + 11, hq => simp [vwCl] at hq
  have hK : va_K D vwCl [] s := ⟨hKc, fun k q h => by simp at h⟩
  have hN : q_N s := ⟨⟨va_Nw.of rfl (hts (.fieldLinkNest RX9 212 "OnlyPrimes$Walk" "soonest" "I" "OnlyPrimes") (List.mem_of_getElem? (i := 326) (by decide +kernel))), va_Nw.of rfl (hts (.fieldLinkNest RX9 218 "OnlyPrimes$Walk" "never" "I" "OnlyPrimes") (List.mem_of_getElem? (i := 328) (by decide +kernel)))⟩, (va_Nw.of rfl (hts (.methodLinkNest RX1 62 yX9_isWithin "OnlyPrimes") (List.mem_of_getElem? (i := 457) (by decide +kernel)))), (va_Nw.of rfl (hts (.methodLinkNest RX2 35 yX9_isCorner "OnlyPrimes") (List.mem_of_getElem? (i := 475) (by decide +kernel)))), (va_Nw.of rfl (hts (.methodLinkNest RX2 64 yX9_isWithin "OnlyPrimes") (List.mem_of_getElem? (i := 651) (by decide +kernel)))), (va_Nw.of rfl (hts (.methodLinkNest RX3 101 yX9_isWithin "OnlyPrimes") (List.mem_of_getElem? (i := 545) (by decide +kernel)))), (va_Nw.of rfl (hts (.methodLinkNest RX4 43 yX9_isWithin "OnlyPrimes") (List.mem_of_getElem? (i := 751) (by decide +kernel)))), (va_Nw.of rfl (hts (.methodLinkNest RX8 125 yX9_isWithin "OnlyPrimes") (List.mem_of_getElem? (i := 924) (by decide +kernel))))⟩
  have hN2 : q_N2 s := ⟨(va_Nw.of rfl (hts (.methodLinkNest RX1 20 yX2_init "OnlyPrimes") (List.mem_of_getElem? (i := 109) (by decide +kernel)))), (va_Nw.of rfl (hts (.methodLinkNest RX3 11 yX2_init "OnlyPrimes") (List.mem_of_getElem? (i := 231) (by decide +kernel)))), (va_Nw.of rfl (hts (.methodLinkNest RX9 30 yX3_init "OnlyPrimes") (List.mem_of_getElem? (i := 226) (by decide +kernel)))), (va_Nw.of rfl (hts (.methodLinkNest RX9 37 yX0_init "OnlyPrimes") (List.mem_of_getElem? (i := 256) (by decide +kernel)))), (va_Nw.of rfl (hts (.methodLinkNest RX9 44 yX4_init "OnlyPrimes") (List.mem_of_getElem? (i := 271) (by decide +kernel)))), (va_Nw.of rfl (hts (.methodLinkNest RX9 51 yX6_init "OnlyPrimes") (List.mem_of_getElem? (i := 291) (by decide +kernel)))), (va_Nw.of rfl (hts (.methodLinkNest RX9 58 yX8_init "OnlyPrimes") (List.mem_of_getElem? (i := 316) (by decide +kernel)))), (va_Nw.of rfl (hts (.methodLinkNest RX9 65 yX5_init "OnlyPrimes") (List.mem_of_getElem? (i := 371) (by decide +kernel)))), va_AO.of (hts (.arrayOver (.object "OnlyPrimes$Kept")) (List.mem_of_getElem? (i := 223) (by decide +kernel)))⟩
  have hs := flat_of_before _ hgv
  obtain ⟨adK, adV, hE1, hE2⟩ := vk_Sof (args := #[Value.ref b]) (s := s) (N := 3) (tm := fun i => Term.string "OnlyPrimes$Reader" (([112, 118, 120] : List Nat).getD i 0)) (len := q_len) (byt := q_byt) (A := (fun q : Nat => s.heap.size ≤ q)) (fun i hi => co_3 (P := fun i => q_len.getD i 0 < 2 ^ 31) (by decide) (by decide) (by decide) hi)
    (fun i hi => co_3 (P := fun i => (Cond.exactly (Term.string "OnlyPrimes$Reader" (([112, 118, 120] : List Nat).getD i 0)) "java/lang/String").before #[Value.ref b] s = true) (hs _ (by decide +kernel)) (hs _ (by decide +kernel)) (hs _ (by decide +kernel)) hi)
    (fun i hi => co_3 (P := fun i => (Cond.eq (.field (Term.string "OnlyPrimes$Reader" (([112, 118, 120] : List Nat).getD i 0)) "java/lang/String" "coder" "B") (.int 0)).before #[Value.ref b] s = true) (hs _ (by decide +kernel)) (hs _ (by decide +kernel)) (hs _ (by decide +kernel)) hi)
    (fun i hi => co_3 (P := fun i => (Cond.arrayOf (.field (Term.string "OnlyPrimes$Reader" (([112, 118, 120] : List Nat).getD i 0)) "java/lang/String" "value" "[B") .byte).before #[Value.ref b] s = true) (hs _ (by decide +kernel)) (hs _ (by decide +kernel)) (hs _ (by decide +kernel)) hi)
    (fun i hi => co_3 (P := fun i => (Cond.eq (.length (.field (Term.string "OnlyPrimes$Reader" (([112, 118, 120] : List Nat).getD i 0)) "java/lang/String" "value" "[B")) (.int (Int32.ofNat (q_len.getD i 0)))).before #[Value.ref b] s = true) (hs _ (by decide +kernel)) (hs _ (by decide +kernel)) (hs _ (by decide +kernel)) hi)
    (fun i hi => co_3 (P := fun i => ∀ j : Nat, j < q_len.getD i 0 → (Cond.eq (.elem (.field (Term.string "OnlyPrimes$Reader" (([112, 118, 120] : List Nat).getD i 0)) "java/lang/String" "value" "[B") (.int (Int32.ofNat j))) (.int ((q_byt.getD i []).getD j 0))).before #[Value.ref b] s = true) (fun j hj => co_3 (P := fun j => (Cond.eq (.elem (.field (Term.string "OnlyPrimes$Reader" (([112, 118, 120] : List Nat).getD 0 0)) "java/lang/String" "value" "[B") (.int (Int32.ofNat j))) (.int ((q_byt.getD 0 []).getD j 0))).before #[Value.ref b] s = true) (hs _ (by decide +kernel)) (hs _ (by decide +kernel)) (hs _ (by decide +kernel)) hj) (fun j hj => co_3 (P := fun j => (Cond.eq (.elem (.field (Term.string "OnlyPrimes$Reader" (([112, 118, 120] : List Nat).getD 1 0)) "java/lang/String" "value" "[B") (.int (Int32.ofNat j))) (.int ((q_byt.getD 1 []).getD j 0))).before #[Value.ref b] s = true) (hs _ (by decide +kernel)) (hs _ (by decide +kernel)) (hs _ (by decide +kernel)) hj) (fun j hj => co_2 (P := fun j => (Cond.eq (.elem (.field (Term.string "OnlyPrimes$Reader" (([112, 118, 120] : List Nat).getD 2 0)) "java/lang/String" "value" "[B") (.int (Int32.ofNat j))) (.int ((q_byt.getD 2 []).getD j 0))).before #[Value.ref b] s = true) (hs _ (by decide +kernel)) (hs _ (by decide +kernel)) hj) hi)
    (fun i j hi hj hij => by
      have h01 := hs (.not (.eq (Term.string "OnlyPrimes$Reader" 112) (Term.string "OnlyPrimes$Reader" 118))) (by decide +kernel)
      have h02 := hs (.not (.eq (Term.string "OnlyPrimes$Reader" 112) (Term.string "OnlyPrimes$Reader" 120))) (by decide +kernel)
      have h12 := hs (.not (.eq (Term.string "OnlyPrimes$Reader" 118) (Term.string "OnlyPrimes$Reader" 120))) (by decide +kernel)
      rcases (show i = 0 ∨ i = 1 ∨ i = 2 by omega) with rfl | rfl | rfl <;> rcases (show j = 0 ∨ j = 1 ∨ j = 2 by omega) with rfl | rfl | rfl
      · exact absurd rfl hij
      · exact Or.inl h01
      · exact Or.inl h02
      · exact Or.inr h01
      · exact absurd rfl hij
      · exact Or.inl h12
      · exact Or.inr h02
      · exact Or.inr h12
      · exact absurd rfl hij)
    hout
  have hE : q_E (adK, adV) (fun q : Nat => s.heap.size ≤ q) s s.heap := ⟨hE1, ⟨vk_R.of (hts (.stringRef RX3 112 "way") (List.mem_of_getElem? (i := 550) (by decide +kernel))) (hE2 0 (by decide)), vk_R.of (hts (.stringRef RX3 118 "one") (List.mem_of_getElem? (i := 603) (by decide +kernel))) (hE2 1 (by decide)), vk_R.of (hts (.stringRef RX3 120 "go") (List.mem_of_getElem? (i := 604) (by decide +kernel))) (hE2 2 (by decide))⟩, va_Zof (hts (.laysStatic "java/lang/String" "COMPACT_STRINGS" "Z") (List.mem_of_getElem? (i := 564) (by decide +kernel))) (hts (.initialized "java/lang/String") (List.mem_of_getElem? (i := 88) (by decide +kernel))) (va_eqi (hs _ (by decide +kernel))) hout, va_Zqof (hts (.laysStatic "jdk/internal/util/Preconditions" "SIOOBE_FORMATTER" "Ljava/util/function/BiFunction;") (List.mem_of_getElem? (i := 580) (by decide +kernel))) (hts (.initialized "jdk/internal/util/Preconditions") (List.mem_of_getElem? (i := 90) (by decide +kernel))) (hs _ (by decide +kernel)) hout⟩
  have hS : va_S (fun q : Nat => s.heap.size ≤ q) s.heap s.heap [] := va_S.rf
  have hP : va_P D vwCl [] s.heap := fun k q h => by simp at h
  have hD : va_D (fun q : Nat => s.heap.size ≤ q) [] := ⟨fun i j p q h => by simp at h, fun k q h => by simp at h⟩
  have hl := lv_entry ([.ref b]) (n := 4) (Nat.le_of_ble_eq_true rfl)
  rw [lg_entry_eq]
  generalize (lg_sl ([.ref b]) ++ List.replicate (4 - (lg_sl ([.ref b])).length) Slot.unset).toArray = ls at hl ⊢
  have hl : lv_has ls 4 [(0, .ref b)] := hl
  refine va_new (ci := 9) (fs := [.null, .null, .int 0, .null, .int 0, .int 0, .null, .null, .null, .null, .null, .null]) (C := RX9) (T := TX9) (N := 12) hx hb hts inX9 tyX9 tyX9_ok hown (hts (.classLink R_law 7 RX9) (List.mem_of_getElem? (i := 93) (by decide +kernel))) (hts (.instantiable RX9 12) (List.mem_of_getElem? (i := 94) (by decide +kernel))) (hts (.initialized RX9) (List.mem_of_getElem? (i := 76) (by decide +kernel))) hK hP hD hS hA rfl (fun j hj => by rcases (show j = 0 ∨ j = 1 ∨ j = 2 ∨ j = 3 ∨ j = 4 ∨ j = 5 ∨ j = 6 ∨ j = 7 ∨ j = 8 ∨ j = 9 ∨ j = 10 ∨ j = 11 by omega) with rfl | rfl | rfl | rfl | rfl | rfl | rfl | rfl | rfl | rfl | rfl | rfl <;> rfl) (Nat.le_of_ble_eq_true rfl) (Nat.le_of_ble_eq_true rfl) dL_law_0 (fun q1 H hP hD hS => ?_)
  have hP : va_P D vwCl [(q1, .inr (9, [.null, .null, .int 0, .null, .int 0, .int 0, .null, .null, .null, .null, .null, .null]))] H := hP
  have hD : va_D (fun q : Nat => s.heap.size ≤ q) [(q1, .inr (9, [.null, .null, .int 0, .null, .int 0, .int 0, .null, .null, .null, .null, .null, .null]))] := hD
  refine W.widen (k := 1) (n := 12) (Nat.le_of_ble_eq_true rfl) (Nat.le_of_ble_eq_true rfl) ?_
  refine lv_dup hx hb dL_law_3 rfl ?_
  refine q_aN (va_runI (As := []) (rest := [.ref q1]) ⟨hx, hb, hml, hown, hts⟩ (n_X9 l D (adK, adV) q1 H.size) (cwI 0 hts (goodIn_up gL_law_X9_init) rfl rfl rfl (hts (.initialized RX9) (List.mem_of_getElem? (i := 76) (by decide +kernel))) (hts (.methodLink R_law 9 yX9_init) (List.mem_of_getElem? (i := 95) (by decide +kernel))) (hts (.instanceMethod yX9_init) (List.mem_of_getElem? (i := 96) (by decide +kernel))) rfl (by decide +kernel) ⟨Nat.le_of_ble_eq_true rfl, Nat.le_of_ble_eq_true rfl⟩) (q_psN hK hN hE hN2 hS hA hP hD [0] rfl rfl rfl) rfl rfl hl.1 rfl (lv_room (Nat.le_of_ble_eq_true rfl)) dL_law_4 ⟨Nat.le_of_ble_eq_true rfl, Nat.le_of_ble_eq_true rfl⟩) hK hP hD hS hA [0] [] (Wr := []) rfl rfl rfl (by decide) (fun ad kI kB kQ H locs hP hK hD hS => ?_)
  have hK : va_K D vwCl (q_tys kI kB kQ) s := hK.sub [0, 2, 1] rfl
  have hP : va_P D vwCl (wN_X9 q1 ad kI kB kQ) H := hP
  have hD : va_D (fun q : Nat => s.heap.size ≤ q) (wN_X9 q1 ad kI kB kQ) := hD
  refine W.widen (k := 125) (n := 13224) (Nat.le_of_ble_eq_true rfl) (Nat.le_of_ble_eq_true rfl) ?_
  refine lv_astore_n (lv' := [(1, .ref q1), (0, .ref b)]) hx hb dL_law_7 rfl hl (by decide) rfl (fun ls hl => ?_)
  refine va_new (ci := 10) (fs := [.null, .null, .null, .int 0, .int 0, .int 0, .int 0, .int 0, .int 0, .int 0, .int 0, .int 0, .null, .null, .null, .null, .null, .null, .null, .null, .null, .null, .null, .null, .null, .null, .null, .null, .null, .null, .null, .null, .long 0]) (C := RX10) (T := TX10) (N := 33) hx hb hts inX10 tyX10 tyX10_ok hown (hts (.classLink R_law 10 RX10) (List.mem_of_getElem? (i := 1068) (by decide +kernel))) (hts (.instantiable RX10 33) (List.mem_of_getElem? (i := 1069) (by decide +kernel))) (hts (.initialized RX10) (List.mem_of_getElem? (i := 87) (by decide +kernel))) hK hP hD hS hA rfl (fun j hj => by rcases (show j = 0 ∨ j = 1 ∨ j = 2 ∨ j = 3 ∨ j = 4 ∨ j = 5 ∨ j = 6 ∨ j = 7 ∨ j = 8 ∨ j = 9 ∨ j = 10 ∨ j = 11 ∨ j = 12 ∨ j = 13 ∨ j = 14 ∨ j = 15 ∨ j = 16 ∨ j = 17 ∨ j = 18 ∨ j = 19 ∨ j = 20 ∨ j = 21 ∨ j = 22 ∨ j = 23 ∨ j = 24 ∨ j = 25 ∨ j = 26 ∨ j = 27 ∨ j = 28 ∨ j = 29 ∨ j = 30 ∨ j = 31 ∨ j = 32 by omega) with rfl | rfl | rfl | rfl | rfl | rfl | rfl | rfl | rfl | rfl | rfl | rfl | rfl | rfl | rfl | rfl | rfl | rfl | rfl | rfl | rfl | rfl | rfl | rfl | rfl | rfl | rfl | rfl | rfl | rfl | rfl | rfl | rfl <;> rfl) (Nat.le_of_ble_eq_true rfl) (Nat.le_of_ble_eq_true rfl) dL_law_8 (fun q2 H hP hD hS => ?_)
  refine W.widen (k := 126) (n := 13257) (Nat.le_of_ble_eq_true rfl) (Nat.le_of_ble_eq_true rfl) ?_
  refine lv_dup hx hb dL_law_11 rfl ?_
  refine q_aN (va_runI (As := []) (rest := [.ref q2]) ⟨hx, hb, hml, hown, hts⟩ (n_X10 l D (adK, adV) q2 H.size) (cwI 0 hts (goodIn_up gL_law_X10_init) rfl rfl rfl (hts (.initialized RX10) (List.mem_of_getElem? (i := 87) (by decide +kernel))) (hts (.methodLink R_law 12 yX10_init) (List.mem_of_getElem? (i := 1070) (by decide +kernel))) (hts (.instanceMethod yX10_init) (List.mem_of_getElem? (i := 1071) (by decide +kernel))) rfl (by decide +kernel) ⟨Nat.le_of_ble_eq_true rfl, Nat.le_of_ble_eq_true rfl⟩) (q_psN hK hN hE hN2 hS hA hP hD [125] rfl rfl rfl) rfl rfl hl.1 rfl (lv_room (Nat.le_of_ble_eq_true rfl)) dL_law_12 ⟨Nat.le_of_ble_eq_true rfl, Nat.le_of_ble_eq_true rfl⟩) hK hP hD hS hA [125] [0, 1, 2, 3, 4, 5, 6, 7, 8, 9, 10, 11, 12, 13, 14, 15, 16, 17, 18, 19, 20, 21, 22, 23, 24, 25, 26, 27, 28, 29, 30, 31, 32, 33, 34, 35, 36, 37, 38, 39, 40, 41, 42, 43, 44, 45, 46, 47, 48, 49, 50, 51, 52, 53, 54, 55, 56, 57, 58, 59, 60, 61, 62, 63, 64, 65, 66, 67, 68, 69, 70, 71, 72, 73, 74, 75, 76, 77, 78, 79, 80, 81, 82, 83, 84, 85, 86, 87, 88, 89, 90, 91, 92, 93, 94, 95, 96, 97, 98, 99, 100, 101, 102, 103, 104, 105, 106, 107, 108, 109, 110, 111, 112, 113, 114, 115, 116, 117, 118, 119, 120, 121, 122, 123, 124] (Wr := wN_X9 q1 ad kI kB kQ) rfl rfl rfl (by decide) (fun ad2 kI2 kB2 kQ2 H locs hP hK hD hS => ?_)
  have eI := q_kI hK 0 3 rfl rfl
  subst eI
  have eB := q_kB hK 1 4 rfl rfl
  subst eB
  have hK : va_K D vwCl (q_tys kI kB kQ) s := hK.sub [0, 1, 2] rfl
  refine W.widen (k := 149) (n := 22927) (Nat.le_of_ble_eq_true rfl) (Nat.le_of_ble_eq_true rfl) ?_
  refine lv_astore_n (lv' := [(2, .ref q2), (1, .ref q1), (0, .ref b)]) hx hb dL_law_15 rfl hl (by decide) rfl (fun ls hl => ?_)
  refine lv_iconst (v := 0) hx hb dL_law_16 (by decide) ?_
  refine lv_istore_n (lv' := [(3, .int 0), (2, .ref q2), (1, .ref q1), (0, .ref b)]) hx hb dL_law_17 rfl hl (by decide) rfl (fun ls hl => ?_)
  have hP : va_P D vwCl (wL (fun k => match k with | 0 => q1 | k + 1 => ad k) (fun k => match k with | 0 => q2 | k + 1 => ad2 k) kI kB kQ (.ref (ad 19)) cx0 cf0 (-1) 0) H := hP
  have hD : va_D (fun q : Nat => s.heap.size ≤ q) (wL (fun k => match k with | 0 => q1 | k + 1 => ad k) (fun k => match k with | 0 => q2 | k + 1 => ad2 k) kI kB kQ (.ref (ad 19)) cx0 cf0 (-1) 0) := hD
  exact law_loop l C0 hK hN hE hL hO (L + 2) 0 (by omega) (by omega) cx0 cf0 _ _ _ h0 H locs ls hP hD hS (lv_sub hl [3, 2, 1, 0] rfl)
