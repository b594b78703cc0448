def OpsOk (N : Nat) (Rel : q_Rel) : Prop := Op_told N Rel ∧ Op_allowed N Rel ∧ Op_way N Rel ∧ Op_one N Rel ∧ Op_type N Rel ∧ Op_clear N Rel ∧ Op_read N Rel ∧ Op_judged N Rel ∧ Op_ends N Rel ∧ Op_parted N Rel ∧ Op_row N Rel ∧ Op_knot N Rel ∧ Op_untie N Rel ∧ Op_counted N Rel ∧ Op_partings N Rel ∧ Op_together N Rel ∧ Op_soonest N Rel ∧ Op_at N Rel ∧ Op_never N Rel ∧ Op_hired N Rel ∧ Op_last N Rel ∧ Op_still N Rel ∧ Op_tables N Rel ∧ Op_company N Rel ∧ Op_disperse N Rel ∧ Op_put N Rel ∧ Op_ferry N Rel ∧ Op_part N Rel ∧ Op_image N Rel ∧ Op_from N Rel ∧ Op_status N Rel ∧ Op_count N Rel ∧ Op_digest N Rel
set_option maxHeartbeats 8000000 in
set_option maxRecDepth 100000 in
theorem law_loop {p : Program} {e : Env} {s : State} {m : MethodId} {below : List Frame} {meth : Method} {c : Code} (l : Launch) {D : va_G} {E : q_En} {b L : Nat} {xs : Nat → Int32} (C0 : lw_At p s m meth c b L xs) {kI kB kQ : ClassId} {aX aM : Nat → Nat} (hK : va_K D vwCl (q_tys kI kB kQ) s) (hN : q_N s) (hE : q_E E (fun q : Nat => s.heap.size ≤ q) s s.heap) {N : Nat} {Rel : q_Rel} (hL : L ≤ 3072) (hO : OpsOk N Rel) : ∀ (n i : Nat), i ≤ L + 6 → L + 6 < i + 6 * n → ∀ (cx : Nat → Int32) (cf : Nat → Nat → Int32) (key ms : Int64) (vt : Value), Rel cx cf key ms → ∀ (H : Heap) (locs : List Loc) (ls : Array Slot), va_P D vwCl (wL aX aM kI kB kQ vt cx cf key ms) H → va_D (fun q : Nat => s.heap.size ≤ q) (wL aX aM kI kB kQ vt cx cf key ms) → va_S (fun q : Nat => s.heap.size ≤ q) s.heap H locs → lv_has ls 4 [(0, .ref b), (1, .ref (aX 0)), (2, .ref (aM 0)), (3, .int (nI i))] → W p l e room_1 s m #[Value.ref b] below meth c H locs 149 22927 (lw_Z below #[Value.ref b] s) (F0 m 18 ls []) := by
  obtain ⟨hx, hb, hr, hml, hown, hts, hX, hbl, hlocks, hgv⟩ := id C0
  have hbA : ¬ (fun q : Nat => s.heap.size ≤ q) b := Nat.not_le.mpr hbl
  intro n
  induction n with
  | zero => intro i h1 h2; exact absurd h2 (by omega)
  | succ n ih =>
    intro i h1 h2 cx cf key ms vt hR H locs ls hP hD hS hl
    refine lv_iload_n hx hb dL_law_18 rfl (lv_at hl 3 rfl) ?_
    refine lv_aload_n hx hb dL_law_19 rfl (lv_at hl 0 rfl) ?_
    refine va_slen hx hb hX hbl hbA hS dL_law_20 ?_
    refine lv_bipush (v := 6) hx hb dL_law_21 (by decide) ?_
    refine lv_isub hx hb dL_law_23 ?_
    have hsub : (Int32.ofNat L - 6).toInt = (L : Int) - 6 := pk_sub_toInt (a := L) (b := 6) (by omega) (by omega)
    refine lv_icmp_gt (tgt := 1198) hx hb dL_law_24 (by decide) (fun c1 => ?_) (fun c1 => ?_)
    · refine lv_iconst (v := 1) hx hb dL_law_1198 (by decide) ?_
      refine va_forget (fun q hq => hS.2.2 q hq) ?_
      refine W.widen (k := 600000) (n := 7302250) (Nat.le_of_ble_eq_true rfl) (Nat.le_of_ble_eq_true rfl) ?_
      exact lw_ret hx hb hr hlocks dL_law_1199
    · have hi6 : i + 6 ≤ L := by
        rw [Int32.lt_iff_toInt_lt, hsub, nI_toInt (by omega)] at c1
        omega
      have hv : ∀ k, k < 6 → vp_in (nI (i + k)) L := fun k hk => vp_in_nI (by omega) (by omega)
      have hi0 : vp_in (nI i) L := hv 0 (by omega)
      have hi1 : vp_in (nI i + 1) L := by rw [show nI i + 1 = nI (i + 1) from nI_add i 1]; exact hv 1 (by omega)
      have hi2 : vp_in (nI i + 2) L := by rw [show nI i + 2 = nI (i + 2) from nI_add i 2]; exact hv 2 (by omega)
      have hi3 : vp_in (nI i + 3) L := by rw [show nI i + 3 = nI (i + 3) from nI_add i 3]; exact hv 3 (by omega)
      have hi4 : vp_in (nI i + 4) L := by rw [show nI i + 4 = nI (i + 4) from nI_add i 4]; exact hv 4 (by omega)
      have hi5 : vp_in (nI i + 5) L := by rw [show nI i + 5 = nI (i + 5) from nI_add i 5]; exact hv 5 (by omega)
      have kk : ∀ (cx : Nat → Int32) (cf : Nat → Nat → Int32) (key ms : Int64) (vt : Value), Rel cx cf key ms → ∀ (H : Heap) (locs : List Loc) (ls : Array Slot), va_P D vwCl (wL aX aM kI kB kQ vt cx cf key ms) H → va_D (fun q : Nat => s.heap.size ≤ q) (wL aX aM kI kB kQ vt cx cf key ms) → va_S (fun q : Nat => s.heap.size ≤ q) s.heap H locs → lv_has ls 4 [(0, .ref b), (1, .ref (aX 0)), (2, .ref (aM 0)), (3, .int (nI i))] → W p l e room_1 s m #[Value.ref b] below meth c H locs 149 22927 (lw_Z below #[Value.ref b] s) (F0 m 1192 ls []) := by
        intro cx cf key ms vt hR H locs ls hP hD hS hl
        refine lv_iinc (v := nI (i + 6)) (lv' := [(3, .int (nI (i + 6))), (0, .ref b), (1, .ref (aX 0)), (2, .ref (aM 0))]) hx hb dL_law_1192 hl (k := 3) rfl (nI_add i 6) (by decide) rfl (fun ls hl => ?_)
        refine lv_goto (tgt := 18) hx hb dL_law_1195 (by decide) ?_
        exact ih (i + 6) (by omega) (by omega) cx cf key ms vt hR H locs ls hP hD hS (lv_sub hl [1, 2, 3, 0] rfl)
      refine lv_aload_n hx hb dL_law_27 rfl (lv_at hl 0 rfl) ?_
      refine lv_iload_n hx hb dL_law_28 rfl (lv_at hl 3 rfl) ?_
      refine va_sld hx hb hX hbl hbA hS hi0 dL_law_29 ?_
      refine lv_bipush (v := 63) hx hb dL_law_30 (by decide) ?_
      refine lv_iand hx hb dL_law_32 ?_
      generalize xs (nI i).toNatClampNeg &&& 63 = y
      rcases Decidable.em (y = nI 0) with e0 | e1
      · refine lv_tableIn (tgt := 180) (off := 147) hx hb dL_law_33 (by rw [q_tabI e0 (by decide)]; decide) (by rw [q_tabI e0 (by decide)]; decide) (by rw [q_tabI e0 (by decide)]; rfl) (by decide) ?_
        exact lc_told l C0 hK hN hE hO.1 hi1 hi2 hi3 hi4 hi5 kk cx cf key ms vt hR H locs ls hP hD hS hl
      rcases Decidable.em (y = nI 1) with e0 | e2
      · refine lv_tableIn (tgt := 203) (off := 170) hx hb dL_law_33 (by rw [q_tabI e0 (by decide)]; decide) (by rw [q_tabI e0 (by decide)]; decide) (by rw [q_tabI e0 (by decide)]; rfl) (by decide) ?_
        exact lc_allowed l C0 hK hN hE hO.2.1 hi1 hi2 hi3 hi4 hi5 kk cx cf key ms vt hR H locs ls hP hD hS hl
      rcases Decidable.em (y = nI 2) with e0 | e3
      · refine lv_tableIn (tgt := 236) (off := 203) hx hb dL_law_33 (by rw [q_tabI e0 (by decide)]; decide) (by rw [q_tabI e0 (by decide)]; decide) (by rw [q_tabI e0 (by decide)]; rfl) (by decide) ?_
        exact lc_way l C0 hK hN hE hO.2.2.1 hi1 hi2 hi3 hi4 hi5 kk cx cf key ms vt hR H locs ls hP hD hS hl
      rcases Decidable.em (y = nI 3) with e0 | e4
      · refine lv_tableIn (tgt := 295) (off := 262) hx hb dL_law_33 (by rw [q_tabI e0 (by decide)]; decide) (by rw [q_tabI e0 (by decide)]; decide) (by rw [q_tabI e0 (by decide)]; rfl) (by decide) ?_
        exact lc_one l C0 hK hN hE hO.2.2.2.1 hi1 hi2 hi3 hi4 hi5 kk cx cf key ms vt hR H locs ls hP hD hS hl
      rcases Decidable.em (y = nI 4) with e0 | e5
      · refine lv_tableIn (tgt := 328) (off := 295) hx hb dL_law_33 (by rw [q_tabI e0 (by decide)]; decide) (by rw [q_tabI e0 (by decide)]; decide) (by rw [q_tabI e0 (by decide)]; rfl) (by decide) ?_
        exact lc_type l C0 hK hN hE hO.2.2.2.2.1 hi1 hi2 hi3 hi4 hi5 kk cx cf key ms vt hR H locs ls hP hD hS hl
      rcases Decidable.em (y = nI 5) with e0 | e6
      · refine lv_tableIn (tgt := 391) (off := 358) hx hb dL_law_33 (by rw [q_tabI e0 (by decide)]; decide) (by rw [q_tabI e0 (by decide)]; decide) (by rw [q_tabI e0 (by decide)]; rfl) (by decide) ?_
        exact lc_clear l C0 hK hN hE hO.2.2.2.2.2.1 hi1 hi2 hi3 hi4 hi5 kk cx cf key ms vt hR H locs ls hP hD hS hl
      rcases Decidable.em (y = nI 6) with e0 | e7
      · refine lv_tableIn (tgt := 404) (off := 371) hx hb dL_law_33 (by rw [q_tabI e0 (by decide)]; decide) (by rw [q_tabI e0 (by decide)]; decide) (by rw [q_tabI e0 (by decide)]; rfl) (by decide) ?_
        exact lc_read l C0 hK hN hE hO.2.2.2.2.2.2.1 hi1 hi2 hi3 hi4 hi5 kk cx cf key ms vt hR H locs ls hP hD hS hl
      rcases Decidable.em (y = nI 7) with e0 | e8
      · refine lv_tableIn (tgt := 417) (off := 384) hx hb dL_law_33 (by rw [q_tabI e0 (by decide)]; decide) (by rw [q_tabI e0 (by decide)]; decide) (by rw [q_tabI e0 (by decide)]; rfl) (by decide) ?_
        exact lc_judged l C0 hK hN hE hO.2.2.2.2.2.2.2.1 hi1 hi2 hi3 hi4 hi5 kk cx cf key ms vt hR H locs ls hP hD hS hl
      rcases Decidable.em (y = nI 8) with e0 | e9
      · refine lv_tableIn (tgt := 440) (off := 407) hx hb dL_law_33 (by rw [q_tabI e0 (by decide)]; decide) (by rw [q_tabI e0 (by decide)]; decide) (by rw [q_tabI e0 (by decide)]; rfl) (by decide) ?_
        exact lc_ends l C0 hK hN hE hO.2.2.2.2.2.2.2.2.1 hi1 hi2 hi3 hi4 hi5 kk cx cf key ms vt hR H locs ls hP hD hS hl
      rcases Decidable.em (y = nI 9) with e0 | e10
      · refine lv_tableIn (tgt := 463) (off := 430) hx hb dL_law_33 (by rw [q_tabI e0 (by decide)]; decide) (by rw [q_tabI e0 (by decide)]; decide) (by rw [q_tabI e0 (by decide)]; rfl) (by decide) ?_
        exact lc_parted l C0 hK hN hE hO.2.2.2.2.2.2.2.2.2.1 hi1 hi2 hi3 hi4 hi5 kk cx cf key ms vt hR H locs ls hP hD hS hl
      rcases Decidable.em (y = nI 10) with e0 | e11
      · refine lv_tableIn (tgt := 506) (off := 473) hx hb dL_law_33 (by rw [q_tabI e0 (by decide)]; decide) (by rw [q_tabI e0 (by decide)]; decide) (by rw [q_tabI e0 (by decide)]; rfl) (by decide) ?_
        exact lc_row l C0 hK hN hE hO.2.2.2.2.2.2.2.2.2.2.1 hi1 hi2 hi3 hi4 hi5 kk cx cf key ms vt hR H locs ls hP hD hS hl
      rcases Decidable.em (y = nI 11) with e0 | e12
      · refine lv_tableIn (tgt := 559) (off := 526) hx hb dL_law_33 (by rw [q_tabI e0 (by decide)]; decide) (by rw [q_tabI e0 (by decide)]; decide) (by rw [q_tabI e0 (by decide)]; rfl) (by decide) ?_
        exact lc_knot l C0 hK hN hE hO.2.2.2.2.2.2.2.2.2.2.2.1 hi1 hi2 hi3 hi4 hi5 kk cx cf key ms vt hR H locs ls hP hD hS hl
      rcases Decidable.em (y = nI 12) with e0 | e13
      · refine lv_tableIn (tgt := 582) (off := 549) hx hb dL_law_33 (by rw [q_tabI e0 (by decide)]; decide) (by rw [q_tabI e0 (by decide)]; decide) (by rw [q_tabI e0 (by decide)]; rfl) (by decide) ?_
        exact lc_untie l C0 hK hN hE hO.2.2.2.2.2.2.2.2.2.2.2.2.1 hi1 hi2 hi3 hi4 hi5 kk cx cf key ms vt hR H locs ls hP hD hS hl
      rcases Decidable.em (y = nI 13) with e0 | e14
      · refine lv_tableIn (tgt := 595) (off := 562) hx hb dL_law_33 (by rw [q_tabI e0 (by decide)]; decide) (by rw [q_tabI e0 (by decide)]; decide) (by rw [q_tabI e0 (by decide)]; rfl) (by decide) ?_
        exact lc_counted l C0 hK hN hE hO.2.2.2.2.2.2.2.2.2.2.2.2.2.1 hi1 hi2 hi3 hi4 hi5 kk cx cf key ms vt hR H locs ls hP hD hS hl
      rcases Decidable.em (y = nI 14) with e0 | e15
      · refine lv_tableIn (tgt := 628) (off := 595) hx hb dL_law_33 (by rw [q_tabI e0 (by decide)]; decide) (by rw [q_tabI e0 (by decide)]; decide) (by rw [q_tabI e0 (by decide)]; rfl) (by decide) ?_
        exact lc_partings l C0 hK hN hE hO.2.2.2.2.2.2.2.2.2.2.2.2.2.2.1 hi1 hi2 hi3 hi4 hi5 kk cx cf key ms vt hR H locs ls hP hD hS hl
      rcases Decidable.em (y = nI 15) with e0 | e16
      · refine lv_tableIn (tgt := 661) (off := 628) hx hb dL_law_33 (by rw [q_tabI e0 (by decide)]; decide) (by rw [q_tabI e0 (by decide)]; decide) (by rw [q_tabI e0 (by decide)]; rfl) (by decide) ?_
        exact lc_together l C0 hK hN hE hO.2.2.2.2.2.2.2.2.2.2.2.2.2.2.2.1 hi1 hi2 hi3 hi4 hi5 kk cx cf key ms vt hR H locs ls hP hD hS hl
      rcases Decidable.em (y = nI 16) with e0 | e17
      · refine lv_tableIn (tgt := 704) (off := 671) hx hb dL_law_33 (by rw [q_tabI e0 (by decide)]; decide) (by rw [q_tabI e0 (by decide)]; decide) (by rw [q_tabI e0 (by decide)]; rfl) (by decide) ?_
        exact lc_soonest l C0 hK hN hE hO.2.2.2.2.2.2.2.2.2.2.2.2.2.2.2.2.1 hi1 hi2 hi3 hi4 hi5 kk cx cf key ms vt hR H locs ls hP hD hS hl
      rcases Decidable.em (y = nI 17) with e0 | e18
      · refine lv_tableIn (tgt := 727) (off := 694) hx hb dL_law_33 (by rw [q_tabI e0 (by decide)]; decide) (by rw [q_tabI e0 (by decide)]; decide) (by rw [q_tabI e0 (by decide)]; rfl) (by decide) ?_
        exact lc_at l C0 hK hN hE hO.2.2.2.2.2.2.2.2.2.2.2.2.2.2.2.2.2.1 hi1 hi2 hi3 hi4 hi5 kk cx cf key ms vt hR H locs ls hP hD hS hl
      rcases Decidable.em (y = nI 18) with e0 | e19
      · refine lv_tableIn (tgt := 770) (off := 737) hx hb dL_law_33 (by rw [q_tabI e0 (by decide)]; decide) (by rw [q_tabI e0 (by decide)]; decide) (by rw [q_tabI e0 (by decide)]; rfl) (by decide) ?_
        exact lc_never l C0 hK hN hE hO.2.2.2.2.2.2.2.2.2.2.2.2.2.2.2.2.2.2.1 hi1 hi2 hi3 hi4 hi5 kk cx cf key ms vt hR H locs ls hP hD hS hl
      rcases Decidable.em (y = nI 19) with e0 | e20
      · refine lv_tableIn (tgt := 793) (off := 760) hx hb dL_law_33 (by rw [q_tabI e0 (by decide)]; decide) (by rw [q_tabI e0 (by decide)]; decide) (by rw [q_tabI e0 (by decide)]; rfl) (by decide) ?_
        exact lc_hired l C0 hK hN hE hO.2.2.2.2.2.2.2.2.2.2.2.2.2.2.2.2.2.2.2.1 hi1 hi2 hi3 hi4 hi5 kk cx cf key ms vt hR H locs ls hP hD hS hl
      rcases Decidable.em (y = nI 20) with e0 | e21
      · refine lv_tableIn (tgt := 842) (off := 809) hx hb dL_law_33 (by rw [q_tabI e0 (by decide)]; decide) (by rw [q_tabI e0 (by decide)]; decide) (by rw [q_tabI e0 (by decide)]; rfl) (by decide) ?_
        exact lc_last l C0 hK hN hE hO.2.2.2.2.2.2.2.2.2.2.2.2.2.2.2.2.2.2.2.2.1 hi1 hi2 hi3 hi4 hi5 kk cx cf key ms vt hR H locs ls hP hD hS hl
      rcases Decidable.em (y = nI 21) with e0 | e22
      · refine lv_tableIn (tgt := 875) (off := 842) hx hb dL_law_33 (by rw [q_tabI e0 (by decide)]; decide) (by rw [q_tabI e0 (by decide)]; decide) (by rw [q_tabI e0 (by decide)]; rfl) (by decide) ?_
        exact lc_still l C0 hK hN hE hO.2.2.2.2.2.2.2.2.2.2.2.2.2.2.2.2.2.2.2.2.2.1 hi1 hi2 hi3 hi4 hi5 kk cx cf key ms vt hR H locs ls hP hD hS hl
      rcases Decidable.em (y = nI 22) with e0 | e23
      · refine lv_tableIn (tgt := 898) (off := 865) hx hb dL_law_33 (by rw [q_tabI e0 (by decide)]; decide) (by rw [q_tabI e0 (by decide)]; decide) (by rw [q_tabI e0 (by decide)]; rfl) (by decide) ?_
        exact lc_tables l C0 hK hN hE hO.2.2.2.2.2.2.2.2.2.2.2.2.2.2.2.2.2.2.2.2.2.2.1 hi1 hi2 hi3 hi4 hi5 kk cx cf key ms vt hR H locs ls hP hD hS hl
      rcases Decidable.em (y = nI 23) with e0 | e24
      · refine lv_tableIn (tgt := 961) (off := 928) hx hb dL_law_33 (by rw [q_tabI e0 (by decide)]; decide) (by rw [q_tabI e0 (by decide)]; decide) (by rw [q_tabI e0 (by decide)]; rfl) (by decide) ?_
        exact lc_company l C0 hK hN hE hO.2.2.2.2.2.2.2.2.2.2.2.2.2.2.2.2.2.2.2.2.2.2.2.1 hi1 hi2 hi3 hi4 hi5 kk cx cf key ms vt hR H locs ls hP hD hS hl
      rcases Decidable.em (y = nI 24) with e0 | e25
      · refine lv_tableIn (tgt := 984) (off := 951) hx hb dL_law_33 (by rw [q_tabI e0 (by decide)]; decide) (by rw [q_tabI e0 (by decide)]; decide) (by rw [q_tabI e0 (by decide)]; rfl) (by decide) ?_
        exact lc_disperse l C0 hK hN hE hO.2.2.2.2.2.2.2.2.2.2.2.2.2.2.2.2.2.2.2.2.2.2.2.2.1 hi1 hi2 hi3 hi4 hi5 kk cx cf key ms vt hR H locs ls hP hD hS hl
      rcases Decidable.em (y = nI 25) with e0 | e26
      · refine lv_tableIn (tgt := 997) (off := 964) hx hb dL_law_33 (by rw [q_tabI e0 (by decide)]; decide) (by rw [q_tabI e0 (by decide)]; decide) (by rw [q_tabI e0 (by decide)]; rfl) (by decide) ?_
        exact lc_put l C0 hK hN hE hO.2.2.2.2.2.2.2.2.2.2.2.2.2.2.2.2.2.2.2.2.2.2.2.2.2.1 hi1 hi2 hi3 hi4 hi5 kk cx cf key ms vt hR H locs ls hP hD hS hl
      rcases Decidable.em (y = nI 26) with e0 | e27
      · refine lv_tableIn (tgt := 1030) (off := 997) hx hb dL_law_33 (by rw [q_tabI e0 (by decide)]; decide) (by rw [q_tabI e0 (by decide)]; decide) (by rw [q_tabI e0 (by decide)]; rfl) (by decide) ?_
        exact lc_ferry l C0 hK hN hE hO.2.2.2.2.2.2.2.2.2.2.2.2.2.2.2.2.2.2.2.2.2.2.2.2.2.2.1 hi1 hi2 hi3 hi4 hi5 kk cx cf key ms vt hR H locs ls hP hD hS hl
      rcases Decidable.em (y = nI 27) with e0 | e28
      · refine lv_tableIn (tgt := 1063) (off := 1030) hx hb dL_law_33 (by rw [q_tabI e0 (by decide)]; decide) (by rw [q_tabI e0 (by decide)]; decide) (by rw [q_tabI e0 (by decide)]; rfl) (by decide) ?_
        exact lc_part l C0 hK hN hE hO.2.2.2.2.2.2.2.2.2.2.2.2.2.2.2.2.2.2.2.2.2.2.2.2.2.2.2.1 hi1 hi2 hi3 hi4 hi5 kk cx cf key ms vt hR H locs ls hP hD hS hl
      rcases Decidable.em (y = nI 28) with e0 | e29
      · refine lv_tableIn (tgt := 1086) (off := 1053) hx hb dL_law_33 (by rw [q_tabI e0 (by decide)]; decide) (by rw [q_tabI e0 (by decide)]; decide) (by rw [q_tabI e0 (by decide)]; rfl) (by decide) ?_
        exact lc_image l C0 hK hN hE hO.2.2.2.2.2.2.2.2.2.2.2.2.2.2.2.2.2.2.2.2.2.2.2.2.2.2.2.2.1 hi1 hi2 hi3 hi4 hi5 kk cx cf key ms vt hR H locs ls hP hD hS hl
      rcases Decidable.em (y = nI 29) with e0 | e30
      · refine lv_tableIn (tgt := 1109) (off := 1076) hx hb dL_law_33 (by rw [q_tabI e0 (by decide)]; decide) (by rw [q_tabI e0 (by decide)]; decide) (by rw [q_tabI e0 (by decide)]; rfl) (by decide) ?_
        exact lc_from l C0 hK hN hE hO.2.2.2.2.2.2.2.2.2.2.2.2.2.2.2.2.2.2.2.2.2.2.2.2.2.2.2.2.2.1 hi1 hi2 hi3 hi4 hi5 kk cx cf key ms vt hR H locs ls hP hD hS hl
      rcases Decidable.em (y = nI 30) with e0 | e31
      · refine lv_tableIn (tgt := 1132) (off := 1099) hx hb dL_law_33 (by rw [q_tabI e0 (by decide)]; decide) (by rw [q_tabI e0 (by decide)]; decide) (by rw [q_tabI e0 (by decide)]; rfl) (by decide) ?_
        exact lc_status l C0 hK hN hE hO.2.2.2.2.2.2.2.2.2.2.2.2.2.2.2.2.2.2.2.2.2.2.2.2.2.2.2.2.2.2.1 hi1 hi2 hi3 hi4 hi5 kk cx cf key ms vt hR H locs ls hP hD hS hl
      rcases Decidable.em (y = nI 31) with e0 | e32
      · refine lv_tableIn (tgt := 1155) (off := 1122) hx hb dL_law_33 (by rw [q_tabI e0 (by decide)]; decide) (by rw [q_tabI e0 (by decide)]; decide) (by rw [q_tabI e0 (by decide)]; rfl) (by decide) ?_
        exact lc_count l C0 hK hN hE hO.2.2.2.2.2.2.2.2.2.2.2.2.2.2.2.2.2.2.2.2.2.2.2.2.2.2.2.2.2.2.2.1 hi1 hi2 hi3 hi4 hi5 kk cx cf key ms vt hR H locs ls hP hD hS hl
      rcases Decidable.em (y = nI 32) with e0 | e33
      · refine lv_tableIn (tgt := 1178) (off := 1145) hx hb dL_law_33 (by rw [q_tabI e0 (by decide)]; decide) (by rw [q_tabI e0 (by decide)]; decide) (by rw [q_tabI e0 (by decide)]; rfl) (by decide) ?_
        exact lc_digest l C0 hK hN hE hO.2.2.2.2.2.2.2.2.2.2.2.2.2.2.2.2.2.2.2.2.2.2.2.2.2.2.2.2.2.2.2.2 hi1 hi2 hi3 hi4 hi5 kk cx cf key ms vt hR H locs ls hP hD hS hl
      have hout : ∀ kk, kk < 33 → ¬ y = nI (0 + kk) := by
        intro k hk
        rw [Nat.zero_add]
        match k, hk with
        | 0, _ => exact e1
        | 1, _ => exact e2
        | 2, _ => exact e3
        | 3, _ => exact e4
        | 4, _ => exact e5
        | 5, _ => exact e6
        | 6, _ => exact e7
        | 7, _ => exact e8
        | 8, _ => exact e9
        | 9, _ => exact e10
        | 10, _ => exact e11
        | 11, _ => exact e12
        | 12, _ => exact e13
        | 13, _ => exact e14
        | 14, _ => exact e15
        | 15, _ => exact e16
        | 16, _ => exact e17
        | 17, _ => exact e18
        | 18, _ => exact e19
        | 19, _ => exact e20
        | 20, _ => exact e21
        | 21, _ => exact e22
        | 22, _ => exact e23
        | 23, _ => exact e24
        | 24, _ => exact e25
        | 25, _ => exact e26
        | 26, _ => exact e27
        | 27, _ => exact e28
        | 28, _ => exact e29
        | 29, _ => exact e30
        | 30, _ => exact e31
        | 31, _ => exact e32
        | 32, _ => exact e33
        | k + 33, hk => exact absurd hk (by omega)
      have hout2 := q_tabO (lo := 0) (n := 33) (by decide) hout
      refine lv_tableOut (tgt := 1192) hx hb dL_law_33 (by omega) (by decide) ?_
      exact kk cx cf key ms vt hR H locs ls hP hD hS hl
def cx0 : Nat → Int32 := fun k => ([6, 10, 0, 0, 0, 0, 0, 0, 0, 0, 0, 0, 0, 0, 4, 0, 6, 10, 0, 0, 0, 0, 0, 0, 0, 0, 0, 0, 0, 0, 4, 0, 6, 10, 0, 0, 0, 0, 0, 0, 0, 0, 0, 0, 0, 0, 4, 0, 0, 0, 1, 0, 0, 0, 0, 0, 0, 0, 0, 0, 0, 0, 0, 0, 0, 0, 0, 0, 0, 0, 0, 0, 0, 0, 0, 0, 0, 0, 1, 0, 0, 0, 0, 0, 0, 0] : List Int32).getD k 0
def cf0 : Nat → Nat → Int32 := fun k => if k = 65 then (upd (upd q_z (0 : Int32).toNatClampNeg 6) (357 : Int32).toNatClampNeg 10) else q_z
