abbrev rm_X9_refuse : Room := { frames := 0, cells := 0, slots := 0, locals := 0 }
theorem lk_X9_refuse_0 : Cond.fieldLink RX9 20 "OnlyPrimes" "refused" "[I" ∈ wsX9_refuse := List.mem_of_getElem? (i := 1) (by decide +kernel)
theorem iw_X9_refuse_X9 : ∀ w ∈ wsX90, w ∈ wsX9_refuse := by decide +kernel
theorem nd_X9_refuse : yX9_refuse.cls ≠ "java/lang/invoke/MethodHandle" ∧ yX9_refuse.cls ≠ "java/lang/invoke/VarHandle" ∧ (parseMethodDescriptor yX9_refuse.desc).map (fun d => d.parameters.length) = some 2 := by decide +kernel
theorem vd_X9_refuse : yX9_refuse.cls = RX9 ∧ yX9_refuse.cls ≠ "java/lang/invoke/MethodHandle" ∧ yX9_refuse.cls ≠ "java/lang/invoke/VarHandle" ∧ (parseMethodDescriptor yX9_refuse.desc).map (fun d => d.parameters.length) = some 2 := by decide +kernel
set_option maxHeartbeats 4000000 in
set_option maxRecDepth 100000 in
theorem c_X9_refuse (l : Launch) (D : va_G) (E : q_En) (kI kB kQ : ClassId) (q_this : Nat) (q_this_refused : Nat) (v_this_now : Value) (v_this_images : Value) (v_this_reader : Value) (v_this_judge : Value) (v_this_rows : Value) (v_this_sets : Value) (v_this_walk : Value) (v_this_seats : Value) (imagesKept_ : Int32) (above_ : Int32) (below_ : Int32) (refused_ : Nat → Int32) (x1 : Int32) (x2 : Int32) (N : Nat) (r : Int32 × (Nat → Int32)) (hf : g_X9_refuse refused_ x1 x2 = some r) : CtI l D E yX9_refuse wsX9_refuse rm_X9_refuse (q_tys kI kB kQ) [.ref q_this, .int x1, .int x2] [(q_this, .inr (9, [v_this_now, v_this_images, .int imagesKept_, .ref q_this_refused, .int above_, .int below_, v_this_reader, v_this_judge, v_this_rows, v_this_sets, v_this_walk, v_this_seats])), (q_this_refused, .inl (kI, 3, .inl refused_))] [(q_this, .inr (9, [v_this_now, v_this_images, .int imagesKept_, .ref q_this_refused, .int above_, .int below_, v_this_reader, v_this_judge, v_this_rows, v_this_sets, v_this_walk, v_this_seats])), (q_this_refused, .inl (kI, 3, .inl r.2))] r.1 := by
  refine q_enterI cX9_refuse 4 RX9 (by decide) rfl (Nat.le_of_ble_eq_true rfl) rfl ?_
  intro p e s m args below meth c Q A ls H hx hb hml hown hts hK hN hE hA hP hS hD hl hret
  have hl : lv_has ls 4 [(0, .ref q_this), (1, .int x1), (2, .int x2)] := hl
  have h := hf
  rw [g_X9_refuse] at h
  refine lv_bipush (v := (-2)) hx hb dX9_refuse_0 (by decide) ?_
  refine lv_iload_n hx hb dX9_refuse_2 rfl (lv_at hl 1 rfl) ?_
  refine lv_isub hx hb dX9_refuse_3 ?_
  refine lv_istore_n (lv' := [(3, .int ((-2) - x1)), (0, .ref q_this), (1, .int x1), (2, .int x2)]) hx hb dX9_refuse_4 rfl hl (by decide) rfl (fun ls hl => ?_)
  refine lv_iload_n hx hb dX9_refuse_5 rfl (lv_at hl 0 rfl) ?_
  refine lv_if_lt (tgt := 28) hx hb dX9_refuse_6 (by decide) (fun c1 => ?_) (fun c1 => ?_)
  · replace h := q_t c1 h
    refine lv_iload_n hx hb dX9_refuse_28 rfl (lv_at hl 3 rfl) ?_
    have er := q_inj h
    subst er
    exact hret _ _ _ _ (hP.sub [0, 1] rfl) (hD.sub [0, 1] rfl rfl) hS dX9_refuse_29
  · replace h := q_f c1 h
    refine lv_iload_n hx hb dX9_refuse_9 rfl (lv_at hl 0 rfl) ?_
    refine lv_aload_n hx hb dX9_refuse_10 rfl (lv_at hl 1 rfl) ?_
    refine va_get (D := D) (ci := 9) (C := RX9) (T := TX9) (N := 12) hx hb hts iw_X9_refuse_X9 hown hK hP 0 rfl rfl 3 (by decide) (hts _ lk_X9_refuse_0) (fun _ h9 => h9) rfl dX9_refuse_11 ?_
    refine va_alen (ty := .int) (v := (nI 3)) hx hb hK hP 1 0 rfl rfl rfl dX9_refuse_14 ?_
    refine lv_icmp_ge (tgt := 28) hx hb dX9_refuse_15 (by decide) (fun c2 => ?_) (fun c2 => ?_)
    · replace h := q_t c2 h
      refine lv_iload_n hx hb dX9_refuse_28 rfl (lv_at hl 3 rfl) ?_
      have er := q_inj h
      subst er
      exact hret _ _ _ _ (hP.sub [0, 1] rfl) (hD.sub [0, 1] rfl rfl) hS dX9_refuse_29
    · replace h := q_f c2 h
      refine lv_aload_n hx hb dX9_refuse_18 rfl (lv_at hl 1 rfl) ?_
      refine va_get (D := D) (ci := 9) (C := RX9) (T := TX9) (N := 12) hx hb hts iw_X9_refuse_X9 hown hK hP 0 rfl rfl 3 (by decide) (hts _ lk_X9_refuse_0) (fun _ h9 => h9) rfl dX9_refuse_19 ?_
      refine lv_iload_n hx hb dX9_refuse_22 rfl (lv_at hl 0 rfl) ?_
      refine lv_dup2_11 hx hb dX9_refuse_23 rfl rfl ?_
      obtain ⟨hg3, h⟩ := q_g h
      refine va_iald hx hb hK hP 1 0 rfl rfl (inb_vp hg3) dX9_refuse_24 ?_
      refine lv_iconst (v := 1) hx hb dX9_refuse_25 (by decide) ?_
      refine lv_iadd hx hb dX9_refuse_26 ?_
      refine va_iast hx hb hK hP hD hS 1 0 rfl rfl (inb_vp hg3) dX9_refuse_27 (fun H locs hP hD hS => ?_)
      have hP : va_P D vwCl [(q_this, .inr (9, [v_this_now, v_this_images, .int imagesKept_, .ref q_this_refused, .int above_, .int below_, v_this_reader, v_this_judge, v_this_rows, v_this_sets, v_this_walk, v_this_seats])), (q_this_refused, .inl (kI, 3, .inl (upd refused_ ((-2) - x1).toNatClampNeg ((refused_ ((-2) - x1).toNatClampNeg) + 1))))] H := hP
      have hD : va_D A [(q_this, .inr (9, [v_this_now, v_this_images, .int imagesKept_, .ref q_this_refused, .int above_, .int below_, v_this_reader, v_this_judge, v_this_rows, v_this_sets, v_this_walk, v_this_seats])), (q_this_refused, .inl (kI, 3, .inl (upd refused_ ((-2) - x1).toNatClampNeg ((refused_ ((-2) - x1).toNatClampNeg) + 1))))] := hD
      refine lv_iload_n hx hb dX9_refuse_28 rfl (lv_at hl 3 rfl) ?_
      have er := q_inj h
      subst er
      exact hret _ _ _ _ (hP.sub [0, 1] rfl) (hD.sub [0, 1] rfl rfl) hS dX9_refuse_29
abbrev rm_X9_told : Room := { frames := 1, cells := 0, slots := 0, locals := 23 }
theorem lk_X9_told_0 : Cond.constant RX9 70 (1048576) ∈ wsX9_told := List.mem_of_getElem? (i := 1) (by decide +kernel)
theorem lk_X9_told_1 : Cond.fieldLink RX9 10 "OnlyPrimes" "now" "LOnlyPrimes$Kept;" ∈ wsX9_told := List.mem_of_getElem? (i := 2) (by decide +kernel)
theorem iw_X9_told_X9 : ∀ w ∈ wsX90, w ∈ wsX9_told := by decide +kernel
theorem lk_X9_told_2 : Cond.fieldLink RX9 75 "OnlyPrimes$Kept" "set" "I" ∈ wsX9_told := List.mem_of_getElem? (i := 3) (by decide +kernel)
theorem iw_X9_told_X1 : ∀ w ∈ wsX10, w ∈ wsX9_told := by decide +kernel
theorem nd_X9_told : yX9_told.cls ≠ "java/lang/invoke/MethodHandle" ∧ yX9_told.cls ≠ "java/lang/invoke/VarHandle" ∧ (parseMethodDescriptor yX9_told.desc).map (fun d => d.parameters.length) = some 1 := by decide +kernel
theorem vd_X9_told : yX9_told.cls = RX9 ∧ yX9_told.cls ≠ "java/lang/invoke/MethodHandle" ∧ yX9_told.cls ≠ "java/lang/invoke/VarHandle" ∧ (parseMethodDescriptor yX9_told.desc).map (fun d => d.parameters.length) = some 1 := by decide +kernel
set_option maxHeartbeats 4000000 in
set_option maxRecDepth 100000 in
theorem c_X9_told (l : Launch) (D : va_G) (E : q_En) (kI kB kQ : ClassId) (q_this : Nat) (q_this_now : Nat) (q_this_refused : Nat) (v_this_images : Value) (v_this_reader : Value) (v_this_judge : Value) (v_this_rows : Value) (v_this_sets : Value) (v_this_walk : Value) (v_this_seats : Value) (v_this_now_land : Value) (v_this_now_text : Value) (v_this_now_knots : Value) (v_this_now_countedKnots : Value) (v_this_now_countedSizes : Value) (v_this_now_lasts : Value) (v_this_now_companies : Value) (imagesKept_ : Int32) (above_ : Int32) (below_ : Int32) (now_set_ : Int32) (now_room_ : Int32) (now_crew_ : Int32) (refused_ : Nat → Int32) (x1 : Int32) (N : Nat) (r : Int32 × Int32 × (Nat → Int32)) (hf : g_X9_told now_set_ refused_ x1 = some r) : CtI l D E yX9_told wsX9_told rm_X9_told (q_tys kI kB kQ) [.ref q_this, .int x1] [(q_this, .inr (9, [.ref q_this_now, v_this_images, .int imagesKept_, .ref q_this_refused, .int above_, .int below_, v_this_reader, v_this_judge, v_this_rows, v_this_sets, v_this_walk, v_this_seats])), (q_this_now, .inr (1, [.int now_set_, .int now_room_, .int now_crew_, v_this_now_land, v_this_now_text, v_this_now_knots, v_this_now_countedKnots, v_this_now_countedSizes, v_this_now_lasts, v_this_now_companies])), (q_this_refused, .inl (kI, 3, .inl refused_))] [(q_this, .inr (9, [.ref q_this_now, v_this_images, .int imagesKept_, .ref q_this_refused, .int above_, .int below_, v_this_reader, v_this_judge, v_this_rows, v_this_sets, v_this_walk, v_this_seats])), (q_this_now, .inr (1, [.int r.2.1, .int now_room_, .int now_crew_, v_this_now_land, v_this_now_text, v_this_now_knots, v_this_now_countedKnots, v_this_now_countedSizes, v_this_now_lasts, v_this_now_companies])), (q_this_refused, .inl (kI, 3, .inl r.2.2))] r.1 := by
  refine q_enterI cX9_told 3 RX9 (by decide) rfl (Nat.le_of_ble_eq_true rfl) rfl ?_
  intro p e s m args below meth c Q A ls H hx hb hml hown hts hK hN hE hA hP hS hD hl hret
  have hl : lv_has ls 3 [(0, .ref q_this), (1, .int x1)] := hl
  have h := hf
  rw [g_X9_told] at h
  refine lv_iload_n hx hb dX9_told_0 rfl (lv_at hl 1 rfl) ?_
  refine lv_if_lt (tgt := 10) hx hb dX9_told_1 (by decide) (fun c1 => ?_) (fun c1 => ?_)
  · replace h := q_t c1 h
    refine lv_aload_n hx hb dX9_told_10 rfl (lv_at hl 0 rfl) ?_
    refine lv_bipush (v := (-2)) hx hb dX9_told_11 (by decide) ?_
    refine lv_bipush (v := (-2)) hx hb dX9_told_13 (by decide) ?_
    obtain ⟨u15, hu15, h⟩ := q_b h
    refine q_aI (va_runV (As := [.int (-2), .int (-2)]) (rest := []) ⟨hx, hb, hml, hown, hts⟩ (c_X9_refuse l D E kI kB kQ q_this q_this_refused (.ref q_this_now) v_this_images v_this_reader v_this_judge v_this_rows v_this_sets v_this_walk v_this_seats imagesKept_ above_ below_ refused_ (-2) (-2) N u15 hu15 H.size) (cwV 2 hts gX9_told_X9_refuse rfl rfl rfl vd_X9_refuse ⟨Nat.le_of_ble_eq_true rfl, Nat.le_of_ble_eq_true rfl⟩) (q_pv hK hN hE hS hA hP hD [0, 2] rfl rfl rfl 0 rfl (ci := 9) rfl) rfl rfl hl.1 rfl (lv_room (Nat.le_of_ble_eq_true rfl)) dX9_told_15 ⟨Nat.zero_le _, Nat.zero_le _⟩) hP hD hS hA [0, 2] [1] (Wr := [(q_this_now, .inr (1, [.int now_set_, .int now_room_, .int now_crew_, v_this_now_land, v_this_now_text, v_this_now_knots, v_this_now_countedKnots, v_this_now_countedSizes, v_this_now_lasts, v_this_now_companies]))]) rfl rfl rfl (by decide) (fun H locs hP hD hS => ?_)
    have hP : va_P D vwCl [(q_this_now, .inr (1, [.int now_set_, .int now_room_, .int now_crew_, v_this_now_land, v_this_now_text, v_this_now_knots, v_this_now_countedKnots, v_this_now_countedSizes, v_this_now_lasts, v_this_now_companies])), (q_this, .inr (9, [.ref q_this_now, v_this_images, .int imagesKept_, .ref q_this_refused, .int above_, .int below_, v_this_reader, v_this_judge, v_this_rows, v_this_sets, v_this_walk, v_this_seats])), (q_this_refused, .inl (kI, 3, .inl u15.2))] H := hP
    have hD : va_D A [(q_this_now, .inr (1, [.int now_set_, .int now_room_, .int now_crew_, v_this_now_land, v_this_now_text, v_this_now_knots, v_this_now_countedKnots, v_this_now_countedSizes, v_this_now_lasts, v_this_now_companies])), (q_this, .inr (9, [.ref q_this_now, v_this_images, .int imagesKept_, .ref q_this_refused, .int above_, .int below_, v_this_reader, v_this_judge, v_this_rows, v_this_sets, v_this_walk, v_this_seats])), (q_this_refused, .inl (kI, 3, .inl u15.2))] := hD
    have er := q_inj h
    subst er
    exact hret _ _ _ _ (hP.sub [1, 0, 2] rfl) (hD.sub [1, 0, 2] rfl rfl) hS dX9_told_18
  · replace h := q_f c1 h
    refine lv_iload_n hx hb dX9_told_4 rfl (lv_at hl 1 rfl) ?_
    refine lv_ldc (v := 1048576) hx hb hown (hts _ lk_X9_told_0) dX9_told_5 ?_
    refine lv_icmp_lt (tgt := 19) hx hb dX9_told_7 (by decide) (fun c2 => ?_) (fun c2 => ?_)
    · replace h := q_t c2 h
      refine lv_aload_n hx hb dX9_told_19 rfl (lv_at hl 0 rfl) ?_
      refine va_get (D := D) (ci := 9) (C := RX9) (T := TX9) (N := 12) hx hb hts iw_X9_told_X9 hown hK hP 0 rfl rfl 0 (by decide) (hts _ lk_X9_told_1) (fun _ h9 => h9) rfl dX9_told_20 ?_
      refine va_get (D := D) (ci := 1) (C := RX1) (T := TX1) (N := 10) hx hb hts iw_X9_told_X1 hown hK hP 1 rfl rfl 0 (by decide) (hts _ lk_X9_told_2) (fun _ h9 => h9) rfl dX9_told_23 ?_
      refine lv_istore_n (lv' := [(2, .int now_set_), (0, .ref q_this), (1, .int x1)]) hx hb dX9_told_26 rfl hl (by decide) rfl (fun ls hl => ?_)
      refine lv_aload_n hx hb dX9_told_27 rfl (lv_at hl 1 rfl) ?_
      refine va_get (D := D) (ci := 9) (C := RX9) (T := TX9) (N := 12) hx hb hts iw_X9_told_X9 hown hK hP 0 rfl rfl 0 (by decide) (hts _ lk_X9_told_1) (fun _ h9 => h9) rfl dX9_told_28 ?_
      refine lv_iload_n hx hb dX9_told_31 rfl (lv_at hl 2 rfl) ?_
      refine va_put (D := D) (ci := 1) (v := .int x1) (ty := .int) (C := RX1) (T := TX1) (N := 10) hx hb hts iw_X9_told_X1 tyX1 tyX1_ok nmX1 hown hK hP hD hS 1 rfl rfl 0 (by decide) (hts _ lk_X9_told_2) (fun _ h9 => h9) rfl (by decide +kernel) rfl rfl (Nat.le_of_ble_eq_true rfl) dX9_told_32 (fun H locs hP hD hS => ?_)
      have hP : va_P D vwCl [(q_this, .inr (9, [.ref q_this_now, v_this_images, .int imagesKept_, .ref q_this_refused, .int above_, .int below_, v_this_reader, v_this_judge, v_this_rows, v_this_sets, v_this_walk, v_this_seats])), (q_this_now, .inr (1, [.int x1, .int now_room_, .int now_crew_, v_this_now_land, v_this_now_text, v_this_now_knots, v_this_now_countedKnots, v_this_now_countedSizes, v_this_now_lasts, v_this_now_companies])), (q_this_refused, .inl (kI, 3, .inl refused_))] H := hP
      have hD : va_D A [(q_this, .inr (9, [.ref q_this_now, v_this_images, .int imagesKept_, .ref q_this_refused, .int above_, .int below_, v_this_reader, v_this_judge, v_this_rows, v_this_sets, v_this_walk, v_this_seats])), (q_this_now, .inr (1, [.int x1, .int now_room_, .int now_crew_, v_this_now_land, v_this_now_text, v_this_now_knots, v_this_now_countedKnots, v_this_now_countedSizes, v_this_now_lasts, v_this_now_companies])), (q_this_refused, .inl (kI, 3, .inl refused_))] := hD
      refine lv_iload_n hx hb dX9_told_35 rfl (lv_at hl 0 rfl) ?_
      have er := q_inj h
      subst er
      exact hret _ _ _ _ (hP.sub [0, 1, 2] rfl) (hD.sub [0, 1, 2] rfl rfl) hS dX9_told_36
    · replace h := q_f c2 h
      refine lv_aload_n hx hb dX9_told_10 rfl (lv_at hl 0 rfl) ?_
      refine lv_bipush (v := (-2)) hx hb dX9_told_11 (by decide) ?_
      refine lv_bipush (v := (-2)) hx hb dX9_told_13 (by decide) ?_
      obtain ⟨u15, hu15, h⟩ := q_b h
      refine q_aI (va_runV (As := [.int (-2), .int (-2)]) (rest := []) ⟨hx, hb, hml, hown, hts⟩ (c_X9_refuse l D E kI kB kQ q_this q_this_refused (.ref q_this_now) v_this_images v_this_reader v_this_judge v_this_rows v_this_sets v_this_walk v_this_seats imagesKept_ above_ below_ refused_ (-2) (-2) N u15 hu15 H.size) (cwV 2 hts gX9_told_X9_refuse rfl rfl rfl vd_X9_refuse ⟨Nat.le_of_ble_eq_true rfl, Nat.le_of_ble_eq_true rfl⟩) (q_pv hK hN hE hS hA hP hD [0, 2] rfl rfl rfl 0 rfl (ci := 9) rfl) rfl rfl hl.1 rfl (lv_room (Nat.le_of_ble_eq_true rfl)) dX9_told_15 ⟨Nat.zero_le _, Nat.zero_le _⟩) hP hD hS hA [0, 2] [1] (Wr := [(q_this_now, .inr (1, [.int now_set_, .int now_room_, .int now_crew_, v_this_now_land, v_this_now_text, v_this_now_knots, v_this_now_countedKnots, v_this_now_countedSizes, v_this_now_lasts, v_this_now_companies]))]) rfl rfl rfl (by decide) (fun H locs hP hD hS => ?_)
      have hP : va_P D vwCl [(q_this_now, .inr (1, [.int now_set_, .int now_room_, .int now_crew_, v_this_now_land, v_this_now_text, v_this_now_knots, v_this_now_countedKnots, v_this_now_countedSizes, v_this_now_lasts, v_this_now_companies])), (q_this, .inr (9, [.ref q_this_now, v_this_images, .int imagesKept_, .ref q_this_refused, .int above_, .int below_, v_this_reader, v_this_judge, v_this_rows, v_this_sets, v_this_walk, v_this_seats])), (q_this_refused, .inl (kI, 3, .inl u15.2))] H := hP
      have hD : va_D A [(q_this_now, .inr (1, [.int now_set_, .int now_room_, .int now_crew_, v_this_now_land, v_this_now_text, v_this_now_knots, v_this_now_countedKnots, v_this_now_countedSizes, v_this_now_lasts, v_this_now_companies])), (q_this, .inr (9, [.ref q_this_now, v_this_images, .int imagesKept_, .ref q_this_refused, .int above_, .int below_, v_this_reader, v_this_judge, v_this_rows, v_this_sets, v_this_walk, v_this_seats])), (q_this_refused, .inl (kI, 3, .inl u15.2))] := hD
      have er := q_inj h
      subst er
      exact hret _ _ _ _ (hP.sub [1, 0, 2] rfl) (hD.sub [1, 0, 2] rfl rfl) hS dX9_told_18
abbrev rm_X9_isWithin : Room := { frames := 0, cells := 0, slots := 0, locals := 0 }
theorem nd_X9_isWithin : yX9_isWithin.cls ≠ "java/lang/invoke/MethodHandle" ∧ yX9_isWithin.cls ≠ "java/lang/invoke/VarHandle" ∧ (parseMethodDescriptor yX9_isWithin.desc).map (fun d => d.parameters.length) = some 3 := by decide +kernel
set_option maxHeartbeats 4000000 in
set_option maxRecDepth 100000 in
theorem c_X9_isWithin (l : Launch) (D : va_G) (E : q_En) (kI kB kQ : ClassId) (x0 : Int32) (x1 : Int32) (x2 : Int32) (N : Nat) (r : Int32) (hf : g_X9_isWithin x0 x1 x2 = some r) : CtI l D E yX9_isWithin wsX9_isWithin rm_X9_isWithin (q_tys kI kB kQ) [.int x0, .int x1, .int x2] [] [] r := by
  refine q_enterZ cX9_isWithin 3 RX9 (by decide) rfl (Nat.le_of_ble_eq_true rfl) rfl ?_
  intro p e s m args below meth c Q A ls H hx hb hml hown hts hK hN hE hA hP hS hD hl hret
  have hl : lv_has ls 3 [(0, .int x0), (1, .int x1), (2, .int x2)] := hl
  have h := hf
  rw [g_X9_isWithin] at h
  refine lv_iload_n hx hb dX9_isWithin_0 rfl (lv_at hl 0 rfl) ?_
  refine lv_iload_n hx hb dX9_isWithin_1 rfl (lv_at hl 1 rfl) ?_
  refine lv_icmp_lt (tgt := 14) hx hb dX9_isWithin_2 (by decide) (fun c1 => ?_) (fun c1 => ?_)
  · replace h := q_t c1 h
    refine lv_iconst (v := 0) hx hb dX9_isWithin_14 (by decide) ?_
    have er := q_inj h
    subst er
    exact hret _ _ _ _ nar0 (hP.sub [] rfl) (hD.sub [] rfl rfl) hS dX9_isWithin_15
  · replace h := q_f c1 h
    refine lv_iload_n hx hb dX9_isWithin_5 rfl (lv_at hl 0 rfl) ?_
    refine lv_iload_n hx hb dX9_isWithin_6 rfl (lv_at hl 2 rfl) ?_
    refine lv_icmp_gt (tgt := 14) hx hb dX9_isWithin_7 (by decide) (fun c2 => ?_) (fun c2 => ?_)
    · replace h := q_t c2 h
      refine lv_iconst (v := 0) hx hb dX9_isWithin_14 (by decide) ?_
      have er := q_inj h
      subst er
      exact hret _ _ _ _ nar0 (hP.sub [] rfl) (hD.sub [] rfl rfl) hS dX9_isWithin_15
    · replace h := q_f c2 h
      refine lv_iconst (v := 1) hx hb dX9_isWithin_10 (by decide) ?_
      refine lv_goto (tgt := 15) hx hb dX9_isWithin_11 (by decide) ?_
      have er := q_inj h
      subst er
      exact hret _ _ _ _ nar1 (hP.sub [] rfl) (hD.sub [] rfl rfl) hS dX9_isWithin_15
abbrev rm_X9_isRule : Room := { frames := 1, cells := 0, slots := 0, locals := 22 }
theorem nd_X9_isRule : yX9_isRule.cls ≠ "java/lang/invoke/MethodHandle" ∧ yX9_isRule.cls ≠ "java/lang/invoke/VarHandle" ∧ (parseMethodDescriptor yX9_isRule.desc).map (fun d => d.parameters.length) = some 1 := by decide +kernel
set_option maxHeartbeats 4000000 in
set_option maxRecDepth 100000 in
theorem c_X9_isRule (l : Launch) (D : va_G) (E : q_En) (kI kB kQ : ClassId) (x0 : Int32) (N : Nat) (r : Int32) (hf : g_X9_isRule x0 = some r) : CtI l D E yX9_isRule wsX9_isRule rm_X9_isRule (q_tys kI kB kQ) [.int x0] [] [] r := by
  refine q_enterZ cX9_isRule 1 RX9 (by decide) rfl (Nat.le_of_ble_eq_true rfl) rfl ?_
  intro p e s m args below meth c Q A ls H hx hb hml hown hts hK hN hE hA hP hS hD hl hret
  have hl : lv_has ls 1 [(0, .int x0)] := hl
  have h := hf
  rw [g_X9_isRule] at h
  refine lv_iload_n hx hb dX9_isRule_0 rfl (lv_at hl 0 rfl) ?_
  refine lv_iconst (v := 0) hx hb dX9_isRule_1 (by decide) ?_
  refine lv_iconst (v := 3) hx hb dX9_isRule_2 (by decide) ?_
  obtain ⟨u3, hu3, h⟩ := q_b h
  refine q_aI (va_runS (As := [.int x0, .int 0, .int 3]) (rest := []) ⟨hx, hb, hml, hown, hts⟩ (c_X9_isWithin l D E kI kB kQ x0 0 3 N u3 hu3 H.size) (va_cwS 3 hts gX9_isRule_X9_isWithin rfl rfl rfl nd_X9_isWithin ⟨Nat.le_of_ble_eq_true rfl, Nat.le_of_ble_eq_true rfl⟩) (q_ps hK hN hE hS hA hP hD [] rfl rfl rfl) rfl rfl hl.1 rfl (lv_room (Nat.le_of_ble_eq_true rfl)) dX9_isRule_3 ⟨Nat.zero_le _, Nat.zero_le _⟩) hP hD hS hA [] [] (Wr := []) rfl rfl rfl (by decide) (fun H locs hP hD hS => ?_)
  have hP : va_P D vwCl [] H := hP
  have hD : va_D A [] := hD
  obtain ⟨hg1, h⟩ := q_g h
  have er := q_inj h
  subst er
  exact hret _ _ _ _ (zb_nar hg1) (hP.sub [] rfl) (hD.sub [] rfl rfl) hS dX9_isRule_6
abbrev rm_X1_isSquare : Room := { frames := 0, cells := 0, slots := 0, locals := 0 }
theorem nd_X1_isSquare : yX1_isSquare.cls ≠ "java/lang/invoke/MethodHandle" ∧ yX1_isSquare.cls ≠ "java/lang/invoke/VarHandle" ∧ (parseMethodDescriptor yX1_isSquare.desc).map (fun d => d.parameters.length) = some 1 := by decide +kernel
set_option maxHeartbeats 4000000 in
set_option maxRecDepth 100000 in
theorem c_X1_isSquare (l : Launch) (D : va_G) (E : q_En) (kI kB kQ : ClassId) (x0 : Int32) (N : Nat) (r : Int32) (hf : g_X1_isSquare N x0 = some r) : CtI l D E yX1_isSquare wsX1_isSquare rm_X1_isSquare (q_tys kI kB kQ) [.int x0] [] [] r := by
  refine q_enterZ cX1_isSquare 2 RX1 (by decide) rfl (Nat.le_of_ble_eq_true rfl) rfl ?_
  intro p e s m args below meth c Q A ls H hx hb hml hown hts hK hN hE hA hP hS hD hl hret
  have hl : lv_has ls 2 [(0, .int x0)] := hl
  have h := hf
  rw [g_X1_isSquare] at h
  have J2 : ∀ (n2 : Nat) (x1 : Int32), g_X1_isSquare_2 x0 n2 x1 = some r → ∀ (H : Heap) (locs : List Loc) (ls : Array Slot), va_P D vwCl [] H → va_D A [] → va_S A s.heap H locs → lv_has ls 2 [(0, .int x0), (1, .int x1)] → W p l e rm_X1_isSquare s m args below meth c H locs 0 0 Q (F0 m 2 ls []) := by
    intro n2
    induction n2 with
    | zero => intro x1 h; exact absurd h (by rw [g_X1_isSquare_2]; exact fun q => nomatch q)
    | succ n2 ih2 =>
      intro x1 h H locs ls hP hD hS hl
      rw [g_X1_isSquare_2] at h
      refine lv_iload_n hx hb dX1_isSquare_2 rfl (lv_at hl 1 rfl) ?_
      refine lv_iload_n hx hb dX1_isSquare_3 rfl (lv_at hl 0 rfl) ?_
      refine lv_icmp_gt (tgt := 22) hx hb dX1_isSquare_4 (by decide) (fun c1 => ?_) (fun c1 => ?_)
      · replace h := q_t c1 h
        refine lv_iconst (v := 0) hx hb dX1_isSquare_22 (by decide) ?_
        have er := q_inj h
        subst er
        exact hret _ _ _ _ nar0 (hP.sub [] rfl) (hD.sub [] rfl rfl) hS dX1_isSquare_23
      · replace h := q_f c1 h
        refine lv_iload_n hx hb dX1_isSquare_7 rfl (lv_at hl 1 rfl) ?_
        refine lv_iload_n hx hb dX1_isSquare_8 rfl (lv_at hl 1 rfl) ?_
        refine lv_imul hx hb dX1_isSquare_9 ?_
        refine lv_iload_n hx hb dX1_isSquare_10 rfl (lv_at hl 0 rfl) ?_
        refine lv_icmp_ne (tgt := 16) hx hb dX1_isSquare_11 (by decide) (fun c2 => ?_) (fun c2 => ?_)
        · replace h := q_f c2 h
          refine lv_iinc (v := (x1 + 1)) (lv' := [(1, .int (x1 + 1)), (0, .int x0)]) hx hb dX1_isSquare_16 hl (k := 1) rfl rfl (by decide) rfl (fun ls hl => ?_)
          refine lv_goto (tgt := 2) hx hb dX1_isSquare_19 (by decide) ?_
          exact ih2 (x1 + 1) h _ _ _ (hP.sub [] rfl) (hD.sub [] rfl rfl) hS (lv_sub hl [1, 0] rfl)
        · replace h := q_t c2 h
          refine lv_iconst (v := 1) hx hb dX1_isSquare_14 (by decide) ?_
          have er := q_inj h
          subst er
          exact hret _ _ _ _ nar1 (hP.sub [] rfl) (hD.sub [] rfl rfl) hS dX1_isSquare_15
  refine lv_iconst (v := 1) hx hb dX1_isSquare_0 (by decide) ?_
  refine lv_istore_n (lv' := [(1, .int 1), (0, .int x0)]) hx hb dX1_isSquare_1 rfl hl (by decide) rfl (fun ls hl => ?_)
  exact J2 N 1 h _ _ _ (hP.sub [] rfl) (hD.sub [] rfl rfl) hS (lv_sub hl [1, 0] rfl)
abbrev rm_X1_isPrime : Room := { frames := 0, cells := 0, slots := 0, locals := 0 }
theorem nd_X1_isPrime : yX1_isPrime.cls ≠ "java/lang/invoke/MethodHandle" ∧ yX1_isPrime.cls ≠ "java/lang/invoke/VarHandle" ∧ (parseMethodDescriptor yX1_isPrime.desc).map (fun d => d.parameters.length) = some 1 := by decide +kernel
set_option maxHeartbeats 4000000 in
set_option maxRecDepth 100000 in
theorem c_X1_isPrime (l : Launch) (D : va_G) (E : q_En) (kI kB kQ : ClassId) (x0 : Int32) (N : Nat) (r : Int32) (hf : g_X1_isPrime N x0 = some r) : CtI l D E yX1_isPrime wsX1_isPrime rm_X1_isPrime (q_tys kI kB kQ) [.int x0] [] [] r := by
  refine q_enterZ cX1_isPrime 2 RX1 (by decide) rfl (Nat.le_of_ble_eq_true rfl) rfl ?_
  intro p e s m args below meth c Q A ls H hx hb hml hown hts hK hN hE hA hP hS hD hl hret
  have hl : lv_has ls 2 [(0, .int x0)] := hl
  have h := hf
  rw [g_X1_isPrime] at h
  have J2 : ∀ (n2 : Nat) (x1 : Int32), g_X1_isPrime_2 x0 n2 x1 = some r → ∀ (H : Heap) (locs : List Loc) (ls : Array Slot), va_P D vwCl [] H → va_D A [] → va_S A s.heap H locs → lv_has ls 2 [(0, .int x0), (1, .int x1)] → W p l e rm_X1_isPrime s m args below meth c H locs 0 0 Q (F0 m 2 ls []) := by
    intro n2
    induction n2 with
    | zero => intro x1 h; exact absurd h (by rw [g_X1_isPrime_2]; exact fun q => nomatch q)
    | succ n2 ih2 =>
      intro x1 h H locs ls hP hD hS hl
      rw [g_X1_isPrime_2] at h
      refine lv_iload_n hx hb dX1_isPrime_2 rfl (lv_at hl 1 rfl) ?_
      refine lv_iload_n hx hb dX1_isPrime_3 rfl (lv_at hl 0 rfl) ?_
      refine lv_icmp_ge (tgt := 21) hx hb dX1_isPrime_4 (by decide) (fun c1 => ?_) (fun c1 => ?_)
      · replace h := q_t c1 h
        refine lv_iload_n hx hb dX1_isPrime_21 rfl (lv_at hl 0 rfl) ?_
        refine lv_iconst (v := 1) hx hb dX1_isPrime_22 (by decide) ?_
        refine lv_icmp_le (tgt := 30) hx hb dX1_isPrime_23 (by decide) (fun c2 => ?_) (fun c2 => ?_)
        · replace h := q_t c2 h
          refine lv_iconst (v := 0) hx hb dX1_isPrime_30 (by decide) ?_
          have er := q_inj h
          subst er
          exact hret _ _ _ _ nar0 (hP.sub [] rfl) (hD.sub [] rfl rfl) hS dX1_isPrime_31
        · replace h := q_f c2 h
          refine lv_iconst (v := 1) hx hb dX1_isPrime_26 (by decide) ?_
          refine lv_goto (tgt := 31) hx hb dX1_isPrime_27 (by decide) ?_
          have er := q_inj h
          subst er
          exact hret _ _ _ _ nar1 (hP.sub [] rfl) (hD.sub [] rfl rfl) hS dX1_isPrime_31
      · replace h := q_f c1 h
        refine lv_iload_n hx hb dX1_isPrime_7 rfl (lv_at hl 0 rfl) ?_
        refine lv_iload_n hx hb dX1_isPrime_8 rfl (lv_at hl 1 rfl) ?_
        obtain ⟨hg3, h⟩ := q_g h
        refine lv_irem hx hb dX1_isPrime_9 hg3 ?_
        refine lv_if_ne (tgt := 15) hx hb dX1_isPrime_10 (by decide) (fun c4 => ?_) (fun c4 => ?_)
        · replace h := q_f c4 h
          refine lv_iinc (v := (x1 + 1)) (lv' := [(1, .int (x1 + 1)), (0, .int x0)]) hx hb dX1_isPrime_15 hl (k := 1) rfl rfl (by decide) rfl (fun ls hl => ?_)
          refine lv_goto (tgt := 2) hx hb dX1_isPrime_18 (by decide) ?_
          exact ih2 (x1 + 1) h _ _ _ (hP.sub [] rfl) (hD.sub [] rfl rfl) hS (lv_sub hl [1, 0] rfl)
        · replace h := q_t c4 h
          refine lv_iconst (v := 0) hx hb dX1_isPrime_13 (by decide) ?_
          have er := q_inj h
          subst er
          exact hret _ _ _ _ nar0 (hP.sub [] rfl) (hD.sub [] rfl rfl) hS dX1_isPrime_14
  refine lv_iconst (v := 2) hx hb dX1_isPrime_0 (by decide) ?_
  refine lv_istore_n (lv' := [(1, .int 2), (0, .int x0)]) hx hb dX1_isPrime_1 rfl hl (by decide) rfl (fun ls hl => ?_)
  exact J2 N 2 h _ _ _ (hP.sub [] rfl) (hD.sub [] rfl rfl) hS (lv_sub hl [1, 0] rfl)
abbrev rm_X1_fits : Room := { frames := 1, cells := 0, slots := 0, locals := 22 }
theorem lk_X1_fits_0 : Cond.initialized RX9 ∈ wsX1_fits := List.mem_of_getElem? (i := 3) (by decide +kernel)
theorem lk_X1_fits_1 : Cond.static yX9_isWithin ∈ wsX1_fits := List.mem_of_getElem? (i := 2) (by decide +kernel)
theorem lk_X1_fits_2 : Cond.fieldLink RX1 9 "OnlyPrimes$Kept" "set" "I" ∈ wsX1_fits := List.mem_of_getElem? (i := 1) (by decide +kernel)
theorem iw_X1_fits_X1 : ∀ w ∈ wsX10, w ∈ wsX1_fits := by decide +kernel
theorem nd_X1_fits : yX1_fits.cls ≠ "java/lang/invoke/MethodHandle" ∧ yX1_fits.cls ≠ "java/lang/invoke/VarHandle" ∧ (parseMethodDescriptor yX1_fits.desc).map (fun d => d.parameters.length) = some 2 := by decide +kernel
theorem vd_X1_fits : yX1_fits.cls = RX1 ∧ yX1_fits.cls ≠ "java/lang/invoke/MethodHandle" ∧ yX1_fits.cls ≠ "java/lang/invoke/VarHandle" ∧ (parseMethodDescriptor yX1_fits.desc).map (fun d => d.parameters.length) = some 2 := by decide +kernel
set_option maxHeartbeats 4000000 in
set_option maxRecDepth 100000 in
theorem c_X1_fits (l : Launch) (D : va_G) (E : q_En) (kI kB kQ : ClassId) (q_this : Nat) (v_this_land : Value) (v_this_text : Value) (v_this_knots : Value) (v_this_countedKnots : Value) (v_this_countedSizes : Value) (v_this_lasts : Value) (v_this_companies : Value) (set_ : Int32) (room_ : Int32) (crew_ : Int32) (x1 : Int32) (x2 : Int32) (N : Nat) (r : Int32) (hf : g_X1_fits N set_ x1 x2 = some r) : CtI l D E yX1_fits wsX1_fits rm_X1_fits (q_tys kI kB kQ) [.ref q_this, .int x1, .int x2] [(q_this, .inr (1, [.int set_, .int room_, .int crew_, v_this_land, v_this_text, v_this_knots, v_this_countedKnots, v_this_countedSizes, v_this_lasts, v_this_companies]))] [(q_this, .inr (1, [.int set_, .int room_, .int crew_, v_this_land, v_this_text, v_this_knots, v_this_countedKnots, v_this_countedSizes, v_this_lasts, v_this_companies]))] r := by
  refine q_enterZ cX1_fits 3 RX1 (by decide) rfl (Nat.le_of_ble_eq_true rfl) rfl ?_
  intro p e s m args below meth c Q A ls H hx hb hml hown hts hK hN hE hA hP hS hD hl hret
  have hl : lv_has ls 3 [(0, .ref q_this), (1, .int x1), (2, .int x2)] := hl
  have h := hf
  rw [g_X1_fits] at h
  refine lv_iload_n hx hb dX1_fits_0 rfl (lv_at hl 2 rfl) ?_
  refine lv_iconst (v := 1) hx hb dX1_fits_1 (by decide) ?_
  refine lv_bipush (v := 99) hx hb dX1_fits_2 (by decide) ?_
  obtain ⟨u4, hu4, h⟩ := q_b h
  refine q_aI (va_runSN (As := [.int x2, .int 1, .int 99]) (rest := []) ⟨hx, hb, hml, hown, hts⟩ (c_X9_isWithin l D E kI kB kQ x2 1 99 N u4 hu4 H.size) ⟨(va_cnB 3 hts gX1_fits_X9_isWithin_n62 rfl rfl rfl hN.2.1 (hts _ lk_X1_fits_0) nd_X9_isWithin ⟨Nat.le_of_ble_eq_true rfl, Nat.le_of_ble_eq_true rfl⟩), hts _ lk_X1_fits_1, trivial⟩ (q_ps hK hN hE hS hA hP hD [] rfl rfl rfl) rfl rfl hl.1 rfl (lv_room (Nat.le_of_ble_eq_true rfl)) dX1_fits_4 ⟨Nat.zero_le _, Nat.zero_le _⟩) hP hD hS hA [] [0] (Wr := [(q_this, .inr (1, [.int set_, .int room_, .int crew_, v_this_land, v_this_text, v_this_knots, v_this_countedKnots, v_this_countedSizes, v_this_lasts, v_this_companies]))]) rfl rfl rfl (by decide) (fun H locs hP hD hS => ?_)
  have hP : va_P D vwCl [(q_this, .inr (1, [.int set_, .int room_, .int crew_, v_this_land, v_this_text, v_this_knots, v_this_countedKnots, v_this_countedSizes, v_this_lasts, v_this_companies]))] H := hP
  have hD : va_D A [(q_this, .inr (1, [.int set_, .int room_, .int crew_, v_this_land, v_this_text, v_this_knots, v_this_countedKnots, v_this_countedSizes, v_this_lasts, v_this_companies]))] := hD
  refine lv_if_ne (tgt := 12) hx hb dX1_fits_7 (by decide) (fun c1 => ?_) (fun c1 => ?_)
  · replace h := q_f c1 h
    refine lv_iload_n hx hb dX1_fits_12 rfl (lv_at hl 1 rfl) ?_
    rcases Decidable.em (x1 = nI 0) with e2 | e2
    · replace h := q_t e2 h
      refine lv_tableIn (tgt := 44) (off := 31) hx hb dX1_fits_13 (by rw [q_tabI e2 (by decide)]; decide) (by rw [q_tabI e2 (by decide)]; decide) (by rw [q_tabI e2 (by decide)]; rfl) (by decide) ?_
      refine lv_iload_n hx hb dX1_fits_44 rfl (lv_at hl 2 rfl) ?_
      obtain ⟨u45, hu45, h⟩ := q_b h
      refine q_aI (va_runS (As := [.int x2]) (rest := []) ⟨hx, hb, hml, hown, hts⟩ (c_X1_isPrime l D E kI kB kQ x2 N u45 hu45 H.size) (va_cwS 1 hts gX1_fits_X1_isPrime rfl rfl rfl nd_X1_isPrime ⟨Nat.le_of_ble_eq_true rfl, Nat.le_of_ble_eq_true rfl⟩) (q_ps hK hN hE hS hA hP hD [] rfl rfl rfl) rfl rfl hl.1 rfl (lv_room (Nat.le_of_ble_eq_true rfl)) dX1_fits_45 ⟨Nat.zero_le _, Nat.zero_le _⟩) hP hD hS hA [] [0] (Wr := [(q_this, .inr (1, [.int set_, .int room_, .int crew_, v_this_land, v_this_text, v_this_knots, v_this_countedKnots, v_this_countedSizes, v_this_lasts, v_this_companies]))]) rfl rfl rfl (by decide) (fun H locs hP hD hS => ?_)
      have hP : va_P D vwCl [(q_this, .inr (1, [.int set_, .int room_, .int crew_, v_this_land, v_this_text, v_this_knots, v_this_countedKnots, v_this_countedSizes, v_this_lasts, v_this_companies]))] H := hP
      have hD : va_D A [(q_this, .inr (1, [.int set_, .int room_, .int crew_, v_this_land, v_this_text, v_this_knots, v_this_countedKnots, v_this_countedSizes, v_this_lasts, v_this_companies]))] := hD
      obtain ⟨hg3, h⟩ := q_g h
      have er := q_inj h
      subst er
      exact hret _ _ _ _ (zb_nar hg3) (hP.sub [0] rfl) (hD.sub [0] rfl rfl) hS dX1_fits_48
    replace h := q_f e2 h
    have ne8 := e2
    rcases Decidable.em (x1 = nI 1) with e2 | e2
    · replace h := q_t e2 h
      refine lv_tableIn (tgt := 49) (off := 36) hx hb dX1_fits_13 (by rw [q_tabI e2 (by decide)]; decide) (by rw [q_tabI e2 (by decide)]; decide) (by rw [q_tabI e2 (by decide)]; rfl) (by decide) ?_
      refine lv_iload_n hx hb dX1_fits_49 rfl (lv_at hl 2 rfl) ?_
      obtain ⟨u50, hu50, h⟩ := q_b h
      refine q_aI (va_runS (As := [.int x2]) (rest := []) ⟨hx, hb, hml, hown, hts⟩ (c_X1_isSquare l D E kI kB kQ x2 N u50 hu50 H.size) (va_cwS 1 hts gX1_fits_X1_isSquare rfl rfl rfl nd_X1_isSquare ⟨Nat.le_of_ble_eq_true rfl, Nat.le_of_ble_eq_true rfl⟩) (q_ps hK hN hE hS hA hP hD [] rfl rfl rfl) rfl rfl hl.1 rfl (lv_room (Nat.le_of_ble_eq_true rfl)) dX1_fits_50 ⟨Nat.zero_le _, Nat.zero_le _⟩) hP hD hS hA [] [0] (Wr := [(q_this, .inr (1, [.int set_, .int room_, .int crew_, v_this_land, v_this_text, v_this_knots, v_this_countedKnots, v_this_countedSizes, v_this_lasts, v_this_companies]))]) rfl rfl rfl (by decide) (fun H locs hP hD hS => ?_)
      have hP : va_P D vwCl [(q_this, .inr (1, [.int set_, .int room_, .int crew_, v_this_land, v_this_text, v_this_knots, v_this_countedKnots, v_this_countedSizes, v_this_lasts, v_this_companies]))] H := hP
      have hD : va_D A [(q_this, .inr (1, [.int set_, .int room_, .int crew_, v_this_land, v_this_text, v_this_knots, v_this_countedKnots, v_this_countedSizes, v_this_lasts, v_this_companies]))] := hD
      obtain ⟨hg4, h⟩ := q_g h
      have er := q_inj h
      subst er
      exact hret _ _ _ _ (zb_nar hg4) (hP.sub [0] rfl) (hD.sub [0] rfl rfl) hS dX1_fits_53
    replace h := q_f e2 h
    have ne9 := e2
    rcases Decidable.em (x1 = nI 2) with e2 | e2
    · replace h := q_t e2 h
      refine lv_tableIn (tgt := 54) (off := 41) hx hb dX1_fits_13 (by rw [q_tabI e2 (by decide)]; decide) (by rw [q_tabI e2 (by decide)]; decide) (by rw [q_tabI e2 (by decide)]; rfl) (by decide) ?_
      refine lv_iload_n hx hb dX1_fits_54 rfl (lv_at hl 2 rfl) ?_
      refine lv_iconst (v := 2) hx hb dX1_fits_55 (by decide) ?_
      refine lv_irem hx hb dX1_fits_56 (by decide) ?_
      refine lv_if_ne (tgt := 64) hx hb dX1_fits_57 (by decide) (fun c5 => ?_) (fun c5 => ?_)
      · replace h := q_f c5 h
        refine lv_iconst (v := 0) hx hb dX1_fits_64 (by decide) ?_
        have er := q_inj h
        subst er
        exact hret _ _ _ _ nar0 (hP.sub [0] rfl) (hD.sub [0] rfl rfl) hS dX1_fits_65
      · replace h := q_t c5 h
        refine lv_iconst (v := 1) hx hb dX1_fits_60 (by decide) ?_
        refine lv_goto (tgt := 65) hx hb dX1_fits_61 (by decide) ?_
        have er := q_inj h
        subst er
        exact hret _ _ _ _ nar1 (hP.sub [0] rfl) (hD.sub [0] rfl rfl) hS dX1_fits_65
    replace h := q_f e2 h
    have ne10 := e2
    rcases Decidable.em (x1 = nI 3) with e2 | e2
    · replace h := q_t e2 h
      refine lv_tableIn (tgt := 66) (off := 53) hx hb dX1_fits_13 (by rw [q_tabI e2 (by decide)]; decide) (by rw [q_tabI e2 (by decide)]; decide) (by rw [q_tabI e2 (by decide)]; rfl) (by decide) ?_
      refine lv_iload_n hx hb dX1_fits_66 rfl (lv_at hl 2 rfl) ?_
      refine lv_bipush (v := 20) hx hb dX1_fits_67 (by decide) ?_
      refine lv_icmp_gt (tgt := 90) hx hb dX1_fits_69 (by decide) (fun c6 => ?_) (fun c6 => ?_)
      · replace h := q_t c6 h
        refine lv_iconst (v := 0) hx hb dX1_fits_90 (by decide) ?_
        have er := q_inj h
        subst er
        exact hret _ _ _ _ nar0 (hP.sub [0] rfl) (hD.sub [0] rfl rfl) hS dX1_fits_91
      · replace h := q_f c6 h
        refine lv_aload_n hx hb dX1_fits_72 rfl (lv_at hl 0 rfl) ?_
        refine va_get (D := D) (ci := 1) (C := RX1) (T := TX1) (N := 10) hx hb hts iw_X1_fits_X1 hown hK hP 0 rfl rfl 0 (by decide) (hts _ lk_X1_fits_2) (fun _ h9 => h9) rfl dX1_fits_73 ?_
        refine lv_iload_n hx hb dX1_fits_76 rfl (lv_at hl 2 rfl) ?_
        refine lv_iconst (v := 1) hx hb dX1_fits_77 (by decide) ?_
        refine lv_isub hx hb dX1_fits_78 ?_
        refine lv_ishr hx hb dX1_fits_79 ?_
        refine lv_iconst (v := 1) hx hb dX1_fits_80 (by decide) ?_
        refine lv_iand hx hb dX1_fits_81 ?_
        refine lv_iconst (v := 1) hx hb dX1_fits_82 (by decide) ?_
        refine lv_icmp_ne (tgt := 90) hx hb dX1_fits_83 (by decide) (fun c7 => ?_) (fun c7 => ?_)
        · replace h := q_f c7 h
          refine lv_iconst (v := 0) hx hb dX1_fits_90 (by decide) ?_
          have er := q_inj h
          subst er
          exact hret _ _ _ _ nar0 (hP.sub [0] rfl) (hD.sub [0] rfl rfl) hS dX1_fits_91
        · replace h := q_t c7 h
          refine lv_iconst (v := 1) hx hb dX1_fits_86 (by decide) ?_
          refine lv_goto (tgt := 91) hx hb dX1_fits_87 (by decide) ?_
          have er := q_inj h
          subst er
          exact hret _ _ _ _ nar1 (hP.sub [0] rfl) (hD.sub [0] rfl rfl) hS dX1_fits_91
    replace h := q_f e2 h
    have ne11 := e2
    have hout : ∀ kk, kk < 4 → ¬ x1 = nI (0 + kk) := by
      intro kk hkk
      match kk, hkk with
      | 0, _ => exact ne8
      | 1, _ => exact ne9
      | 2, _ => exact ne10
      | 3, _ => exact ne11
      | kk + 4, hkk => exact absurd hkk (by omega)
    have hout2 := q_tabO (lo := 0) (n := 4) (by decide) hout
    refine lv_tableOut (tgt := 92) hx hb dX1_fits_13 (by omega) (by decide) ?_
    refine lv_iconst (v := 0) hx hb dX1_fits_92 (by decide) ?_
    have er := q_inj h
    subst er
    exact hret _ _ _ _ nar0 (hP.sub [0] rfl) (hD.sub [0] rfl rfl) hS dX1_fits_93
  · replace h := q_t c1 h
    refine lv_iconst (v := 0) hx hb dX1_fits_10 (by decide) ?_
    have er := q_inj h
    subst er
    exact hret _ _ _ _ nar0 (hP.sub [0] rfl) (hD.sub [0] rfl rfl) hS dX1_fits_11
abbrev rm_X9_allowed : Room := { frames := 2, cells := 0, slots := 0, locals := 44 }
theorem lk_X9_allowed_0 : Cond.fieldLink RX9 10 "OnlyPrimes" "now" "LOnlyPrimes$Kept;" ∈ wsX9_allowed := List.mem_of_getElem? (i := 1) (by decide +kernel)
theorem iw_X9_allowed_X9 : ∀ w ∈ wsX90, w ∈ wsX9_allowed := by decide +kernel
theorem nd_X9_allowed : yX9_allowed.cls ≠ "java/lang/invoke/MethodHandle" ∧ yX9_allowed.cls ≠ "java/lang/invoke/VarHandle" ∧ (parseMethodDescriptor yX9_allowed.desc).map (fun d => d.parameters.length) = some 2 := by decide +kernel
theorem vd_X9_allowed : yX9_allowed.cls = RX9 ∧ yX9_allowed.cls ≠ "java/lang/invoke/MethodHandle" ∧ yX9_allowed.cls ≠ "java/lang/invoke/VarHandle" ∧ (parseMethodDescriptor yX9_allowed.desc).map (fun d => d.parameters.length) = some 2 := by decide +kernel
set_option maxHeartbeats 4000000 in
set_option maxRecDepth 100000 in
theorem c_X9_allowed (l : Launch) (D : va_G) (E : q_En) (kI kB kQ : ClassId) (q_this : Nat) (q_this_now : Nat) (q_this_refused : Nat) (v_this_images : Value) (v_this_reader : Value) (v_this_judge : Value) (v_this_rows : Value) (v_this_sets : Value) (v_this_walk : Value) (v_this_seats : Value) (v_this_now_land : Value) (v_this_now_text : Value) (v_this_now_knots : Value) (v_this_now_countedKnots : Value) (v_this_now_countedSizes : Value) (v_this_now_lasts : Value) (v_this_now_companies : Value) (imagesKept_ : Int32) (above_ : Int32) (below_ : Int32) (now_set_ : Int32) (now_room_ : Int32) (now_crew_ : Int32) (refused_ : Nat → Int32) (x1 : Int32) (x2 : Int32) (N : Nat) (r : Int32 × (Nat → Int32)) (hf : g_X9_allowed N now_set_ refused_ x1 x2 = some r) : CtI l D E yX9_allowed wsX9_allowed rm_X9_allowed (q_tys kI kB kQ) [.ref q_this, .int x1, .int x2] [(q_this, .inr (9, [.ref q_this_now, v_this_images, .int imagesKept_, .ref q_this_refused, .int above_, .int below_, v_this_reader, v_this_judge, v_this_rows, v_this_sets, v_this_walk, v_this_seats])), (q_this_now, .inr (1, [.int now_set_, .int now_room_, .int now_crew_, v_this_now_land, v_this_now_text, v_this_now_knots, v_this_now_countedKnots, v_this_now_countedSizes, v_this_now_lasts, v_this_now_companies])), (q_this_refused, .inl (kI, 3, .inl refused_))] [(q_this, .inr (9, [.ref q_this_now, v_this_images, .int imagesKept_, .ref q_this_refused, .int above_, .int below_, v_this_reader, v_this_judge, v_this_rows, v_this_sets, v_this_walk, v_this_seats])), (q_this_now, .inr (1, [.int now_set_, .int now_room_, .int now_crew_, v_this_now_land, v_this_now_text, v_this_now_knots, v_this_now_countedKnots, v_this_now_countedSizes, v_this_now_lasts, v_this_now_companies])), (q_this_refused, .inl (kI, 3, .inl r.2))] r.1 := by
  refine q_enterI cX9_allowed 3 RX9 (by decide) rfl (Nat.le_of_ble_eq_true rfl) rfl ?_
  intro p e s m args below meth c Q A ls H hx hb hml hown hts hK hN hE hA hP hS hD hl hret
  have hl : lv_has ls 3 [(0, .ref q_this), (1, .int x1), (2, .int x2)] := hl
  have h := hf
  rw [g_X9_allowed] at h
  refine lv_iload_n hx hb dX9_allowed_0 rfl (lv_at hl 1 rfl) ?_
  obtain ⟨u1, hu1, h⟩ := q_b h
  refine q_aI (va_runS (As := [.int x1]) (rest := []) ⟨hx, hb, hml, hown, hts⟩ (c_X9_isRule l D E kI kB kQ x1 N u1 hu1 H.size) (va_cwS 1 hts gX9_allowed_X9_isRule rfl rfl rfl nd_X9_isRule ⟨Nat.le_of_ble_eq_true rfl, Nat.le_of_ble_eq_true rfl⟩) (q_ps hK hN hE hS hA hP hD [] rfl rfl rfl) rfl rfl hl.1 rfl (lv_room (Nat.le_of_ble_eq_true rfl)) dX9_allowed_1 ⟨Nat.zero_le _, Nat.zero_le _⟩) hP hD hS hA [] [0, 1, 2] (Wr := [(q_this, .inr (9, [.ref q_this_now, v_this_images, .int imagesKept_, .ref q_this_refused, .int above_, .int below_, v_this_reader, v_this_judge, v_this_rows, v_this_sets, v_this_walk, v_this_seats])), (q_this_now, .inr (1, [.int now_set_, .int now_room_, .int now_crew_, v_this_now_land, v_this_now_text, v_this_now_knots, v_this_now_countedKnots, v_this_now_countedSizes, v_this_now_lasts, v_this_now_companies])), (q_this_refused, .inl (kI, 3, .inl refused_))]) rfl rfl rfl (by decide) (fun H locs hP hD hS => ?_)
  have hP : va_P D vwCl [(q_this, .inr (9, [.ref q_this_now, v_this_images, .int imagesKept_, .ref q_this_refused, .int above_, .int below_, v_this_reader, v_this_judge, v_this_rows, v_this_sets, v_this_walk, v_this_seats])), (q_this_now, .inr (1, [.int now_set_, .int now_room_, .int now_crew_, v_this_now_land, v_this_now_text, v_this_now_knots, v_this_now_countedKnots, v_this_now_countedSizes, v_this_now_lasts, v_this_now_companies])), (q_this_refused, .inl (kI, 3, .inl refused_))] H := hP
  have hD : va_D A [(q_this, .inr (9, [.ref q_this_now, v_this_images, .int imagesKept_, .ref q_this_refused, .int above_, .int below_, v_this_reader, v_this_judge, v_this_rows, v_this_sets, v_this_walk, v_this_seats])), (q_this_now, .inr (1, [.int now_set_, .int now_room_, .int now_crew_, v_this_now_land, v_this_now_text, v_this_now_knots, v_this_now_countedKnots, v_this_now_countedSizes, v_this_now_lasts, v_this_now_companies])), (q_this_refused, .inl (kI, 3, .inl refused_))] := hD
  refine lv_if_eq (tgt := 17) hx hb dX9_allowed_4 (by decide) (fun c1 => ?_) (fun c1 => ?_)
  · replace h := q_t c1 h
    refine lv_aload_n hx hb dX9_allowed_17 rfl (lv_at hl 0 rfl) ?_
    refine lv_bipush (v := (-2)) hx hb dX9_allowed_18 (by decide) ?_
    refine lv_bipush (v := (-2)) hx hb dX9_allowed_20 (by decide) ?_
    obtain ⟨u22, hu22, h⟩ := q_b h
    refine q_aI (va_runV (As := [.int (-2), .int (-2)]) (rest := []) ⟨hx, hb, hml, hown, hts⟩ (c_X9_refuse l D E kI kB kQ q_this q_this_refused (.ref q_this_now) v_this_images v_this_reader v_this_judge v_this_rows v_this_sets v_this_walk v_this_seats imagesKept_ above_ below_ refused_ (-2) (-2) N u22 hu22 H.size) (cwV 2 hts gX9_allowed_X9_refuse rfl rfl rfl vd_X9_refuse ⟨Nat.le_of_ble_eq_true rfl, Nat.le_of_ble_eq_true rfl⟩) (q_pv hK hN hE hS hA hP hD [0, 2] rfl rfl rfl 0 rfl (ci := 9) rfl) rfl rfl hl.1 rfl (lv_room (Nat.le_of_ble_eq_true rfl)) dX9_allowed_22 ⟨Nat.zero_le _, Nat.zero_le _⟩) hP hD hS hA [0, 2] [1] (Wr := [(q_this_now, .inr (1, [.int now_set_, .int now_room_, .int now_crew_, v_this_now_land, v_this_now_text, v_this_now_knots, v_this_now_countedKnots, v_this_now_countedSizes, v_this_now_lasts, v_this_now_companies]))]) rfl rfl rfl (by decide) (fun H locs hP hD hS => ?_)
    have hP : va_P D vwCl [(q_this_now, .inr (1, [.int now_set_, .int now_room_, .int now_crew_, v_this_now_land, v_this_now_text, v_this_now_knots, v_this_now_countedKnots, v_this_now_countedSizes, v_this_now_lasts, v_this_now_companies])), (q_this, .inr (9, [.ref q_this_now, v_this_images, .int imagesKept_, .ref q_this_refused, .int above_, .int below_, v_this_reader, v_this_judge, v_this_rows, v_this_sets, v_this_walk, v_this_seats])), (q_this_refused, .inl (kI, 3, .inl u22.2))] H := hP
    have hD : va_D A [(q_this_now, .inr (1, [.int now_set_, .int now_room_, .int now_crew_, v_this_now_land, v_this_now_text, v_this_now_knots, v_this_now_countedKnots, v_this_now_countedSizes, v_this_now_lasts, v_this_now_companies])), (q_this, .inr (9, [.ref q_this_now, v_this_images, .int imagesKept_, .ref q_this_refused, .int above_, .int below_, v_this_reader, v_this_judge, v_this_rows, v_this_sets, v_this_walk, v_this_seats])), (q_this_refused, .inl (kI, 3, .inl u22.2))] := hD
    have er := q_inj h
    subst er
    exact hret _ _ _ _ (hP.sub [1, 0, 2] rfl) (hD.sub [1, 0, 2] rfl rfl) hS dX9_allowed_25
  · replace h := q_f c1 h
    refine lv_iload_n hx hb dX9_allowed_7 rfl (lv_at hl 2 rfl) ?_
    refine lv_iconst (v := 1) hx hb dX9_allowed_8 (by decide) ?_
    refine lv_bipush (v := 99) hx hb dX9_allowed_9 (by decide) ?_
    obtain ⟨u11, hu11, h⟩ := q_b h
    refine q_aI (va_runS (As := [.int x2, .int 1, .int 99]) (rest := []) ⟨hx, hb, hml, hown, hts⟩ (c_X9_isWithin l D E kI kB kQ x2 1 99 N u11 hu11 H.size) (va_cwS 3 hts gX9_allowed_X9_isWithin rfl rfl rfl nd_X9_isWithin ⟨Nat.le_of_ble_eq_true rfl, Nat.le_of_ble_eq_true rfl⟩) (q_ps hK hN hE hS hA hP hD [] rfl rfl rfl) rfl rfl hl.1 rfl (lv_room (Nat.le_of_ble_eq_true rfl)) dX9_allowed_11 ⟨Nat.zero_le _, Nat.zero_le _⟩) hP hD hS hA [] [0, 1, 2] (Wr := [(q_this, .inr (9, [.ref q_this_now, v_this_images, .int imagesKept_, .ref q_this_refused, .int above_, .int below_, v_this_reader, v_this_judge, v_this_rows, v_this_sets, v_this_walk, v_this_seats])), (q_this_now, .inr (1, [.int now_set_, .int now_room_, .int now_crew_, v_this_now_land, v_this_now_text, v_this_now_knots, v_this_now_countedKnots, v_this_now_countedSizes, v_this_now_lasts, v_this_now_companies])), (q_this_refused, .inl (kI, 3, .inl refused_))]) rfl rfl rfl (by decide) (fun H locs hP hD hS => ?_)
    have hP : va_P D vwCl [(q_this, .inr (9, [.ref q_this_now, v_this_images, .int imagesKept_, .ref q_this_refused, .int above_, .int below_, v_this_reader, v_this_judge, v_this_rows, v_this_sets, v_this_walk, v_this_seats])), (q_this_now, .inr (1, [.int now_set_, .int now_room_, .int now_crew_, v_this_now_land, v_this_now_text, v_this_now_knots, v_this_now_countedKnots, v_this_now_countedSizes, v_this_now_lasts, v_this_now_companies])), (q_this_refused, .inl (kI, 3, .inl refused_))] H := hP
    have hD : va_D A [(q_this, .inr (9, [.ref q_this_now, v_this_images, .int imagesKept_, .ref q_this_refused, .int above_, .int below_, v_this_reader, v_this_judge, v_this_rows, v_this_sets, v_this_walk, v_this_seats])), (q_this_now, .inr (1, [.int now_set_, .int now_room_, .int now_crew_, v_this_now_land, v_this_now_text, v_this_now_knots, v_this_now_countedKnots, v_this_now_countedSizes, v_this_now_lasts, v_this_now_companies])), (q_this_refused, .inl (kI, 3, .inl refused_))] := hD
    refine lv_if_ne (tgt := 26) hx hb dX9_allowed_14 (by decide) (fun c2 => ?_) (fun c2 => ?_)
    · replace h := q_f c2 h
      refine lv_aload_n hx hb dX9_allowed_26 rfl (lv_at hl 0 rfl) ?_
      refine va_get (D := D) (ci := 9) (C := RX9) (T := TX9) (N := 12) hx hb hts iw_X9_allowed_X9 hown hK hP 0 rfl rfl 0 (by decide) (hts _ lk_X9_allowed_0) (fun _ h9 => h9) rfl dX9_allowed_27 ?_
      refine lv_iload_n hx hb dX9_allowed_30 rfl (lv_at hl 1 rfl) ?_
      refine lv_iload_n hx hb dX9_allowed_31 rfl (lv_at hl 2 rfl) ?_
      obtain ⟨u32, hu32, h⟩ := q_b h
      refine q_aI (va_runV (As := [.int x1, .int x2]) (rest := []) ⟨hx, hb, hml, hown, hts⟩ (c_X1_fits l D E kI kB kQ q_this_now v_this_now_land v_this_now_text v_this_now_knots v_this_now_countedKnots v_this_now_countedSizes v_this_now_lasts v_this_now_companies now_set_ now_room_ now_crew_ x1 x2 N u32 hu32 H.size) (cwV 2 hts gX9_allowed_X1_fits rfl rfl rfl vd_X1_fits ⟨Nat.le_of_ble_eq_true rfl, Nat.le_of_ble_eq_true rfl⟩) (q_pv hK hN hE hS hA hP hD [1] rfl rfl rfl 1 rfl (ci := 1) rfl) rfl rfl hl.1 rfl (lv_room (Nat.le_of_ble_eq_true rfl)) dX9_allowed_32 ⟨Nat.zero_le _, Nat.zero_le _⟩) hP hD hS hA [1] [0, 2] (Wr := [(q_this, .inr (9, [.ref q_this_now, v_this_images, .int imagesKept_, .ref q_this_refused, .int above_, .int below_, v_this_reader, v_this_judge, v_this_rows, v_this_sets, v_this_walk, v_this_seats])), (q_this_refused, .inl (kI, 3, .inl refused_))]) rfl rfl rfl (by decide) (fun H locs hP hD hS => ?_)
      have hP : va_P D vwCl [(q_this, .inr (9, [.ref q_this_now, v_this_images, .int imagesKept_, .ref q_this_refused, .int above_, .int below_, v_this_reader, v_this_judge, v_this_rows, v_this_sets, v_this_walk, v_this_seats])), (q_this_refused, .inl (kI, 3, .inl refused_)), (q_this_now, .inr (1, [.int now_set_, .int now_room_, .int now_crew_, v_this_now_land, v_this_now_text, v_this_now_knots, v_this_now_countedKnots, v_this_now_countedSizes, v_this_now_lasts, v_this_now_companies]))] H := hP
      have hD : va_D A [(q_this, .inr (9, [.ref q_this_now, v_this_images, .int imagesKept_, .ref q_this_refused, .int above_, .int below_, v_this_reader, v_this_judge, v_this_rows, v_this_sets, v_this_walk, v_this_seats])), (q_this_refused, .inl (kI, 3, .inl refused_)), (q_this_now, .inr (1, [.int now_set_, .int now_room_, .int now_crew_, v_this_now_land, v_this_now_text, v_this_now_knots, v_this_now_countedKnots, v_this_now_countedSizes, v_this_now_lasts, v_this_now_companies]))] := hD
      refine lv_if_eq (tgt := 42) hx hb dX9_allowed_35 (by decide) (fun c3 => ?_) (fun c3 => ?_)
      · replace h := q_t c3 h
        refine lv_iconst (v := 0) hx hb dX9_allowed_42 (by decide) ?_
        have er := q_inj h
        subst er
        exact hret _ _ _ _ (hP.sub [0, 2, 1] rfl) (hD.sub [0, 2, 1] rfl rfl) hS dX9_allowed_43
      · replace h := q_f c3 h
        refine lv_iconst (v := 1) hx hb dX9_allowed_38 (by decide) ?_
        refine lv_goto (tgt := 43) hx hb dX9_allowed_39 (by decide) ?_
        have er := q_inj h
        subst er
        exact hret _ _ _ _ (hP.sub [0, 2, 1] rfl) (hD.sub [0, 2, 1] rfl rfl) hS dX9_allowed_43
    · replace h := q_t c2 h
      refine lv_aload_n hx hb dX9_allowed_17 rfl (lv_at hl 0 rfl) ?_
      refine lv_bipush (v := (-2)) hx hb dX9_allowed_18 (by decide) ?_
      refine lv_bipush (v := (-2)) hx hb dX9_allowed_20 (by decide) ?_
      obtain ⟨u22, hu22, h⟩ := q_b h
      refine q_aI (va_runV (As := [.int (-2), .int (-2)]) (rest := []) ⟨hx, hb, hml, hown, hts⟩ (c_X9_refuse l D E kI kB kQ q_this q_this_refused (.ref q_this_now) v_this_images v_this_reader v_this_judge v_this_rows v_this_sets v_this_walk v_this_seats imagesKept_ above_ below_ refused_ (-2) (-2) N u22 hu22 H.size) (cwV 2 hts gX9_allowed_X9_refuse rfl rfl rfl vd_X9_refuse ⟨Nat.le_of_ble_eq_true rfl, Nat.le_of_ble_eq_true rfl⟩) (q_pv hK hN hE hS hA hP hD [0, 2] rfl rfl rfl 0 rfl (ci := 9) rfl) rfl rfl hl.1 rfl (lv_room (Nat.le_of_ble_eq_true rfl)) dX9_allowed_22 ⟨Nat.zero_le _, Nat.zero_le _⟩) hP hD hS hA [0, 2] [1] (Wr := [(q_this_now, .inr (1, [.int now_set_, .int now_room_, .int now_crew_, v_this_now_land, v_this_now_text, v_this_now_knots, v_this_now_countedKnots, v_this_now_countedSizes, v_this_now_lasts, v_this_now_companies]))]) rfl rfl rfl (by decide) (fun H locs hP hD hS => ?_)
      have hP : va_P D vwCl [(q_this_now, .inr (1, [.int now_set_, .int now_room_, .int now_crew_, v_this_now_land, v_this_now_text, v_this_now_knots, v_this_now_countedKnots, v_this_now_countedSizes, v_this_now_lasts, v_this_now_companies])), (q_this, .inr (9, [.ref q_this_now, v_this_images, .int imagesKept_, .ref q_this_refused, .int above_, .int below_, v_this_reader, v_this_judge, v_this_rows, v_this_sets, v_this_walk, v_this_seats])), (q_this_refused, .inl (kI, 3, .inl u22.2))] H := hP
      have hD : va_D A [(q_this_now, .inr (1, [.int now_set_, .int now_room_, .int now_crew_, v_this_now_land, v_this_now_text, v_this_now_knots, v_this_now_countedKnots, v_this_now_countedSizes, v_this_now_lasts, v_this_now_companies])), (q_this, .inr (9, [.ref q_this_now, v_this_images, .int imagesKept_, .ref q_this_refused, .int above_, .int below_, v_this_reader, v_this_judge, v_this_rows, v_this_sets, v_this_walk, v_this_seats])), (q_this_refused, .inl (kI, 3, .inl u22.2))] := hD
      have er := q_inj h
      subst er
      exact hret _ _ _ _ (hP.sub [1, 0, 2] rfl) (hD.sub [1, 0, 2] rfl rfl) hS dX9_allowed_25
abbrev rm_X9_isCorner : Room := { frames := 1, cells := 0, slots := 0, locals := 22 }
theorem nd_X9_isCorner : yX9_isCorner.cls ≠ "java/lang/invoke/MethodHandle" ∧ yX9_isCorner.cls ≠ "java/lang/invoke/VarHandle" ∧ (parseMethodDescriptor yX9_isCorner.desc).map (fun d => d.parameters.length) = some 1 := by decide +kernel
set_option maxHeartbeats 4000000 in
set_option maxRecDepth 100000 in
theorem c_X9_isCorner (l : Launch) (D : va_G) (E : q_En) (kI kB kQ : ClassId) (x0 : Int32) (N : Nat) (r : Int32) (hf : g_X9_isCorner x0 = some r) : CtI l D E yX9_isCorner wsX9_isCorner rm_X9_isCorner (q_tys kI kB kQ) [.int x0] [] [] r := by
  refine q_enterZ cX9_isCorner 1 RX9 (by decide) rfl (Nat.le_of_ble_eq_true rfl) rfl ?_
  intro p e s m args below meth c Q A ls H hx hb hml hown hts hK hN hE hA hP hS hD hl hret
  have hl : lv_has ls 1 [(0, .int x0)] := hl
  have h := hf
  rw [g_X9_isCorner] at h
  refine lv_iload_n hx hb dX9_isCorner_0 rfl (lv_at hl 0 rfl) ?_
  refine lv_iconst (v := 0) hx hb dX9_isCorner_1 (by decide) ?_
  refine lv_iconst (v := 3) hx hb dX9_isCorner_2 (by decide) ?_
  obtain ⟨u3, hu3, h⟩ := q_b h
  refine q_aI (va_runS (As := [.int x0, .int 0, .int 3]) (rest := []) ⟨hx, hb, hml, hown, hts⟩ (c_X9_isWithin l D E kI kB kQ x0 0 3 N u3 hu3 H.size) (va_cwS 3 hts gX9_isCorner_X9_isWithin rfl rfl rfl nd_X9_isWithin ⟨Nat.le_of_ble_eq_true rfl, Nat.le_of_ble_eq_true rfl⟩) (q_ps hK hN hE hS hA hP hD [] rfl rfl rfl) rfl rfl hl.1 rfl (lv_room (Nat.le_of_ble_eq_true rfl)) dX9_isCorner_3 ⟨Nat.zero_le _, Nat.zero_le _⟩) hP hD hS hA [] [] (Wr := []) rfl rfl rfl (by decide) (fun H locs hP hD hS => ?_)
  have hP : va_P D vwCl [] H := hP
  have hD : va_D A [] := hD
  obtain ⟨hg1, h⟩ := q_g h
  have er := q_inj h
  subst er
  exact hret _ _ _ _ (zb_nar hg1) (hP.sub [] rfl) (hD.sub [] rfl rfl) hS dX9_isCorner_6
abbrev rm_X2_bit : Room := { frames := 0, cells := 0, slots := 0, locals := 0 }
theorem nd_X2_bit : yX2_bit.cls ≠ "java/lang/invoke/MethodHandle" ∧ yX2_bit.cls ≠ "java/lang/invoke/VarHandle" ∧ (parseMethodDescriptor yX2_bit.desc).map (fun d => d.parameters.length) = some 2 := by decide +kernel
set_option maxHeartbeats 4000000 in
set_option maxRecDepth 100000 in
theorem c_X2_bit (l : Launch) (D : va_G) (E : q_En) (kI kB kQ : ClassId) (x0 : Int32) (x1 : Int32) (N : Nat) (r : Int32) (hf : g_X2_bit x0 x1 = some r) : CtI l D E yX2_bit wsX2_bit rm_X2_bit (q_tys kI kB kQ) [.int x0, .int x1] [] [] r := by
  refine q_enterI cX2_bit 2 RX2 (by decide) rfl (Nat.le_of_ble_eq_true rfl) rfl ?_
  intro p e s m args below meth c Q A ls H hx hb hml hown hts hK hN hE hA hP hS hD hl hret
  have hl : lv_has ls 2 [(0, .int x0), (1, .int x1)] := hl
  have h := hf
  rw [g_X2_bit] at h
  refine lv_iconst (v := 1) hx hb dX2_bit_0 (by decide) ?_
  refine lv_iconst (v := 4) hx hb dX2_bit_1 (by decide) ?_
  refine lv_iload_n hx hb dX2_bit_2 rfl (lv_at hl 0 rfl) ?_
  refine lv_imul hx hb dX2_bit_3 ?_
  refine lv_iload_n hx hb dX2_bit_4 rfl (lv_at hl 1 rfl) ?_
  refine lv_iadd hx hb dX2_bit_5 ?_
  refine lv_ishl hx hb dX2_bit_6 ?_
  have er := q_inj h
  subst er
  exact hret _ _ _ _ (hP.sub [] rfl) (hD.sub [] rfl rfl) hS dX2_bit_7
abbrev rm_X2_hasWay : Room := { frames := 2, cells := 0, slots := 0, locals := 42 }
theorem lk_X2_hasWay_0 : Cond.initialized RX9 ∈ wsX2_hasWay := List.mem_of_getElem? (i := 3) (by decide +kernel)
theorem lk_X2_hasWay_1 : Cond.static yX9_isCorner ∈ wsX2_hasWay := List.mem_of_getElem? (i := 2) (by decide +kernel)
theorem lk_X2_hasWay_2 : Cond.fieldLink RX2 39 "OnlyPrimes$Land" "ways" "I" ∈ wsX2_hasWay := List.mem_of_getElem? (i := 1) (by decide +kernel)
theorem iw_X2_hasWay_X2 : ∀ w ∈ wsX20, w ∈ wsX2_hasWay := by decide +kernel
theorem nd_X2_hasWay : yX2_hasWay.cls ≠ "java/lang/invoke/MethodHandle" ∧ yX2_hasWay.cls ≠ "java/lang/invoke/VarHandle" ∧ (parseMethodDescriptor yX2_hasWay.desc).map (fun d => d.parameters.length) = some 2 := by decide +kernel
theorem vd_X2_hasWay : yX2_hasWay.cls = RX2 ∧ yX2_hasWay.cls ≠ "java/lang/invoke/MethodHandle" ∧ yX2_hasWay.cls ≠ "java/lang/invoke/VarHandle" ∧ (parseMethodDescriptor yX2_hasWay.desc).map (fun d => d.parameters.length) = some 2 := by decide +kernel
set_option maxHeartbeats 4000000 in
set_option maxRecDepth 100000 in
theorem c_X2_hasWay (l : Launch) (D : va_G) (E : q_En) (kI kB kQ : ClassId) (q_this : Nat) (v_this_starts : Value) (v_this_homes : Value) (v_this_hours : Value) (v_this_froms : Value) (v_this_tos : Value) (v_this_bands : Value) (ways_ : Int32) (x1 : Int32) (x2 : Int32) (N : Nat) (r : Int32) (hf : g_X2_hasWay ways_ x1 x2 = some r) : CtI l D E yX2_hasWay wsX2_hasWay rm_X2_hasWay (q_tys kI kB kQ) [.ref q_this, .int x1, .int x2] [(q_this, .inr (2, [.int ways_, v_this_starts, v_this_homes, v_this_hours, v_this_froms, v_this_tos, v_this_bands]))] [(q_this, .inr (2, [.int ways_, v_this_starts, v_this_homes, v_this_hours, v_this_froms, v_this_tos, v_this_bands]))] r := by
  refine q_enterZ cX2_hasWay 3 RX2 (by decide) rfl (Nat.le_of_ble_eq_true rfl) rfl ?_
  intro p e s m args below meth c Q A ls H hx hb hml hown hts hK hN hE hA hP hS hD hl hret
  have hl : lv_has ls 3 [(0, .ref q_this), (1, .int x1), (2, .int x2)] := hl
  have h := hf
  rw [g_X2_hasWay] at h
  refine lv_iload_n hx hb dX2_hasWay_0 rfl (lv_at hl 1 rfl) ?_
  obtain ⟨u1, hu1, h⟩ := q_b h
  refine q_aI (va_runSN (As := [.int x1]) (rest := []) ⟨hx, hb, hml, hown, hts⟩ (c_X9_isCorner l D E kI kB kQ x1 N u1 hu1 H.size) ⟨(va_cnB 1 hts gX2_hasWay_X9_isCorner_n35 rfl rfl rfl hN.2.2.1 (hts _ lk_X2_hasWay_0) nd_X9_isCorner ⟨Nat.le_of_ble_eq_true rfl, Nat.le_of_ble_eq_true rfl⟩), hts _ lk_X2_hasWay_1, trivial⟩ (q_ps hK hN hE hS hA hP hD [] rfl rfl rfl) rfl rfl hl.1 rfl (lv_room (Nat.le_of_ble_eq_true rfl)) dX2_hasWay_1 ⟨Nat.zero_le _, Nat.zero_le _⟩) hP hD hS hA [] [0] (Wr := [(q_this, .inr (2, [.int ways_, v_this_starts, v_this_homes, v_this_hours, v_this_froms, v_this_tos, v_this_bands]))]) rfl rfl rfl (by decide) (fun H locs hP hD hS => ?_)
  have hP : va_P D vwCl [(q_this, .inr (2, [.int ways_, v_this_starts, v_this_homes, v_this_hours, v_this_froms, v_this_tos, v_this_bands]))] H := hP
  have hD : va_D A [(q_this, .inr (2, [.int ways_, v_this_starts, v_this_homes, v_this_hours, v_this_froms, v_this_tos, v_this_bands]))] := hD
  refine lv_if_eq (tgt := 31) hx hb dX2_hasWay_4 (by decide) (fun c1 => ?_) (fun c1 => ?_)
  · replace h := q_t c1 h
    refine lv_iconst (v := 0) hx hb dX2_hasWay_31 (by decide) ?_
    have er := q_inj h
    subst er
    exact hret _ _ _ _ nar0 (hP.sub [0] rfl) (hD.sub [0] rfl rfl) hS dX2_hasWay_32
  · replace h := q_f c1 h
    refine lv_iload_n hx hb dX2_hasWay_7 rfl (lv_at hl 2 rfl) ?_
    obtain ⟨u8, hu8, h⟩ := q_b h
    refine q_aI (va_runSN (As := [.int x2]) (rest := []) ⟨hx, hb, hml, hown, hts⟩ (c_X9_isCorner l D E kI kB kQ x2 N u8 hu8 H.size) ⟨(va_cnB 1 hts gX2_hasWay_X9_isCorner_n35 rfl rfl rfl hN.2.2.1 (hts _ lk_X2_hasWay_0) nd_X9_isCorner ⟨Nat.le_of_ble_eq_true rfl, Nat.le_of_ble_eq_true rfl⟩), hts _ lk_X2_hasWay_1, trivial⟩ (q_ps hK hN hE hS hA hP hD [] rfl rfl rfl) rfl rfl hl.1 rfl (lv_room (Nat.le_of_ble_eq_true rfl)) dX2_hasWay_8 ⟨Nat.zero_le _, Nat.zero_le _⟩) hP hD hS hA [] [0] (Wr := [(q_this, .inr (2, [.int ways_, v_this_starts, v_this_homes, v_this_hours, v_this_froms, v_this_tos, v_this_bands]))]) rfl rfl rfl (by decide) (fun H locs hP hD hS => ?_)
    have hP : va_P D vwCl [(q_this, .inr (2, [.int ways_, v_this_starts, v_this_homes, v_this_hours, v_this_froms, v_this_tos, v_this_bands]))] H := hP
    have hD : va_D A [(q_this, .inr (2, [.int ways_, v_this_starts, v_this_homes, v_this_hours, v_this_froms, v_this_tos, v_this_bands]))] := hD
    refine lv_if_eq (tgt := 31) hx hb dX2_hasWay_11 (by decide) (fun c2 => ?_) (fun c2 => ?_)
    · replace h := q_t c2 h
      refine lv_iconst (v := 0) hx hb dX2_hasWay_31 (by decide) ?_
      have er := q_inj h
      subst er
      exact hret _ _ _ _ nar0 (hP.sub [0] rfl) (hD.sub [0] rfl rfl) hS dX2_hasWay_32
    · replace h := q_f c2 h
      refine lv_aload_n hx hb dX2_hasWay_14 rfl (lv_at hl 0 rfl) ?_
      refine va_get (D := D) (ci := 2) (C := RX2) (T := TX2) (N := 7) hx hb hts iw_X2_hasWay_X2 hown hK hP 0 rfl rfl 0 (by decide) (hts _ lk_X2_hasWay_2) (fun _ h9 => h9) rfl dX2_hasWay_15 ?_
      refine lv_iload_n hx hb dX2_hasWay_18 rfl (lv_at hl 1 rfl) ?_
      refine lv_iload_n hx hb dX2_hasWay_19 rfl (lv_at hl 2 rfl) ?_
      obtain ⟨u20, hu20, h⟩ := q_b h
      refine q_aI (va_runS (As := [.int x1, .int x2]) (rest := [.int ways_]) ⟨hx, hb, hml, hown, hts⟩ (c_X2_bit l D E kI kB kQ x1 x2 N u20 hu20 H.size) (va_cwS 2 hts gX2_hasWay_X2_bit rfl rfl rfl nd_X2_bit ⟨Nat.le_of_ble_eq_true rfl, Nat.le_of_ble_eq_true rfl⟩) (q_ps hK hN hE hS hA hP hD [] rfl rfl rfl) rfl rfl hl.1 rfl (lv_room (Nat.le_of_ble_eq_true rfl)) dX2_hasWay_20 ⟨Nat.zero_le _, Nat.zero_le _⟩) hP hD hS hA [] [0] (Wr := [(q_this, .inr (2, [.int ways_, v_this_starts, v_this_homes, v_this_hours, v_this_froms, v_this_tos, v_this_bands]))]) rfl rfl rfl (by decide) (fun H locs hP hD hS => ?_)
      have hP : va_P D vwCl [(q_this, .inr (2, [.int ways_, v_this_starts, v_this_homes, v_this_hours, v_this_froms, v_this_tos, v_this_bands]))] H := hP
      have hD : va_D A [(q_this, .inr (2, [.int ways_, v_this_starts, v_this_homes, v_this_hours, v_this_froms, v_this_tos, v_this_bands]))] := hD
      refine lv_iand hx hb dX2_hasWay_23 ?_
      refine lv_if_eq (tgt := 31) hx hb dX2_hasWay_24 (by decide) (fun c3 => ?_) (fun c3 => ?_)
      · replace h := q_t c3 h
        refine lv_iconst (v := 0) hx hb dX2_hasWay_31 (by decide) ?_
        have er := q_inj h
        subst er
        exact hret _ _ _ _ nar0 (hP.sub [0] rfl) (hD.sub [0] rfl rfl) hS dX2_hasWay_32
      · replace h := q_f c3 h
        refine lv_iconst (v := 1) hx hb dX2_hasWay_27 (by decide) ?_
        refine lv_goto (tgt := 32) hx hb dX2_hasWay_28 (by decide) ?_
        have er := q_inj h
        subst er
        exact hret _ _ _ _ nar1 (hP.sub [0] rfl) (hD.sub [0] rfl rfl) hS dX2_hasWay_32
abbrev rm_X2_setWay : Room := { frames := 1, cells := 0, slots := 0, locals := 21 }
theorem lk_X2_setWay_0 : Cond.fieldLink RX2 39 "OnlyPrimes$Land" "ways" "I" ∈ wsX2_setWay := List.mem_of_getElem? (i := 1) (by decide +kernel)
theorem iw_X2_setWay_X2 : ∀ w ∈ wsX20, w ∈ wsX2_setWay := by decide +kernel
theorem nd_X2_setWay : yX2_setWay.cls ≠ "java/lang/invoke/MethodHandle" ∧ yX2_setWay.cls ≠ "java/lang/invoke/VarHandle" ∧ (parseMethodDescriptor yX2_setWay.desc).map (fun d => d.parameters.length) = some 3 := by decide +kernel
theorem vd_X2_setWay : yX2_setWay.cls = RX2 ∧ yX2_setWay.cls ≠ "java/lang/invoke/MethodHandle" ∧ yX2_setWay.cls ≠ "java/lang/invoke/VarHandle" ∧ (parseMethodDescriptor yX2_setWay.desc).map (fun d => d.parameters.length) = some 3 := by decide +kernel
set_option maxHeartbeats 4000000 in
set_option maxRecDepth 100000 in
theorem c_X2_setWay (l : Launch) (D : va_G) (E : q_En) (kI kB kQ : ClassId) (q_this : Nat) (v_this_starts : Value) (v_this_homes : Value) (v_this_hours : Value) (v_this_froms : Value) (v_this_tos : Value) (v_this_bands : Value) (ways_ : Int32) (x1 : Int32) (x2 : Int32) (x3 : Int32) (N : Nat) (r : Int32) (hf : g_X2_setWay ways_ x1 x2 x3 = some r) : CtV l D E yX2_setWay wsX2_setWay rm_X2_setWay (q_tys kI kB kQ) [.ref q_this, .int x1, .int x2, .int x3] [(q_this, .inr (2, [.int ways_, v_this_starts, v_this_homes, v_this_hours, v_this_froms, v_this_tos, v_this_bands]))] [(q_this, .inr (2, [.int r, v_this_starts, v_this_homes, v_this_hours, v_this_froms, v_this_tos, v_this_bands]))] := by
  refine q_enterV cX2_setWay 5 RX2 (by decide) rfl (Nat.le_of_ble_eq_true rfl) rfl ?_
  intro p e s m args below meth c Q A ls H hx hb hml hown hts hK hN hE hA hP hS hD hl hret
  have hl : lv_has ls 5 [(0, .ref q_this), (1, .int x1), (2, .int x2), (3, .int x3)] := hl
  have h := hf
  rw [g_X2_setWay] at h
  refine lv_iload_n hx hb dX2_setWay_0 rfl (lv_at hl 1 rfl) ?_
  refine lv_iload_n hx hb dX2_setWay_1 rfl (lv_at hl 2 rfl) ?_
  obtain ⟨u2, hu2, h⟩ := q_b h
  refine q_aI (va_runS (As := [.int x1, .int x2]) (rest := []) ⟨hx, hb, hml, hown, hts⟩ (c_X2_bit l D E kI kB kQ x1 x2 N u2 hu2 H.size) (va_cwS 2 hts gX2_setWay_X2_bit rfl rfl rfl nd_X2_bit ⟨Nat.le_of_ble_eq_true rfl, Nat.le_of_ble_eq_true rfl⟩) (q_ps hK hN hE hS hA hP hD [] rfl rfl rfl) rfl rfl hl.1 rfl (lv_room (Nat.le_of_ble_eq_true rfl)) dX2_setWay_2 ⟨Nat.zero_le _, Nat.zero_le _⟩) hP hD hS hA [] [0] (Wr := [(q_this, .inr (2, [.int ways_, v_this_starts, v_this_homes, v_this_hours, v_this_froms, v_this_tos, v_this_bands]))]) rfl rfl rfl (by decide) (fun H locs hP hD hS => ?_)
  have hP : va_P D vwCl [(q_this, .inr (2, [.int ways_, v_this_starts, v_this_homes, v_this_hours, v_this_froms, v_this_tos, v_this_bands]))] H := hP
  have hD : va_D A [(q_this, .inr (2, [.int ways_, v_this_starts, v_this_homes, v_this_hours, v_this_froms, v_this_tos, v_this_bands]))] := hD
  refine lv_iload_n hx hb dX2_setWay_5 rfl (lv_at hl 2 rfl) ?_
  refine lv_iload_n hx hb dX2_setWay_6 rfl (lv_at hl 1 rfl) ?_
  obtain ⟨u7, hu7, h⟩ := q_b h
  refine q_aI (va_runS (As := [.int x2, .int x1]) (rest := [.int u2]) ⟨hx, hb, hml, hown, hts⟩ (c_X2_bit l D E kI kB kQ x2 x1 N u7 hu7 H.size) (va_cwS 2 hts gX2_setWay_X2_bit rfl rfl rfl nd_X2_bit ⟨Nat.le_of_ble_eq_true rfl, Nat.le_of_ble_eq_true rfl⟩) (q_ps hK hN hE hS hA hP hD [] rfl rfl rfl) rfl rfl hl.1 rfl (lv_room (Nat.le_of_ble_eq_true rfl)) dX2_setWay_7 ⟨Nat.zero_le _, Nat.zero_le _⟩) hP hD hS hA [] [0] (Wr := [(q_this, .inr (2, [.int ways_, v_this_starts, v_this_homes, v_this_hours, v_this_froms, v_this_tos, v_this_bands]))]) rfl rfl rfl (by decide) (fun H locs hP hD hS => ?_)
  have hP : va_P D vwCl [(q_this, .inr (2, [.int ways_, v_this_starts, v_this_homes, v_this_hours, v_this_froms, v_this_tos, v_this_bands]))] H := hP
  have hD : va_D A [(q_this, .inr (2, [.int ways_, v_this_starts, v_this_homes, v_this_hours, v_this_froms, v_this_tos, v_this_bands]))] := hD
  refine lv_ior hx hb dX2_setWay_10 ?_
  refine lv_istore (lv' := [(4, .int (u2 ||| u7)), (0, .ref q_this), (1, .int x1), (2, .int x2), (3, .int x3)]) hx hb dX2_setWay_11 hl (by decide) rfl (fun ls hl => ?_)
  refine lv_aload_n hx hb dX2_setWay_13 rfl (lv_at hl 1 rfl) ?_
  refine lv_iload_n hx hb dX2_setWay_14 rfl (lv_at hl 4 rfl) ?_
  refine lv_if_eq (tgt := 28) hx hb dX2_setWay_15 (by decide) (fun c1 => ?_) (fun c1 => ?_)
  · replace h := q_t c1 h
    refine lv_aload_n hx hb dX2_setWay_28 rfl (lv_at hl 1 rfl) ?_
    refine va_get (D := D) (ci := 2) (C := RX2) (T := TX2) (N := 7) hx hb hts iw_X2_setWay_X2 hown hK hP 0 rfl rfl 0 (by decide) (hts _ lk_X2_setWay_0) (fun _ h9 => h9) rfl dX2_setWay_29 ?_
    refine lv_iload hx hb dX2_setWay_32 (lv_at hl 0 rfl) ?_
    refine lv_iconst (v := (-1)) hx hb dX2_setWay_34 (by decide) ?_
    refine lv_ixor hx hb dX2_setWay_35 ?_
    refine lv_iand hx hb dX2_setWay_36 ?_
    refine va_put (D := D) (ci := 2) (v := .int (ways_ &&& ((u2 ||| u7) ^^^ (-1)))) (ty := .int) (C := RX2) (T := TX2) (N := 7) hx hb hts iw_X2_setWay_X2 tyX2 tyX2_ok nmX2 hown hK hP hD hS 0 rfl rfl 0 (by decide) (hts _ lk_X2_setWay_0) (fun _ h9 => h9) rfl (by decide +kernel) rfl rfl (Nat.le_of_ble_eq_true rfl) dX2_setWay_37 (fun H locs hP hD hS => ?_)
    have hP : va_P D vwCl [(q_this, .inr (2, [.int (ways_ &&& ((u2 ||| u7) ^^^ (-1))), v_this_starts, v_this_homes, v_this_hours, v_this_froms, v_this_tos, v_this_bands]))] H := hP
    have hD : va_D A [(q_this, .inr (2, [.int (ways_ &&& ((u2 ||| u7) ^^^ (-1))), v_this_starts, v_this_homes, v_this_hours, v_this_froms, v_this_tos, v_this_bands]))] := hD
    have er := q_inj h
    subst er
    exact hret _ _ _ _ (hP.sub [0] rfl) (hD.sub [0] rfl rfl) hS dX2_setWay_40
  · replace h := q_f c1 h
    refine lv_aload_n hx hb dX2_setWay_18 rfl (lv_at hl 1 rfl) ?_
    refine va_get (D := D) (ci := 2) (C := RX2) (T := TX2) (N := 7) hx hb hts iw_X2_setWay_X2 hown hK hP 0 rfl rfl 0 (by decide) (hts _ lk_X2_setWay_0) (fun _ h9 => h9) rfl dX2_setWay_19 ?_
    refine lv_iload hx hb dX2_setWay_22 (lv_at hl 0 rfl) ?_
    refine lv_ior hx hb dX2_setWay_24 ?_
    refine lv_goto (tgt := 37) hx hb dX2_setWay_25 (by decide) ?_
    refine va_put (D := D) (ci := 2) (v := .int (ways_ ||| (u2 ||| u7))) (ty := .int) (C := RX2) (T := TX2) (N := 7) hx hb hts iw_X2_setWay_X2 tyX2 tyX2_ok nmX2 hown hK hP hD hS 0 rfl rfl 0 (by decide) (hts _ lk_X2_setWay_0) (fun _ h9 => h9) rfl (by decide +kernel) rfl rfl (Nat.le_of_ble_eq_true rfl) dX2_setWay_37 (fun H locs hP hD hS => ?_)
    have hP : va_P D vwCl [(q_this, .inr (2, [.int (ways_ ||| (u2 ||| u7)), v_this_starts, v_this_homes, v_this_hours, v_this_froms, v_this_tos, v_this_bands]))] H := hP
    have hD : va_D A [(q_this, .inr (2, [.int (ways_ ||| (u2 ||| u7)), v_this_starts, v_this_homes, v_this_hours, v_this_froms, v_this_tos, v_this_bands]))] := hD
    have er := q_inj h
    subst er
    exact hret _ _ _ _ (hP.sub [0] rfl) (hD.sub [0] rfl rfl) hS dX2_setWay_40
abbrev rm_X9_way : Room := { frames := 3, cells := 0, slots := 0, locals := 64 }
theorem lk_X9_way_0 : Cond.fieldLink RX9 10 "OnlyPrimes" "now" "LOnlyPrimes$Kept;" ∈ wsX9_way := List.mem_of_getElem? (i := 1) (by decide +kernel)
theorem iw_X9_way_X9 : ∀ w ∈ wsX90, w ∈ wsX9_way := by decide +kernel
theorem lk_X9_way_1 : Cond.fieldLink RX9 93 "OnlyPrimes$Kept" "land" "LOnlyPrimes$Land;" ∈ wsX9_way := List.mem_of_getElem? (i := 2) (by decide +kernel)
theorem iw_X9_way_X1 : ∀ w ∈ wsX10, w ∈ wsX9_way := by decide +kernel
theorem nd_X9_way : yX9_way.cls ≠ "java/lang/invoke/MethodHandle" ∧ yX9_way.cls ≠ "java/lang/invoke/VarHandle" ∧ (parseMethodDescriptor yX9_way.desc).map (fun d => d.parameters.length) = some 3 := by decide +kernel
theorem vd_X9_way : yX9_way.cls = RX9 ∧ yX9_way.cls ≠ "java/lang/invoke/MethodHandle" ∧ yX9_way.cls ≠ "java/lang/invoke/VarHandle" ∧ (parseMethodDescriptor yX9_way.desc).map (fun d => d.parameters.length) = some 3 := by decide +kernel
set_option maxHeartbeats 4000000 in
set_option maxRecDepth 100000 in
theorem c_X9_way (l : Launch) (D : va_G) (E : q_En) (kI kB kQ : ClassId) (q_this : Nat) (q_this_now : Nat) (q_this_now_land : Nat) (q_this_refused : Nat) (v_this_images : Value) (v_this_reader : Value) (v_this_judge : Value) (v_this_rows : Value) (v_this_sets : Value) (v_this_walk : Value) (v_this_seats : Value) (v_this_now_text : Value) (v_this_now_knots : Value) (v_this_now_countedKnots : Value) (v_this_now_countedSizes : Value) (v_this_now_lasts : Value) (v_this_now_companies : Value) (v_this_now_land_starts : Value) (v_this_now_land_homes : Value) (v_this_now_land_hours : Value) (v_this_now_land_froms : Value) (v_this_now_land_tos : Value) (v_this_now_land_bands : Value) (imagesKept_ : Int32) (above_ : Int32) (below_ : Int32) (now_set_ : Int32) (now_room_ : Int32) (now_crew_ : Int32) (now_land_ways_ : Int32) (refused_ : Nat → Int32) (x1 : Int32) (x2 : Int32) (x3 : Int32) (N : Nat) (r : Int32 × Int32 × (Nat → Int32)) (hf : g_X9_way now_land_ways_ refused_ x1 x2 x3 = some r) : CtI l D E yX9_way wsX9_way rm_X9_way (q_tys kI kB kQ) [.ref q_this, .int x1, .int x2, .int x3] [(q_this, .inr (9, [.ref q_this_now, v_this_images, .int imagesKept_, .ref q_this_refused, .int above_, .int below_, v_this_reader, v_this_judge, v_this_rows, v_this_sets, v_this_walk, v_this_seats])), (q_this_now, .inr (1, [.int now_set_, .int now_room_, .int now_crew_, .ref q_this_now_land, v_this_now_text, v_this_now_knots, v_this_now_countedKnots, v_this_now_countedSizes, v_this_now_lasts, v_this_now_companies])), (q_this_now_land, .inr (2, [.int now_land_ways_, v_this_now_land_starts, v_this_now_land_homes, v_this_now_land_hours, v_this_now_land_froms, v_this_now_land_tos, v_this_now_land_bands])), (q_this_refused, .inl (kI, 3, .inl refused_))] [(q_this, .inr (9, [.ref q_this_now, v_this_images, .int imagesKept_, .ref q_this_refused, .int above_, .int below_, v_this_reader, v_this_judge, v_this_rows, v_this_sets, v_this_walk, v_this_seats])), (q_this_now, .inr (1, [.int now_set_, .int now_room_, .int now_crew_, .ref q_this_now_land, v_this_now_text, v_this_now_knots, v_this_now_countedKnots, v_this_now_countedSizes, v_this_now_lasts, v_this_now_companies])), (q_this_now_land, .inr (2, [.int r.2.1, v_this_now_land_starts, v_this_now_land_homes, v_this_now_land_hours, v_this_now_land_froms, v_this_now_land_tos, v_this_now_land_bands])), (q_this_refused, .inl (kI, 3, .inl r.2.2))] r.1 := by
  refine q_enterI cX9_way 4 RX9 (by decide) rfl (Nat.le_of_ble_eq_true rfl) rfl ?_
  intro p e s m args below meth c Q A ls H hx hb hml hown hts hK hN hE hA hP hS hD hl hret
  have hl : lv_has ls 4 [(0, .ref q_this), (1, .int x1), (2, .int x2), (3, .int x3)] := hl
  have h := hf
  rw [g_X9_way] at h
  refine lv_iload_n hx hb dX9_way_0 rfl (lv_at hl 1 rfl) ?_
  obtain ⟨u1, hu1, h⟩ := q_b h
  refine q_aI (va_runS (As := [.int x1]) (rest := []) ⟨hx, hb, hml, hown, hts⟩ (c_X9_isCorner l D E kI kB kQ x1 N u1 hu1 H.size) (va_cwS 1 hts gX9_way_X9_isCorner rfl rfl rfl nd_X9_isCorner ⟨Nat.le_of_ble_eq_true rfl, Nat.le_of_ble_eq_true rfl⟩) (q_ps hK hN hE hS hA hP hD [] rfl rfl rfl) rfl rfl hl.1 rfl (lv_room (Nat.le_of_ble_eq_true rfl)) dX9_way_1 ⟨Nat.zero_le _, Nat.zero_le _⟩) hP hD hS hA [] [0, 1, 2, 3] (Wr := [(q_this, .inr (9, [.ref q_this_now, v_this_images, .int imagesKept_, .ref q_this_refused, .int above_, .int below_, v_this_reader, v_this_judge, v_this_rows, v_this_sets, v_this_walk, v_this_seats])), (q_this_now, .inr (1, [.int now_set_, .int now_room_, .int now_crew_, .ref q_this_now_land, v_this_now_text, v_this_now_knots, v_this_now_countedKnots, v_this_now_countedSizes, v_this_now_lasts, v_this_now_companies])), (q_this_now_land, .inr (2, [.int now_land_ways_, v_this_now_land_starts, v_this_now_land_homes, v_this_now_land_hours, v_this_now_land_froms, v_this_now_land_tos, v_this_now_land_bands])), (q_this_refused, .inl (kI, 3, .inl refused_))]) rfl rfl rfl (by decide) (fun H locs hP hD hS => ?_)
  have hP : va_P D vwCl [(q_this, .inr (9, [.ref q_this_now, v_this_images, .int imagesKept_, .ref q_this_refused, .int above_, .int below_, v_this_reader, v_this_judge, v_this_rows, v_this_sets, v_this_walk, v_this_seats])), (q_this_now, .inr (1, [.int now_set_, .int now_room_, .int now_crew_, .ref q_this_now_land, v_this_now_text, v_this_now_knots, v_this_now_countedKnots, v_this_now_countedSizes, v_this_now_lasts, v_this_now_companies])), (q_this_now_land, .inr (2, [.int now_land_ways_, v_this_now_land_starts, v_this_now_land_homes, v_this_now_land_hours, v_this_now_land_froms, v_this_now_land_tos, v_this_now_land_bands])), (q_this_refused, .inl (kI, 3, .inl refused_))] H := hP
  have hD : va_D A [(q_this, .inr (9, [.ref q_this_now, v_this_images, .int imagesKept_, .ref q_this_refused, .int above_, .int below_, v_this_reader, v_this_judge, v_this_rows, v_this_sets, v_this_walk, v_this_seats])), (q_this_now, .inr (1, [.int now_set_, .int now_room_, .int now_crew_, .ref q_this_now_land, v_this_now_text, v_this_now_knots, v_this_now_countedKnots, v_this_now_countedSizes, v_this_now_lasts, v_this_now_companies])), (q_this_now_land, .inr (2, [.int now_land_ways_, v_this_now_land_starts, v_this_now_land_homes, v_this_now_land_hours, v_this_now_land_froms, v_this_now_land_tos, v_this_now_land_bands])), (q_this_refused, .inl (kI, 3, .inl refused_))] := hD
  refine lv_if_eq (tgt := 19) hx hb dX9_way_4 (by decide) (fun c1 => ?_) (fun c1 => ?_)
  · replace h := q_t c1 h
    refine lv_aload_n hx hb dX9_way_19 rfl (lv_at hl 0 rfl) ?_
    refine lv_bipush (v := (-2)) hx hb dX9_way_20 (by decide) ?_
    refine lv_bipush (v := (-2)) hx hb dX9_way_22 (by decide) ?_
    obtain ⟨u24, hu24, h⟩ := q_b h
    refine q_aI (va_runV (As := [.int (-2), .int (-2)]) (rest := []) ⟨hx, hb, hml, hown, hts⟩ (c_X9_refuse l D E kI kB kQ q_this q_this_refused (.ref q_this_now) v_this_images v_this_reader v_this_judge v_this_rows v_this_sets v_this_walk v_this_seats imagesKept_ above_ below_ refused_ (-2) (-2) N u24 hu24 H.size) (cwV 2 hts gX9_way_X9_refuse rfl rfl rfl vd_X9_refuse ⟨Nat.le_of_ble_eq_true rfl, Nat.le_of_ble_eq_true rfl⟩) (q_pv hK hN hE hS hA hP hD [0, 3] rfl rfl rfl 0 rfl (ci := 9) rfl) rfl rfl hl.1 rfl (lv_room (Nat.le_of_ble_eq_true rfl)) dX9_way_24 ⟨Nat.zero_le _, Nat.zero_le _⟩) hP hD hS hA [0, 3] [1, 2] (Wr := [(q_this_now, .inr (1, [.int now_set_, .int now_room_, .int now_crew_, .ref q_this_now_land, v_this_now_text, v_this_now_knots, v_this_now_countedKnots, v_this_now_countedSizes, v_this_now_lasts, v_this_now_companies])), (q_this_now_land, .inr (2, [.int now_land_ways_, v_this_now_land_starts, v_this_now_land_homes, v_this_now_land_hours, v_this_now_land_froms, v_this_now_land_tos, v_this_now_land_bands]))]) rfl rfl rfl (by decide) (fun H locs hP hD hS => ?_)
    have hP : va_P D vwCl [(q_this_now, .inr (1, [.int now_set_, .int now_room_, .int now_crew_, .ref q_this_now_land, v_this_now_text, v_this_now_knots, v_this_now_countedKnots, v_this_now_countedSizes, v_this_now_lasts, v_this_now_companies])), (q_this_now_land, .inr (2, [.int now_land_ways_, v_this_now_land_starts, v_this_now_land_homes, v_this_now_land_hours, v_this_now_land_froms, v_this_now_land_tos, v_this_now_land_bands])), (q_this, .inr (9, [.ref q_this_now, v_this_images, .int imagesKept_, .ref q_this_refused, .int above_, .int below_, v_this_reader, v_this_judge, v_this_rows, v_this_sets, v_this_walk, v_this_seats])), (q_this_refused, .inl (kI, 3, .inl u24.2))] H := hP
    have hD : va_D A [(q_this_now, .inr (1, [.int now_set_, .int now_room_, .int now_crew_, .ref q_this_now_land, v_this_now_text, v_this_now_knots, v_this_now_countedKnots, v_this_now_countedSizes, v_this_now_lasts, v_this_now_companies])), (q_this_now_land, .inr (2, [.int now_land_ways_, v_this_now_land_starts, v_this_now_land_homes, v_this_now_land_hours, v_this_now_land_froms, v_this_now_land_tos, v_this_now_land_bands])), (q_this, .inr (9, [.ref q_this_now, v_this_images, .int imagesKept_, .ref q_this_refused, .int above_, .int below_, v_this_reader, v_this_judge, v_this_rows, v_this_sets, v_this_walk, v_this_seats])), (q_this_refused, .inl (kI, 3, .inl u24.2))] := hD
    have er := q_inj h
    subst er
    exact hret _ _ _ _ (hP.sub [2, 0, 1, 3] rfl) (hD.sub [2, 0, 1, 3] rfl rfl) hS dX9_way_27
  · replace h := q_f c1 h
    refine lv_iload_n hx hb dX9_way_7 rfl (lv_at hl 2 rfl) ?_
    obtain ⟨u8, hu8, h⟩ := q_b h
    refine q_aI (va_runS (As := [.int x2]) (rest := []) ⟨hx, hb, hml, hown, hts⟩ (c_X9_isCorner l D E kI kB kQ x2 N u8 hu8 H.size) (va_cwS 1 hts gX9_way_X9_isCorner rfl rfl rfl nd_X9_isCorner ⟨Nat.le_of_ble_eq_true rfl, Nat.le_of_ble_eq_true rfl⟩) (q_ps hK hN hE hS hA hP hD [] rfl rfl rfl) rfl rfl hl.1 rfl (lv_room (Nat.le_of_ble_eq_true rfl)) dX9_way_8 ⟨Nat.zero_le _, Nat.zero_le _⟩) hP hD hS hA [] [0, 1, 2, 3] (Wr := [(q_this, .inr (9, [.ref q_this_now, v_this_images, .int imagesKept_, .ref q_this_refused, .int above_, .int below_, v_this_reader, v_this_judge, v_this_rows, v_this_sets, v_this_walk, v_this_seats])), (q_this_now, .inr (1, [.int now_set_, .int now_room_, .int now_crew_, .ref q_this_now_land, v_this_now_text, v_this_now_knots, v_this_now_countedKnots, v_this_now_countedSizes, v_this_now_lasts, v_this_now_companies])), (q_this_now_land, .inr (2, [.int now_land_ways_, v_this_now_land_starts, v_this_now_land_homes, v_this_now_land_hours, v_this_now_land_froms, v_this_now_land_tos, v_this_now_land_bands])), (q_this_refused, .inl (kI, 3, .inl refused_))]) rfl rfl rfl (by decide) (fun H locs hP hD hS => ?_)
    have hP : va_P D vwCl [(q_this, .inr (9, [.ref q_this_now, v_this_images, .int imagesKept_, .ref q_this_refused, .int above_, .int below_, v_this_reader, v_this_judge, v_this_rows, v_this_sets, v_this_walk, v_this_seats])), (q_this_now, .inr (1, [.int now_set_, .int now_room_, .int now_crew_, .ref q_this_now_land, v_this_now_text, v_this_now_knots, v_this_now_countedKnots, v_this_now_countedSizes, v_this_now_lasts, v_this_now_companies])), (q_this_now_land, .inr (2, [.int now_land_ways_, v_this_now_land_starts, v_this_now_land_homes, v_this_now_land_hours, v_this_now_land_froms, v_this_now_land_tos, v_this_now_land_bands])), (q_this_refused, .inl (kI, 3, .inl refused_))] H := hP
    have hD : va_D A [(q_this, .inr (9, [.ref q_this_now, v_this_images, .int imagesKept_, .ref q_this_refused, .int above_, .int below_, v_this_reader, v_this_judge, v_this_rows, v_this_sets, v_this_walk, v_this_seats])), (q_this_now, .inr (1, [.int now_set_, .int now_room_, .int now_crew_, .ref q_this_now_land, v_this_now_text, v_this_now_knots, v_this_now_countedKnots, v_this_now_countedSizes, v_this_now_lasts, v_this_now_companies])), (q_this_now_land, .inr (2, [.int now_land_ways_, v_this_now_land_starts, v_this_now_land_homes, v_this_now_land_hours, v_this_now_land_froms, v_this_now_land_tos, v_this_now_land_bands])), (q_this_refused, .inl (kI, 3, .inl refused_))] := hD
    refine lv_if_eq (tgt := 19) hx hb dX9_way_11 (by decide) (fun c2 => ?_) (fun c2 => ?_)
    · replace h := q_t c2 h
      refine lv_aload_n hx hb dX9_way_19 rfl (lv_at hl 0 rfl) ?_
      refine lv_bipush (v := (-2)) hx hb dX9_way_20 (by decide) ?_
      refine lv_bipush (v := (-2)) hx hb dX9_way_22 (by decide) ?_
      obtain ⟨u24, hu24, h⟩ := q_b h
      refine q_aI (va_runV (As := [.int (-2), .int (-2)]) (rest := []) ⟨hx, hb, hml, hown, hts⟩ (c_X9_refuse l D E kI kB kQ q_this q_this_refused (.ref q_this_now) v_this_images v_this_reader v_this_judge v_this_rows v_this_sets v_this_walk v_this_seats imagesKept_ above_ below_ refused_ (-2) (-2) N u24 hu24 H.size) (cwV 2 hts gX9_way_X9_refuse rfl rfl rfl vd_X9_refuse ⟨Nat.le_of_ble_eq_true rfl, Nat.le_of_ble_eq_true rfl⟩) (q_pv hK hN hE hS hA hP hD [0, 3] rfl rfl rfl 0 rfl (ci := 9) rfl) rfl rfl hl.1 rfl (lv_room (Nat.le_of_ble_eq_true rfl)) dX9_way_24 ⟨Nat.zero_le _, Nat.zero_le _⟩) hP hD hS hA [0, 3] [1, 2] (Wr := [(q_this_now, .inr (1, [.int now_set_, .int now_room_, .int now_crew_, .ref q_this_now_land, v_this_now_text, v_this_now_knots, v_this_now_countedKnots, v_this_now_countedSizes, v_this_now_lasts, v_this_now_companies])), (q_this_now_land, .inr (2, [.int now_land_ways_, v_this_now_land_starts, v_this_now_land_homes, v_this_now_land_hours, v_this_now_land_froms, v_this_now_land_tos, v_this_now_land_bands]))]) rfl rfl rfl (by decide) (fun H locs hP hD hS => ?_)
      have hP : va_P D vwCl [(q_this_now, .inr (1, [.int now_set_, .int now_room_, .int now_crew_, .ref q_this_now_land, v_this_now_text, v_this_now_knots, v_this_now_countedKnots, v_this_now_countedSizes, v_this_now_lasts, v_this_now_companies])), (q_this_now_land, .inr (2, [.int now_land_ways_, v_this_now_land_starts, v_this_now_land_homes, v_this_now_land_hours, v_this_now_land_froms, v_this_now_land_tos, v_this_now_land_bands])), (q_this, .inr (9, [.ref q_this_now, v_this_images, .int imagesKept_, .ref q_this_refused, .int above_, .int below_, v_this_reader, v_this_judge, v_this_rows, v_this_sets, v_this_walk, v_this_seats])), (q_this_refused, .inl (kI, 3, .inl u24.2))] H := hP
      have hD : va_D A [(q_this_now, .inr (1, [.int now_set_, .int now_room_, .int now_crew_, .ref q_this_now_land, v_this_now_text, v_this_now_knots, v_this_now_countedKnots, v_this_now_countedSizes, v_this_now_lasts, v_this_now_companies])), (q_this_now_land, .inr (2, [.int now_land_ways_, v_this_now_land_starts, v_this_now_land_homes, v_this_now_land_hours, v_this_now_land_froms, v_this_now_land_tos, v_this_now_land_bands])), (q_this, .inr (9, [.ref q_this_now, v_this_images, .int imagesKept_, .ref q_this_refused, .int above_, .int below_, v_this_reader, v_this_judge, v_this_rows, v_this_sets, v_this_walk, v_this_seats])), (q_this_refused, .inl (kI, 3, .inl u24.2))] := hD
      have er := q_inj h
      subst er
      exact hret _ _ _ _ (hP.sub [2, 0, 1, 3] rfl) (hD.sub [2, 0, 1, 3] rfl rfl) hS dX9_way_27
    · replace h := q_f c2 h
      refine lv_iload_n hx hb dX9_way_14 rfl (lv_at hl 1 rfl) ?_
      refine lv_iload_n hx hb dX9_way_15 rfl (lv_at hl 2 rfl) ?_
      refine lv_icmp_ne (tgt := 28) hx hb dX9_way_16 (by decide) (fun c3 => ?_) (fun c3 => ?_)
      · replace h := q_f c3 h
        refine lv_aload_n hx hb dX9_way_28 rfl (lv_at hl 0 rfl) ?_
        refine va_get (D := D) (ci := 9) (C := RX9) (T := TX9) (N := 12) hx hb hts iw_X9_way_X9 hown hK hP 0 rfl rfl 0 (by decide) (hts _ lk_X9_way_0) (fun _ h9 => h9) rfl dX9_way_29 ?_
        refine va_get (D := D) (ci := 1) (C := RX1) (T := TX1) (N := 10) hx hb hts iw_X9_way_X1 hown hK hP 1 rfl rfl 3 (by decide) (hts _ lk_X9_way_1) (fun _ h9 => h9) rfl dX9_way_32 ?_
        refine lv_iload_n hx hb dX9_way_35 rfl (lv_at hl 1 rfl) ?_
        refine lv_iload_n hx hb dX9_way_36 rfl (lv_at hl 2 rfl) ?_
        obtain ⟨u37, hu37, h⟩ := q_b h
        refine q_aI (va_runV (As := [.int x1, .int x2]) (rest := []) ⟨hx, hb, hml, hown, hts⟩ (c_X2_hasWay l D E kI kB kQ q_this_now_land v_this_now_land_starts v_this_now_land_homes v_this_now_land_hours v_this_now_land_froms v_this_now_land_tos v_this_now_land_bands now_land_ways_ x1 x2 N u37 hu37 H.size) (cwV 2 hts gX9_way_X2_hasWay rfl rfl rfl vd_X2_hasWay ⟨Nat.le_of_ble_eq_true rfl, Nat.le_of_ble_eq_true rfl⟩) (q_pv hK hN hE hS hA hP hD [2] rfl rfl rfl 2 rfl (ci := 2) rfl) rfl rfl hl.1 rfl (lv_room (Nat.le_of_ble_eq_true rfl)) dX9_way_37 ⟨Nat.zero_le _, Nat.zero_le _⟩) hP hD hS hA [2] [0, 1, 3] (Wr := [(q_this, .inr (9, [.ref q_this_now, v_this_images, .int imagesKept_, .ref q_this_refused, .int above_, .int below_, v_this_reader, v_this_judge, v_this_rows, v_this_sets, v_this_walk, v_this_seats])), (q_this_now, .inr (1, [.int now_set_, .int now_room_, .int now_crew_, .ref q_this_now_land, v_this_now_text, v_this_now_knots, v_this_now_countedKnots, v_this_now_countedSizes, v_this_now_lasts, v_this_now_companies])), (q_this_refused, .inl (kI, 3, .inl refused_))]) rfl rfl rfl (by decide) (fun H locs hP hD hS => ?_)
        have hP : va_P D vwCl [(q_this, .inr (9, [.ref q_this_now, v_this_images, .int imagesKept_, .ref q_this_refused, .int above_, .int below_, v_this_reader, v_this_judge, v_this_rows, v_this_sets, v_this_walk, v_this_seats])), (q_this_now, .inr (1, [.int now_set_, .int now_room_, .int now_crew_, .ref q_this_now_land, v_this_now_text, v_this_now_knots, v_this_now_countedKnots, v_this_now_countedSizes, v_this_now_lasts, v_this_now_companies])), (q_this_refused, .inl (kI, 3, .inl refused_)), (q_this_now_land, .inr (2, [.int now_land_ways_, v_this_now_land_starts, v_this_now_land_homes, v_this_now_land_hours, v_this_now_land_froms, v_this_now_land_tos, v_this_now_land_bands]))] H := hP
        have hD : va_D A [(q_this, .inr (9, [.ref q_this_now, v_this_images, .int imagesKept_, .ref q_this_refused, .int above_, .int below_, v_this_reader, v_this_judge, v_this_rows, v_this_sets, v_this_walk, v_this_seats])), (q_this_now, .inr (1, [.int now_set_, .int now_room_, .int now_crew_, .ref q_this_now_land, v_this_now_text, v_this_now_knots, v_this_now_countedKnots, v_this_now_countedSizes, v_this_now_lasts, v_this_now_companies])), (q_this_refused, .inl (kI, 3, .inl refused_)), (q_this_now_land, .inr (2, [.int now_land_ways_, v_this_now_land_starts, v_this_now_land_homes, v_this_now_land_hours, v_this_now_land_froms, v_this_now_land_tos, v_this_now_land_bands]))] := hD
        refine lv_iload_n hx hb dX9_way_40 rfl (lv_at hl 3 rfl) ?_
        refine lv_icmp_ne (tgt := 53) hx hb dX9_way_41 (by decide) (fun c4 => ?_) (fun c4 => ?_)
        · replace h := q_f c4 h
          refine lv_aload_n hx hb dX9_way_53 rfl (lv_at hl 0 rfl) ?_
          refine va_get (D := D) (ci := 9) (C := RX9) (T := TX9) (N := 12) hx hb hts iw_X9_way_X9 hown hK hP 0 rfl rfl 0 (by decide) (hts _ lk_X9_way_0) (fun _ h9 => h9) rfl dX9_way_54 ?_
          refine va_get (D := D) (ci := 1) (C := RX1) (T := TX1) (N := 10) hx hb hts iw_X9_way_X1 hown hK hP 1 rfl rfl 3 (by decide) (hts _ lk_X9_way_1) (fun _ h9 => h9) rfl dX9_way_57 ?_
          refine lv_iload_n hx hb dX9_way_60 rfl (lv_at hl 1 rfl) ?_
          refine lv_iload_n hx hb dX9_way_61 rfl (lv_at hl 2 rfl) ?_
          refine lv_iload_n hx hb dX9_way_62 rfl (lv_at hl 3 rfl) ?_
          obtain ⟨u63, hu63, h⟩ := q_b h
          refine q_aV (va_runV (As := [.int x1, .int x2, .int x3]) (rest := []) ⟨hx, hb, hml, hown, hts⟩ (c_X2_setWay l D E kI kB kQ q_this_now_land v_this_now_land_starts v_this_now_land_homes v_this_now_land_hours v_this_now_land_froms v_this_now_land_tos v_this_now_land_bands now_land_ways_ x1 x2 x3 N u63 hu63 H.size) (cwV 3 hts gX9_way_X2_setWay rfl rfl rfl vd_X2_setWay ⟨Nat.le_of_ble_eq_true rfl, Nat.le_of_ble_eq_true rfl⟩) (q_pv hK hN hE hS hA hP hD [3] rfl rfl rfl 3 rfl (ci := 2) rfl) rfl rfl hl.1 rfl (lv_room (Nat.le_of_ble_eq_true rfl)) dX9_way_63 ⟨Nat.zero_le _, Nat.zero_le _⟩) hP hD hS hA [3] [0, 1, 2] (Wr := [(q_this, .inr (9, [.ref q_this_now, v_this_images, .int imagesKept_, .ref q_this_refused, .int above_, .int below_, v_this_reader, v_this_judge, v_this_rows, v_this_sets, v_this_walk, v_this_seats])), (q_this_now, .inr (1, [.int now_set_, .int now_room_, .int now_crew_, .ref q_this_now_land, v_this_now_text, v_this_now_knots, v_this_now_countedKnots, v_this_now_countedSizes, v_this_now_lasts, v_this_now_companies])), (q_this_refused, .inl (kI, 3, .inl refused_))]) rfl rfl rfl (by decide) (fun H locs hP hD hS => ?_)
          have hP : va_P D vwCl [(q_this, .inr (9, [.ref q_this_now, v_this_images, .int imagesKept_, .ref q_this_refused, .int above_, .int below_, v_this_reader, v_this_judge, v_this_rows, v_this_sets, v_this_walk, v_this_seats])), (q_this_now, .inr (1, [.int now_set_, .int now_room_, .int now_crew_, .ref q_this_now_land, v_this_now_text, v_this_now_knots, v_this_now_countedKnots, v_this_now_countedSizes, v_this_now_lasts, v_this_now_companies])), (q_this_refused, .inl (kI, 3, .inl refused_)), (q_this_now_land, .inr (2, [.int u63, v_this_now_land_starts, v_this_now_land_homes, v_this_now_land_hours, v_this_now_land_froms, v_this_now_land_tos, v_this_now_land_bands]))] H := hP
          have hD : va_D A [(q_this, .inr (9, [.ref q_this_now, v_this_images, .int imagesKept_, .ref q_this_refused, .int above_, .int below_, v_this_reader, v_this_judge, v_this_rows, v_this_sets, v_this_walk, v_this_seats])), (q_this_now, .inr (1, [.int now_set_, .int now_room_, .int now_crew_, .ref q_this_now_land, v_this_now_text, v_this_now_knots, v_this_now_countedKnots, v_this_now_countedSizes, v_this_now_lasts, v_this_now_companies])), (q_this_refused, .inl (kI, 3, .inl refused_)), (q_this_now_land, .inr (2, [.int u63, v_this_now_land_starts, v_this_now_land_homes, v_this_now_land_hours, v_this_now_land_froms, v_this_now_land_tos, v_this_now_land_bands]))] := hD
          refine lv_iconst (v := 1) hx hb dX9_way_66 (by decide) ?_
          have er := q_inj h
          subst er
          exact hret _ _ _ _ (hP.sub [0, 1, 3, 2] rfl) (hD.sub [0, 1, 3, 2] rfl rfl) hS dX9_way_67
        · replace h := q_t c4 h
          refine lv_aload_n hx hb dX9_way_44 rfl (lv_at hl 0 rfl) ?_
          refine lv_bipush (v := (-3)) hx hb dX9_way_45 (by decide) ?_
          refine lv_bipush (v := (-3)) hx hb dX9_way_47 (by decide) ?_
          obtain ⟨u49, hu49, h⟩ := q_b h
          refine q_aI (va_runV (As := [.int (-3), .int (-3)]) (rest := []) ⟨hx, hb, hml, hown, hts⟩ (c_X9_refuse l D E kI kB kQ q_this q_this_refused (.ref q_this_now) v_this_images v_this_reader v_this_judge v_this_rows v_this_sets v_this_walk v_this_seats imagesKept_ above_ below_ refused_ (-3) (-3) N u49 hu49 H.size) (cwV 2 hts gX9_way_X9_refuse rfl rfl rfl vd_X9_refuse ⟨Nat.le_of_ble_eq_true rfl, Nat.le_of_ble_eq_true rfl⟩) (q_pv hK hN hE hS hA hP hD [0, 2] rfl rfl rfl 0 rfl (ci := 9) rfl) rfl rfl hl.1 rfl (lv_room (Nat.le_of_ble_eq_true rfl)) dX9_way_49 ⟨Nat.zero_le _, Nat.zero_le _⟩) hP hD hS hA [0, 2] [1, 3] (Wr := [(q_this_now, .inr (1, [.int now_set_, .int now_room_, .int now_crew_, .ref q_this_now_land, v_this_now_text, v_this_now_knots, v_this_now_countedKnots, v_this_now_countedSizes, v_this_now_lasts, v_this_now_companies])), (q_this_now_land, .inr (2, [.int now_land_ways_, v_this_now_land_starts, v_this_now_land_homes, v_this_now_land_hours, v_this_now_land_froms, v_this_now_land_tos, v_this_now_land_bands]))]) rfl rfl rfl (by decide) (fun H locs hP hD hS => ?_)
          have hP : va_P D vwCl [(q_this_now, .inr (1, [.int now_set_, .int now_room_, .int now_crew_, .ref q_this_now_land, v_this_now_text, v_this_now_knots, v_this_now_countedKnots, v_this_now_countedSizes, v_this_now_lasts, v_this_now_companies])), (q_this_now_land, .inr (2, [.int now_land_ways_, v_this_now_land_starts, v_this_now_land_homes, v_this_now_land_hours, v_this_now_land_froms, v_this_now_land_tos, v_this_now_land_bands])), (q_this, .inr (9, [.ref q_this_now, v_this_images, .int imagesKept_, .ref q_this_refused, .int above_, .int below_, v_this_reader, v_this_judge, v_this_rows, v_this_sets, v_this_walk, v_this_seats])), (q_this_refused, .inl (kI, 3, .inl u49.2))] H := hP
          have hD : va_D A [(q_this_now, .inr (1, [.int now_set_, .int now_room_, .int now_crew_, .ref q_this_now_land, v_this_now_text, v_this_now_knots, v_this_now_countedKnots, v_this_now_countedSizes, v_this_now_lasts, v_this_now_companies])), (q_this_now_land, .inr (2, [.int now_land_ways_, v_this_now_land_starts, v_this_now_land_homes, v_this_now_land_hours, v_this_now_land_froms, v_this_now_land_tos, v_this_now_land_bands])), (q_this, .inr (9, [.ref q_this_now, v_this_images, .int imagesKept_, .ref q_this_refused, .int above_, .int below_, v_this_reader, v_this_judge, v_this_rows, v_this_sets, v_this_walk, v_this_seats])), (q_this_refused, .inl (kI, 3, .inl u49.2))] := hD
          have er := q_inj h
          subst er
          exact hret _ _ _ _ (hP.sub [2, 0, 1, 3] rfl) (hD.sub [2, 0, 1, 3] rfl rfl) hS dX9_way_52
      · replace h := q_t c3 h
        refine lv_aload_n hx hb dX9_way_19 rfl (lv_at hl 0 rfl) ?_
        refine lv_bipush (v := (-2)) hx hb dX9_way_20 (by decide) ?_
        refine lv_bipush (v := (-2)) hx hb dX9_way_22 (by decide) ?_
        obtain ⟨u24, hu24, h⟩ := q_b h
        refine q_aI (va_runV (As := [.int (-2), .int (-2)]) (rest := []) ⟨hx, hb, hml, hown, hts⟩ (c_X9_refuse l D E kI kB kQ q_this q_this_refused (.ref q_this_now) v_this_images v_this_reader v_this_judge v_this_rows v_this_sets v_this_walk v_this_seats imagesKept_ above_ below_ refused_ (-2) (-2) N u24 hu24 H.size) (cwV 2 hts gX9_way_X9_refuse rfl rfl rfl vd_X9_refuse ⟨Nat.le_of_ble_eq_true rfl, Nat.le_of_ble_eq_true rfl⟩) (q_pv hK hN hE hS hA hP hD [0, 3] rfl rfl rfl 0 rfl (ci := 9) rfl) rfl rfl hl.1 rfl (lv_room (Nat.le_of_ble_eq_true rfl)) dX9_way_24 ⟨Nat.zero_le _, Nat.zero_le _⟩) hP hD hS hA [0, 3] [1, 2] (Wr := [(q_this_now, .inr (1, [.int now_set_, .int now_room_, .int now_crew_, .ref q_this_now_land, v_this_now_text, v_this_now_knots, v_this_now_countedKnots, v_this_now_countedSizes, v_this_now_lasts, v_this_now_companies])), (q_this_now_land, .inr (2, [.int now_land_ways_, v_this_now_land_starts, v_this_now_land_homes, v_this_now_land_hours, v_this_now_land_froms, v_this_now_land_tos, v_this_now_land_bands]))]) rfl rfl rfl (by decide) (fun H locs hP hD hS => ?_)
        have hP : va_P D vwCl [(q_this_now, .inr (1, [.int now_set_, .int now_room_, .int now_crew_, .ref q_this_now_land, v_this_now_text, v_this_now_knots, v_this_now_countedKnots, v_this_now_countedSizes, v_this_now_lasts, v_this_now_companies])), (q_this_now_land, .inr (2, [.int now_land_ways_, v_this_now_land_starts, v_this_now_land_homes, v_this_now_land_hours, v_this_now_land_froms, v_this_now_land_tos, v_this_now_land_bands])), (q_this, .inr (9, [.ref q_this_now, v_this_images, .int imagesKept_, .ref q_this_refused, .int above_, .int below_, v_this_reader, v_this_judge, v_this_rows, v_this_sets, v_this_walk, v_this_seats])), (q_this_refused, .inl (kI, 3, .inl u24.2))] H := hP
        have hD : va_D A [(q_this_now, .inr (1, [.int now_set_, .int now_room_, .int now_crew_, .ref q_this_now_land, v_this_now_text, v_this_now_knots, v_this_now_countedKnots, v_this_now_countedSizes, v_this_now_lasts, v_this_now_companies])), (q_this_now_land, .inr (2, [.int now_land_ways_, v_this_now_land_starts, v_this_now_land_homes, v_this_now_land_hours, v_this_now_land_froms, v_this_now_land_tos, v_this_now_land_bands])), (q_this, .inr (9, [.ref q_this_now, v_this_images, .int imagesKept_, .ref q_this_refused, .int above_, .int below_, v_this_reader, v_this_judge, v_this_rows, v_this_sets, v_this_walk, v_this_seats])), (q_this_refused, .inl (kI, 3, .inl u24.2))] := hD
        have er := q_inj h
        subst er
        exact hret _ _ _ _ (hP.sub [2, 0, 1, 3] rfl) (hD.sub [2, 0, 1, 3] rfl rfl) hS dX9_way_27
abbrev rm_X7_isFull : Room := { frames := 0, cells := 0, slots := 0, locals := 0 }
theorem lk_X7_isFull_0 : Cond.fieldLink RX7 19 "OnlyPrimes$Slots" "size" "I" ∈ wsX7_isFull := List.mem_of_getElem? (i := 1) (by decide +kernel)
theorem iw_X7_isFull_X7 : ∀ w ∈ wsX70, w ∈ wsX7_isFull := by decide +kernel
theorem lk_X7_isFull_1 : Cond.fieldLink RX7 13 "OnlyPrimes$Slots" "values" "[I" ∈ wsX7_isFull := List.mem_of_getElem? (i := 2) (by decide +kernel)
theorem nd_X7_isFull : yX7_isFull.cls ≠ "java/lang/invoke/MethodHandle" ∧ yX7_isFull.cls ≠ "java/lang/invoke/VarHandle" ∧ (parseMethodDescriptor yX7_isFull.desc).map (fun d => d.parameters.length) = some 0 := by decide +kernel
theorem vd_X7_isFull : yX7_isFull.cls = RX7 ∧ yX7_isFull.cls ≠ "java/lang/invoke/MethodHandle" ∧ yX7_isFull.cls ≠ "java/lang/invoke/VarHandle" ∧ (parseMethodDescriptor yX7_isFull.desc).map (fun d => d.parameters.length) = some 0 := by decide +kernel
set_option maxHeartbeats 4000000 in
set_option maxRecDepth 100000 in
theorem c_X7_isFull (l : Launch) (D : va_G) (E : q_En) (kI kB kQ : ClassId) (q_this : Nat) (q_this_values : Nat) (n_this : Nat) (size_ : Int32) (values_ : Nat → Int32) (N : Nat) (r : Int32) (hf : g_X7_isFull n_this size_ = some r) : CtI l D E yX7_isFull wsX7_isFull rm_X7_isFull (q_tys kI kB kQ) [.ref q_this] [(q_this, .inr (7, [.ref q_this_values, .int size_])), (q_this_values, .inl (kI, n_this, .inl values_))] [(q_this, .inr (7, [.ref q_this_values, .int size_])), (q_this_values, .inl (kI, n_this, .inl values_))] r := by
  refine q_enterZ cX7_isFull 1 RX7 (by decide) rfl (Nat.le_of_ble_eq_true rfl) rfl ?_
  intro p e s m args below meth c Q A ls H hx hb hml hown hts hK hN hE hA hP hS hD hl hret
  have hl : lv_has ls 1 [(0, .ref q_this)] := hl
  have h := hf
  rw [g_X7_isFull] at h
  refine lv_aload_n hx hb dX7_isFull_0 rfl (lv_at hl 0 rfl) ?_
  refine va_get (D := D) (ci := 7) (C := RX7) (T := TX7) (N := 2) hx hb hts iw_X7_isFull_X7 hown hK hP 0 rfl rfl 1 (by decide) (hts _ lk_X7_isFull_0) (fun _ h9 => h9) rfl dX7_isFull_1 ?_
  refine lv_aload_n hx hb dX7_isFull_4 rfl (lv_at hl 0 rfl) ?_
  refine va_get (D := D) (ci := 7) (C := RX7) (T := TX7) (N := 2) hx hb hts iw_X7_isFull_X7 hown hK hP 0 rfl rfl 0 (by decide) (hts _ lk_X7_isFull_1) (fun _ h9 => h9) rfl dX7_isFull_5 ?_
  refine va_alen (ty := .int) (v := (nI n_this)) hx hb hK hP 1 0 rfl rfl rfl dX7_isFull_8 ?_
  refine lv_icmp_lt (tgt := 16) hx hb dX7_isFull_9 (by decide) (fun c1 => ?_) (fun c1 => ?_)
  · replace h := q_t c1 h
    refine lv_iconst (v := 0) hx hb dX7_isFull_16 (by decide) ?_
    have er := q_inj h
    subst er
    exact hret _ _ _ _ nar0 (hP.sub [0, 1] rfl) (hD.sub [0, 1] rfl rfl) hS dX7_isFull_17
  · replace h := q_f c1 h
    refine lv_iconst (v := 1) hx hb dX7_isFull_12 (by decide) ?_
    refine lv_goto (tgt := 17) hx hb dX7_isFull_13 (by decide) ?_
    have er := q_inj h
    subst er
    exact hret _ _ _ _ nar1 (hP.sub [0, 1] rfl) (hD.sub [0, 1] rfl rfl) hS dX7_isFull_17
abbrev rm_X7_add : Room := { frames := 0, cells := 0, slots := 0, locals := 0 }
theorem lk_X7_add_0 : Cond.fieldLink RX7 19 "OnlyPrimes$Slots" "size" "I" ∈ wsX7_add := List.mem_of_getElem? (i := 1) (by decide +kernel)
theorem iw_X7_add_X7 : ∀ w ∈ wsX70, w ∈ wsX7_add := by decide +kernel
theorem lk_X7_add_1 : Cond.fieldLink RX7 13 "OnlyPrimes$Slots" "values" "[I" ∈ wsX7_add := List.mem_of_getElem? (i := 2) (by decide +kernel)
theorem nd_X7_add : yX7_add.cls ≠ "java/lang/invoke/MethodHandle" ∧ yX7_add.cls ≠ "java/lang/invoke/VarHandle" ∧ (parseMethodDescriptor yX7_add.desc).map (fun d => d.parameters.length) = some 1 := by decide +kernel
theorem vd_X7_add : yX7_add.cls = RX7 ∧ yX7_add.cls ≠ "java/lang/invoke/MethodHandle" ∧ yX7_add.cls ≠ "java/lang/invoke/VarHandle" ∧ (parseMethodDescriptor yX7_add.desc).map (fun d => d.parameters.length) = some 1 := by decide +kernel
set_option maxHeartbeats 4000000 in
set_option maxRecDepth 100000 in
theorem c_X7_add (l : Launch) (D : va_G) (E : q_En) (kI kB kQ : ClassId) (q_this : Nat) (q_this_values : Nat) (n_this : Nat) (size_ : Int32) (values_ : Nat → Int32) (x1 : Int32) (N : Nat) (r : Int32 × (Nat → Int32)) (hf : g_X7_add n_this size_ values_ x1 = some r) : CtV l D E yX7_add wsX7_add rm_X7_add (q_tys kI kB kQ) [.ref q_this, .int x1] [(q_this, .inr (7, [.ref q_this_values, .int size_])), (q_this_values, .inl (kI, n_this, .inl values_))] [(q_this, .inr (7, [.ref q_this_values, .int r.1])), (q_this_values, .inl (kI, n_this, .inl r.2))] := by
  refine q_enterV cX7_add 2 RX7 (by decide) rfl (Nat.le_of_ble_eq_true rfl) rfl ?_
  intro p e s m args below meth c Q A ls H hx hb hml hown hts hK hN hE hA hP hS hD hl hret
  have hl : lv_has ls 2 [(0, .ref q_this), (1, .int x1)] := hl
  have h := hf
  rw [g_X7_add] at h
  refine lv_aload_n hx hb dX7_add_0 rfl (lv_at hl 0 rfl) ?_
  refine va_get (D := D) (ci := 7) (C := RX7) (T := TX7) (N := 2) hx hb hts iw_X7_add_X7 hown hK hP 0 rfl rfl 1 (by decide) (hts _ lk_X7_add_0) (fun _ h9 => h9) rfl dX7_add_1 ?_
  refine lv_aload_n hx hb dX7_add_4 rfl (lv_at hl 0 rfl) ?_
  refine va_get (D := D) (ci := 7) (C := RX7) (T := TX7) (N := 2) hx hb hts iw_X7_add_X7 hown hK hP 0 rfl rfl 0 (by decide) (hts _ lk_X7_add_1) (fun _ h9 => h9) rfl dX7_add_5 ?_
  refine va_alen (ty := .int) (v := (nI n_this)) hx hb hK hP 1 0 rfl rfl rfl dX7_add_8 ?_
  refine lv_icmp_ge (tgt := 32) hx hb dX7_add_9 (by decide) (fun c1 => ?_) (fun c1 => ?_)
  · replace h := q_t c1 h
    have er := q_inj h
    subst er
    exact hret _ _ _ _ (hP.sub [0, 1] rfl) (hD.sub [0, 1] rfl rfl) hS dX7_add_32
  · replace h := q_f c1 h
    refine lv_aload_n hx hb dX7_add_12 rfl (lv_at hl 0 rfl) ?_
    refine va_get (D := D) (ci := 7) (C := RX7) (T := TX7) (N := 2) hx hb hts iw_X7_add_X7 hown hK hP 0 rfl rfl 0 (by decide) (hts _ lk_X7_add_1) (fun _ h9 => h9) rfl dX7_add_13 ?_
    refine lv_aload_n hx hb dX7_add_16 rfl (lv_at hl 0 rfl) ?_
    refine va_get (D := D) (ci := 7) (C := RX7) (T := TX7) (N := 2) hx hb hts iw_X7_add_X7 hown hK hP 0 rfl rfl 1 (by decide) (hts _ lk_X7_add_0) (fun _ h9 => h9) rfl dX7_add_17 ?_
    refine lv_iload_n hx hb dX7_add_20 rfl (lv_at hl 1 rfl) ?_
    obtain ⟨hg2, h⟩ := q_g h
    refine va_iast hx hb hK hP hD hS 1 0 rfl rfl (inb_vp hg2) dX7_add_21 (fun H locs hP hD hS => ?_)
    have hP : va_P D vwCl [(q_this, .inr (7, [.ref q_this_values, .int size_])), (q_this_values, .inl (kI, n_this, .inl (upd values_ size_.toNatClampNeg x1)))] H := hP
    have hD : va_D A [(q_this, .inr (7, [.ref q_this_values, .int size_])), (q_this_values, .inl (kI, n_this, .inl (upd values_ size_.toNatClampNeg x1)))] := hD
    refine lv_aload_n hx hb dX7_add_22 rfl (lv_at hl 0 rfl) ?_
    refine lv_dup hx hb dX7_add_23 rfl ?_
    refine va_get (D := D) (ci := 7) (C := RX7) (T := TX7) (N := 2) hx hb hts iw_X7_add_X7 hown hK hP 0 rfl rfl 1 (by decide) (hts _ lk_X7_add_0) (fun _ h9 => h9) rfl dX7_add_24 ?_
    refine lv_iconst (v := 1) hx hb dX7_add_27 (by decide) ?_
    refine lv_iadd hx hb dX7_add_28 ?_
    refine va_put (D := D) (ci := 7) (v := .int (size_ + 1)) (ty := .int) (C := RX7) (T := TX7) (N := 2) hx hb hts iw_X7_add_X7 tyX7 tyX7_ok nmX7 hown hK hP hD hS 0 rfl rfl 1 (by decide) (hts _ lk_X7_add_0) (fun _ h9 => h9) rfl (by decide +kernel) rfl rfl (Nat.le_of_ble_eq_true rfl) dX7_add_29 (fun H locs hP hD hS => ?_)
    have hP : va_P D vwCl [(q_this, .inr (7, [.ref q_this_values, .int (size_ + 1)])), (q_this_values, .inl (kI, n_this, .inl (upd values_ size_.toNatClampNeg x1)))] H := hP
    have hD : va_D A [(q_this, .inr (7, [.ref q_this_values, .int (size_ + 1)])), (q_this_values, .inl (kI, n_this, .inl (upd values_ size_.toNatClampNeg x1)))] := hD
    have er := q_inj h
    subst er
    exact hret _ _ _ _ (hP.sub [0, 1] rfl) (hD.sub [0, 1] rfl rfl) hS dX7_add_32
abbrev rm_X2_addPerson : Room := { frames := 1, cells := 0, slots := 0, locals := 21 }
theorem lk_X2_addPerson_0 : Cond.fieldLink RX2 14 "OnlyPrimes$Land" "starts" "LOnlyPrimes$Slots;" ∈ wsX2_addPerson := List.mem_of_getElem? (i := 1) (by decide +kernel)
theorem iw_X2_addPerson_X2 : ∀ w ∈ wsX20, w ∈ wsX2_addPerson := by decide +kernel
theorem lk_X2_addPerson_1 : Cond.fieldLink RX2 20 "OnlyPrimes$Land" "homes" "LOnlyPrimes$Slots;" ∈ wsX2_addPerson := List.mem_of_getElem? (i := 2) (by decide +kernel)
theorem nd_X2_addPerson : yX2_addPerson.cls ≠ "java/lang/invoke/MethodHandle" ∧ yX2_addPerson.cls ≠ "java/lang/invoke/VarHandle" ∧ (parseMethodDescriptor yX2_addPerson.desc).map (fun d => d.parameters.length) = some 2 := by decide +kernel
theorem vd_X2_addPerson : yX2_addPerson.cls = RX2 ∧ yX2_addPerson.cls ≠ "java/lang/invoke/MethodHandle" ∧ yX2_addPerson.cls ≠ "java/lang/invoke/VarHandle" ∧ (parseMethodDescriptor yX2_addPerson.desc).map (fun d => d.parameters.length) = some 2 := by decide +kernel
set_option maxHeartbeats 4000000 in
set_option maxRecDepth 100000 in
theorem c_X2_addPerson (l : Launch) (D : va_G) (E : q_En) (kI kB kQ : ClassId) (q_this : Nat) (q_this_homes : Nat) (q_this_homes_values : Nat) (q_this_starts : Nat) (q_this_starts_values : Nat) (v_this_hours : Value) (v_this_froms : Value) (v_this_tos : Value) (v_this_bands : Value) (ways_ : Int32) (homes_size_ : Int32) (homes_values_ : Nat → Int32) (starts_size_ : Int32) (starts_values_ : Nat → Int32) (x1 : Int32) (x2 : Int32) (N : Nat) (r : Int32 × (Nat → Int32) × Int32 × (Nat → Int32)) (hf : g_X2_addPerson homes_size_ homes_values_ starts_size_ starts_values_ x1 x2 = some r) : CtV l D E yX2_addPerson wsX2_addPerson rm_X2_addPerson (q_tys kI kB kQ) [.ref q_this, .int x1, .int x2] [(q_this, .inr (2, [.int ways_, .ref q_this_starts, .ref q_this_homes, v_this_hours, v_this_froms, v_this_tos, v_this_bands])), (q_this_homes, .inr (7, [.ref q_this_homes_values, .int homes_size_])), (q_this_homes_values, .inl (kI, 5, .inl homes_values_)), (q_this_starts, .inr (7, [.ref q_this_starts_values, .int starts_size_])), (q_this_starts_values, .inl (kI, 5, .inl starts_values_))] [(q_this, .inr (2, [.int ways_, .ref q_this_starts, .ref q_this_homes, v_this_hours, v_this_froms, v_this_tos, v_this_bands])), (q_this_homes, .inr (7, [.ref q_this_homes_values, .int r.1])), (q_this_homes_values, .inl (kI, 5, .inl r.2.1)), (q_this_starts, .inr (7, [.ref q_this_starts_values, .int r.2.2.1])), (q_this_starts_values, .inl (kI, 5, .inl r.2.2.2))] := by
  refine q_enterV cX2_addPerson 3 RX2 (by decide) rfl (Nat.le_of_ble_eq_true rfl) rfl ?_
  intro p e s m args below meth c Q A ls H hx hb hml hown hts hK hN hE hA hP hS hD hl hret
  have hl : lv_has ls 3 [(0, .ref q_this), (1, .int x1), (2, .int x2)] := hl
  have h := hf
  rw [g_X2_addPerson] at h
  refine lv_aload_n hx hb dX2_addPerson_0 rfl (lv_at hl 0 rfl) ?_
  refine va_get (D := D) (ci := 2) (C := RX2) (T := TX2) (N := 7) hx hb hts iw_X2_addPerson_X2 hown hK hP 0 rfl rfl 1 (by decide) (hts _ lk_X2_addPerson_0) (fun _ h9 => h9) rfl dX2_addPerson_1 ?_
  refine lv_iload_n hx hb dX2_addPerson_4 rfl (lv_at hl 1 rfl) ?_
  obtain ⟨u5, hu5, h⟩ := q_b h
  refine q_aV (va_runV (As := [.int x1]) (rest := []) ⟨hx, hb, hml, hown, hts⟩ (c_X7_add l D E kI kB kQ q_this_starts q_this_starts_values 5 starts_size_ starts_values_ x1 N u5 hu5 H.size) (cwV 1 hts gX2_addPerson_X7_add rfl rfl rfl vd_X7_add ⟨Nat.le_of_ble_eq_true rfl, Nat.le_of_ble_eq_true rfl⟩) (q_pv hK hN hE hS hA hP hD [3, 4] rfl rfl rfl 3 rfl (ci := 7) rfl) rfl rfl hl.1 rfl (lv_room (Nat.le_of_ble_eq_true rfl)) dX2_addPerson_5 ⟨Nat.zero_le _, Nat.zero_le _⟩) hP hD hS hA [3, 4] [0, 1, 2] (Wr := [(q_this, .inr (2, [.int ways_, .ref q_this_starts, .ref q_this_homes, v_this_hours, v_this_froms, v_this_tos, v_this_bands])), (q_this_homes, .inr (7, [.ref q_this_homes_values, .int homes_size_])), (q_this_homes_values, .inl (kI, 5, .inl homes_values_))]) rfl rfl rfl (by decide) (fun H locs hP hD hS => ?_)
  have hP : va_P D vwCl [(q_this, .inr (2, [.int ways_, .ref q_this_starts, .ref q_this_homes, v_this_hours, v_this_froms, v_this_tos, v_this_bands])), (q_this_homes, .inr (7, [.ref q_this_homes_values, .int homes_size_])), (q_this_homes_values, .inl (kI, 5, .inl homes_values_)), (q_this_starts, .inr (7, [.ref q_this_starts_values, .int u5.1])), (q_this_starts_values, .inl (kI, 5, .inl u5.2))] H := hP
  have hD : va_D A [(q_this, .inr (2, [.int ways_, .ref q_this_starts, .ref q_this_homes, v_this_hours, v_this_froms, v_this_tos, v_this_bands])), (q_this_homes, .inr (7, [.ref q_this_homes_values, .int homes_size_])), (q_this_homes_values, .inl (kI, 5, .inl homes_values_)), (q_this_starts, .inr (7, [.ref q_this_starts_values, .int u5.1])), (q_this_starts_values, .inl (kI, 5, .inl u5.2))] := hD
  refine lv_aload_n hx hb dX2_addPerson_8 rfl (lv_at hl 0 rfl) ?_
  refine va_get (D := D) (ci := 2) (C := RX2) (T := TX2) (N := 7) hx hb hts iw_X2_addPerson_X2 hown hK hP 0 rfl rfl 2 (by decide) (hts _ lk_X2_addPerson_1) (fun _ h9 => h9) rfl dX2_addPerson_9 ?_
  refine lv_iload_n hx hb dX2_addPerson_12 rfl (lv_at hl 2 rfl) ?_
  obtain ⟨u13, hu13, h⟩ := q_b h
  refine q_aV (va_runV (As := [.int x2]) (rest := []) ⟨hx, hb, hml, hown, hts⟩ (c_X7_add l D E kI kB kQ q_this_homes q_this_homes_values 5 homes_size_ homes_values_ x2 N u13 hu13 H.size) (cwV 1 hts gX2_addPerson_X7_add rfl rfl rfl vd_X7_add ⟨Nat.le_of_ble_eq_true rfl, Nat.le_of_ble_eq_true rfl⟩) (q_pv hK hN hE hS hA hP hD [1, 2] rfl rfl rfl 1 rfl (ci := 7) rfl) rfl rfl hl.1 rfl (lv_room (Nat.le_of_ble_eq_true rfl)) dX2_addPerson_13 ⟨Nat.zero_le _, Nat.zero_le _⟩) hP hD hS hA [1, 2] [0, 3, 4] (Wr := [(q_this, .inr (2, [.int ways_, .ref q_this_starts, .ref q_this_homes, v_this_hours, v_this_froms, v_this_tos, v_this_bands])), (q_this_starts, .inr (7, [.ref q_this_starts_values, .int u5.1])), (q_this_starts_values, .inl (kI, 5, .inl u5.2))]) rfl rfl rfl (by decide) (fun H locs hP hD hS => ?_)
  have hP : va_P D vwCl [(q_this, .inr (2, [.int ways_, .ref q_this_starts, .ref q_this_homes, v_this_hours, v_this_froms, v_this_tos, v_this_bands])), (q_this_starts, .inr (7, [.ref q_this_starts_values, .int u5.1])), (q_this_starts_values, .inl (kI, 5, .inl u5.2)), (q_this_homes, .inr (7, [.ref q_this_homes_values, .int u13.1])), (q_this_homes_values, .inl (kI, 5, .inl u13.2))] H := hP
  have hD : va_D A [(q_this, .inr (2, [.int ways_, .ref q_this_starts, .ref q_this_homes, v_this_hours, v_this_froms, v_this_tos, v_this_bands])), (q_this_starts, .inr (7, [.ref q_this_starts_values, .int u5.1])), (q_this_starts_values, .inl (kI, 5, .inl u5.2)), (q_this_homes, .inr (7, [.ref q_this_homes_values, .int u13.1])), (q_this_homes_values, .inl (kI, 5, .inl u13.2))] := hD
  have er := q_inj h
  subst er
  exact hret _ _ _ _ (hP.sub [0, 3, 4, 1, 2] rfl) (hD.sub [0, 3, 4, 1, 2] rfl rfl) hS dX2_addPerson_16
abbrev rm_X7_size : Room := { frames := 0, cells := 0, slots := 0, locals := 0 }
theorem lk_X7_size_0 : Cond.fieldLink RX7 19 "OnlyPrimes$Slots" "size" "I" ∈ wsX7_size := List.mem_of_getElem? (i := 1) (by decide +kernel)
theorem iw_X7_size_X7 : ∀ w ∈ wsX70, w ∈ wsX7_size := by decide +kernel
theorem nd_X7_size : yX7_size.cls ≠ "java/lang/invoke/MethodHandle" ∧ yX7_size.cls ≠ "java/lang/invoke/VarHandle" ∧ (parseMethodDescriptor yX7_size.desc).map (fun d => d.parameters.length) = some 0 := by decide +kernel
theorem vd_X7_size : yX7_size.cls = RX7 ∧ yX7_size.cls ≠ "java/lang/invoke/MethodHandle" ∧ yX7_size.cls ≠ "java/lang/invoke/VarHandle" ∧ (parseMethodDescriptor yX7_size.desc).map (fun d => d.parameters.length) = some 0 := by decide +kernel
set_option maxHeartbeats 4000000 in
set_option maxRecDepth 100000 in
theorem c_X7_size (l : Launch) (D : va_G) (E : q_En) (kI kB kQ : ClassId) (q_this : Nat) (v_this_values : Value) (size_ : Int32) (N : Nat) (r : Int32) (hf : g_X7_size size_ = some r) : CtI l D E yX7_size wsX7_size rm_X7_size (q_tys kI kB kQ) [.ref q_this] [(q_this, .inr (7, [v_this_values, .int size_]))] [(q_this, .inr (7, [v_this_values, .int size_]))] r := by
  refine q_enterI cX7_size 1 RX7 (by decide) rfl (Nat.le_of_ble_eq_true rfl) rfl ?_
  intro p e s m args below meth c Q A ls H hx hb hml hown hts hK hN hE hA hP hS hD hl hret
  have hl : lv_has ls 1 [(0, .ref q_this)] := hl
  have h := hf
  rw [g_X7_size] at h
  refine lv_aload_n hx hb dX7_size_0 rfl (lv_at hl 0 rfl) ?_
  refine va_get (D := D) (ci := 7) (C := RX7) (T := TX7) (N := 2) hx hb hts iw_X7_size_X7 hown hK hP 0 rfl rfl 1 (by decide) (hts _ lk_X7_size_0) (fun _ h9 => h9) rfl dX7_size_1 ?_
  have er := q_inj h
  subst er
  exact hret _ _ _ _ (hP.sub [0] rfl) (hD.sub [0] rfl rfl) hS dX7_size_4
abbrev rm_X2_people : Room := { frames := 1, cells := 0, slots := 0, locals := 20 }
theorem lk_X2_people_0 : Cond.fieldLink RX2 14 "OnlyPrimes$Land" "starts" "LOnlyPrimes$Slots;" ∈ wsX2_people := List.mem_of_getElem? (i := 1) (by decide +kernel)
theorem iw_X2_people_X2 : ∀ w ∈ wsX20, w ∈ wsX2_people := by decide +kernel
theorem nd_X2_people : yX2_people.cls ≠ "java/lang/invoke/MethodHandle" ∧ yX2_people.cls ≠ "java/lang/invoke/VarHandle" ∧ (parseMethodDescriptor yX2_people.desc).map (fun d => d.parameters.length) = some 0 := by decide +kernel
theorem vd_X2_people : yX2_people.cls = RX2 ∧ yX2_people.cls ≠ "java/lang/invoke/MethodHandle" ∧ yX2_people.cls ≠ "java/lang/invoke/VarHandle" ∧ (parseMethodDescriptor yX2_people.desc).map (fun d => d.parameters.length) = some 0 := by decide +kernel
set_option maxHeartbeats 4000000 in
set_option maxRecDepth 100000 in
theorem c_X2_people (l : Launch) (D : va_G) (E : q_En) (kI kB kQ : ClassId) (q_this : Nat) (q_this_starts : Nat) (v_this_homes : Value) (v_this_hours : Value) (v_this_froms : Value) (v_this_tos : Value) (v_this_bands : Value) (v_this_starts_values : Value) (ways_ : Int32) (starts_size_ : Int32) (N : Nat) (r : Int32) (hf : g_X2_people starts_size_ = some r) : CtI l D E yX2_people wsX2_people rm_X2_people (q_tys kI kB kQ) [.ref q_this] [(q_this, .inr (2, [.int ways_, .ref q_this_starts, v_this_homes, v_this_hours, v_this_froms, v_this_tos, v_this_bands])), (q_this_starts, .inr (7, [v_this_starts_values, .int starts_size_]))] [(q_this, .inr (2, [.int ways_, .ref q_this_starts, v_this_homes, v_this_hours, v_this_froms, v_this_tos, v_this_bands])), (q_this_starts, .inr (7, [v_this_starts_values, .int starts_size_]))] r := by
  refine q_enterI cX2_people 1 RX2 (by decide) rfl (Nat.le_of_ble_eq_true rfl) rfl ?_
  intro p e s m args below meth c Q A ls H hx hb hml hown hts hK hN hE hA hP hS hD hl hret
  have hl : lv_has ls 1 [(0, .ref q_this)] := hl
  have h := hf
  rw [g_X2_people] at h
  refine lv_aload_n hx hb dX2_people_0 rfl (lv_at hl 0 rfl) ?_
  refine va_get (D := D) (ci := 2) (C := RX2) (T := TX2) (N := 7) hx hb hts iw_X2_people_X2 hown hK hP 0 rfl rfl 1 (by decide) (hts _ lk_X2_people_0) (fun _ h9 => h9) rfl dX2_people_1 ?_
  obtain ⟨u4, hu4, h⟩ := q_b h
  refine q_aI (va_runV (As := []) (rest := []) ⟨hx, hb, hml, hown, hts⟩ (c_X7_size l D E kI kB kQ q_this_starts v_this_starts_values starts_size_ N u4 hu4 H.size) (cwV 0 hts gX2_people_X7_size rfl rfl rfl vd_X7_size ⟨Nat.le_of_ble_eq_true rfl, Nat.le_of_ble_eq_true rfl⟩) (q_pv hK hN hE hS hA hP hD [1] rfl rfl rfl 1 rfl (ci := 7) rfl) rfl rfl hl.1 rfl (lv_room (Nat.le_of_ble_eq_true rfl)) dX2_people_4 ⟨Nat.zero_le _, Nat.zero_le _⟩) hP hD hS hA [1] [0] (Wr := [(q_this, .inr (2, [.int ways_, .ref q_this_starts, v_this_homes, v_this_hours, v_this_froms, v_this_tos, v_this_bands]))]) rfl rfl rfl (by decide) (fun H locs hP hD hS => ?_)
  have hP : va_P D vwCl [(q_this, .inr (2, [.int ways_, .ref q_this_starts, v_this_homes, v_this_hours, v_this_froms, v_this_tos, v_this_bands])), (q_this_starts, .inr (7, [v_this_starts_values, .int starts_size_]))] H := hP
  have hD : va_D A [(q_this, .inr (2, [.int ways_, .ref q_this_starts, v_this_homes, v_this_hours, v_this_froms, v_this_tos, v_this_bands])), (q_this_starts, .inr (7, [v_this_starts_values, .int starts_size_]))] := hD
  have er := q_inj h
  subst er
  exact hret _ _ _ _ (hP.sub [0, 1] rfl) (hD.sub [0, 1] rfl rfl) hS dX2_people_7
abbrev rm_X9_one : Room := { frames := 2, cells := 0, slots := 0, locals := 43 }
theorem lk_X9_one_0 : Cond.fieldLink RX9 10 "OnlyPrimes" "now" "LOnlyPrimes$Kept;" ∈ wsX9_one := List.mem_of_getElem? (i := 1) (by decide +kernel)
theorem iw_X9_one_X9 : ∀ w ∈ wsX90, w ∈ wsX9_one := by decide +kernel
theorem lk_X9_one_1 : Cond.fieldLink RX9 93 "OnlyPrimes$Kept" "land" "LOnlyPrimes$Land;" ∈ wsX9_one := List.mem_of_getElem? (i := 2) (by decide +kernel)
theorem iw_X9_one_X1 : ∀ w ∈ wsX10, w ∈ wsX9_one := by decide +kernel
theorem lk_X9_one_2 : Cond.fieldLink RX9 106 "OnlyPrimes$Land" "starts" "LOnlyPrimes$Slots;" ∈ wsX9_one := List.mem_of_getElem? (i := 3) (by decide +kernel)
theorem iw_X9_one_X2 : ∀ w ∈ wsX20, w ∈ wsX9_one := by decide +kernel
theorem nd_X9_one : yX9_one.cls ≠ "java/lang/invoke/MethodHandle" ∧ yX9_one.cls ≠ "java/lang/invoke/VarHandle" ∧ (parseMethodDescriptor yX9_one.desc).map (fun d => d.parameters.length) = some 2 := by decide +kernel
theorem vd_X9_one : yX9_one.cls = RX9 ∧ yX9_one.cls ≠ "java/lang/invoke/MethodHandle" ∧ yX9_one.cls ≠ "java/lang/invoke/VarHandle" ∧ (parseMethodDescriptor yX9_one.desc).map (fun d => d.parameters.length) = some 2 := by decide +kernel
set_option maxHeartbeats 4000000 in
set_option maxRecDepth 100000 in
theorem c_X9_one (l : Launch) (D : va_G) (E : q_En) (kI kB kQ : ClassId) (q_this : Nat) (q_this_now : Nat) (q_this_now_land : Nat) (q_this_now_land_homes : Nat) (q_this_now_land_homes_values : Nat) (q_this_now_land_starts : Nat) (q_this_now_land_starts_values : Nat) (q_this_refused : Nat) (v_this_images : Value) (v_this_reader : Value) (v_this_judge : Value) (v_this_rows : Value) (v_this_sets : Value) (v_this_walk : Value) (v_this_seats : Value) (v_this_now_text : Value) (v_this_now_knots : Value) (v_this_now_countedKnots : Value) (v_this_now_countedSizes : Value) (v_this_now_lasts : Value) (v_this_now_companies : Value) (v_this_now_land_hours : Value) (v_this_now_land_froms : Value) (v_this_now_land_tos : Value) (v_this_now_land_bands : Value) (imagesKept_ : Int32) (above_ : Int32) (below_ : Int32) (now_set_ : Int32) (now_room_ : Int32) (now_crew_ : Int32) (now_land_ways_ : Int32) (now_land_homes_size_ : Int32) (now_land_homes_values_ : Nat → Int32) (now_land_starts_size_ : Int32) (now_land_starts_values_ : Nat → Int32) (refused_ : Nat → Int32) (x1 : Int32) (x2 : Int32) (N : Nat) (r : Int32 × Int32 × (Nat → Int32) × Int32 × (Nat → Int32) × (Nat → Int32)) (hf : g_X9_one now_land_homes_size_ now_land_homes_values_ now_land_starts_size_ now_land_starts_values_ refused_ x1 x2 = some r) : CtI l D E yX9_one wsX9_one rm_X9_one (q_tys kI kB kQ) [.ref q_this, .int x1, .int x2] [(q_this, .inr (9, [.ref q_this_now, v_this_images, .int imagesKept_, .ref q_this_refused, .int above_, .int below_, v_this_reader, v_this_judge, v_this_rows, v_this_sets, v_this_walk, v_this_seats])), (q_this_now, .inr (1, [.int now_set_, .int now_room_, .int now_crew_, .ref q_this_now_land, v_this_now_text, v_this_now_knots, v_this_now_countedKnots, v_this_now_countedSizes, v_this_now_lasts, v_this_now_companies])), (q_this_now_land, .inr (2, [.int now_land_ways_, .ref q_this_now_land_starts, .ref q_this_now_land_homes, v_this_now_land_hours, v_this_now_land_froms, v_this_now_land_tos, v_this_now_land_bands])), (q_this_now_land_homes, .inr (7, [.ref q_this_now_land_homes_values, .int now_land_homes_size_])), (q_this_now_land_homes_values, .inl (kI, 5, .inl now_land_homes_values_)), (q_this_now_land_starts, .inr (7, [.ref q_this_now_land_starts_values, .int now_land_starts_size_])), (q_this_now_land_starts_values, .inl (kI, 5, .inl now_land_starts_values_)), (q_this_refused, .inl (kI, 3, .inl refused_))] [(q_this, .inr (9, [.ref q_this_now, v_this_images, .int imagesKept_, .ref q_this_refused, .int above_, .int below_, v_this_reader, v_this_judge, v_this_rows, v_this_sets, v_this_walk, v_this_seats])), (q_this_now, .inr (1, [.int now_set_, .int now_room_, .int now_crew_, .ref q_this_now_land, v_this_now_text, v_this_now_knots, v_this_now_countedKnots, v_this_now_countedSizes, v_this_now_lasts, v_this_now_companies])), (q_this_now_land, .inr (2, [.int now_land_ways_, .ref q_this_now_land_starts, .ref q_this_now_land_homes, v_this_now_land_hours, v_this_now_land_froms, v_this_now_land_tos, v_this_now_land_bands])), (q_this_now_land_homes, .inr (7, [.ref q_this_now_land_homes_values, .int r.2.1])), (q_this_now_land_homes_values, .inl (kI, 5, .inl r.2.2.1)), (q_this_now_land_starts, .inr (7, [.ref q_this_now_land_starts_values, .int r.2.2.2.1])), (q_this_now_land_starts_values, .inl (kI, 5, .inl r.2.2.2.2.1)), (q_this_refused, .inl (kI, 3, .inl r.2.2.2.2.2))] r.1 := by
  refine q_enterI cX9_one 3 RX9 (by decide) rfl (Nat.le_of_ble_eq_true rfl) rfl ?_
  intro p e s m args below meth c Q A ls H hx hb hml hown hts hK hN hE hA hP hS hD hl hret
  have hl : lv_has ls 3 [(0, .ref q_this), (1, .int x1), (2, .int x2)] := hl
  have h := hf
  rw [g_X9_one] at h
  refine lv_iload_n hx hb dX9_one_0 rfl (lv_at hl 1 rfl) ?_
  obtain ⟨u1, hu1, h⟩ := q_b h
  refine q_aI (va_runS (As := [.int x1]) (rest := []) ⟨hx, hb, hml, hown, hts⟩ (c_X9_isCorner l D E kI kB kQ x1 N u1 hu1 H.size) (va_cwS 1 hts gX9_one_X9_isCorner rfl rfl rfl nd_X9_isCorner ⟨Nat.le_of_ble_eq_true rfl, Nat.le_of_ble_eq_true rfl⟩) (q_ps hK hN hE hS hA hP hD [] rfl rfl rfl) rfl rfl hl.1 rfl (lv_room (Nat.le_of_ble_eq_true rfl)) dX9_one_1 ⟨Nat.zero_le _, Nat.zero_le _⟩) hP hD hS hA [] [0, 1, 2, 3, 4, 5, 6, 7] (Wr := [(q_this, .inr (9, [.ref q_this_now, v_this_images, .int imagesKept_, .ref q_this_refused, .int above_, .int below_, v_this_reader, v_this_judge, v_this_rows, v_this_sets, v_this_walk, v_this_seats])), (q_this_now, .inr (1, [.int now_set_, .int now_room_, .int now_crew_, .ref q_this_now_land, v_this_now_text, v_this_now_knots, v_this_now_countedKnots, v_this_now_countedSizes, v_this_now_lasts, v_this_now_companies])), (q_this_now_land, .inr (2, [.int now_land_ways_, .ref q_this_now_land_starts, .ref q_this_now_land_homes, v_this_now_land_hours, v_this_now_land_froms, v_this_now_land_tos, v_this_now_land_bands])), (q_this_now_land_homes, .inr (7, [.ref q_this_now_land_homes_values, .int now_land_homes_size_])), (q_this_now_land_homes_values, .inl (kI, 5, .inl now_land_homes_values_)), (q_this_now_land_starts, .inr (7, [.ref q_this_now_land_starts_values, .int now_land_starts_size_])), (q_this_now_land_starts_values, .inl (kI, 5, .inl now_land_starts_values_)), (q_this_refused, .inl (kI, 3, .inl refused_))]) rfl rfl rfl (by decide) (fun H locs hP hD hS => ?_)
  have hP : va_P D vwCl [(q_this, .inr (9, [.ref q_this_now, v_this_images, .int imagesKept_, .ref q_this_refused, .int above_, .int below_, v_this_reader, v_this_judge, v_this_rows, v_this_sets, v_this_walk, v_this_seats])), (q_this_now, .inr (1, [.int now_set_, .int now_room_, .int now_crew_, .ref q_this_now_land, v_this_now_text, v_this_now_knots, v_this_now_countedKnots, v_this_now_countedSizes, v_this_now_lasts, v_this_now_companies])), (q_this_now_land, .inr (2, [.int now_land_ways_, .ref q_this_now_land_starts, .ref q_this_now_land_homes, v_this_now_land_hours, v_this_now_land_froms, v_this_now_land_tos, v_this_now_land_bands])), (q_this_now_land_homes, .inr (7, [.ref q_this_now_land_homes_values, .int now_land_homes_size_])), (q_this_now_land_homes_values, .inl (kI, 5, .inl now_land_homes_values_)), (q_this_now_land_starts, .inr (7, [.ref q_this_now_land_starts_values, .int now_land_starts_size_])), (q_this_now_land_starts_values, .inl (kI, 5, .inl now_land_starts_values_)), (q_this_refused, .inl (kI, 3, .inl refused_))] H := hP
  have hD : va_D A [(q_this, .inr (9, [.ref q_this_now, v_this_images, .int imagesKept_, .ref q_this_refused, .int above_, .int below_, v_this_reader, v_this_judge, v_this_rows, v_this_sets, v_this_walk, v_this_seats])), (q_this_now, .inr (1, [.int now_set_, .int now_room_, .int now_crew_, .ref q_this_now_land, v_this_now_text, v_this_now_knots, v_this_now_countedKnots, v_this_now_countedSizes, v_this_now_lasts, v_this_now_companies])), (q_this_now_land, .inr (2, [.int now_land_ways_, .ref q_this_now_land_starts, .ref q_this_now_land_homes, v_this_now_land_hours, v_this_now_land_froms, v_this_now_land_tos, v_this_now_land_bands])), (q_this_now_land_homes, .inr (7, [.ref q_this_now_land_homes_values, .int now_land_homes_size_])), (q_this_now_land_homes_values, .inl (kI, 5, .inl now_land_homes_values_)), (q_this_now_land_starts, .inr (7, [.ref q_this_now_land_starts_values, .int now_land_starts_size_])), (q_this_now_land_starts_values, .inl (kI, 5, .inl now_land_starts_values_)), (q_this_refused, .inl (kI, 3, .inl refused_))] := hD
  refine lv_if_eq (tgt := 14) hx hb dX9_one_4 (by decide) (fun c1 => ?_) (fun c1 => ?_)
  · replace h := q_t c1 h
    refine lv_aload_n hx hb dX9_one_14 rfl (lv_at hl 0 rfl) ?_
    refine lv_bipush (v := (-2)) hx hb dX9_one_15 (by decide) ?_
    refine lv_bipush (v := (-2)) hx hb dX9_one_17 (by decide) ?_
    obtain ⟨u19, hu19, h⟩ := q_b h
    refine q_aI (va_runV (As := [.int (-2), .int (-2)]) (rest := []) ⟨hx, hb, hml, hown, hts⟩ (c_X9_refuse l D E kI kB kQ q_this q_this_refused (.ref q_this_now) v_this_images v_this_reader v_this_judge v_this_rows v_this_sets v_this_walk v_this_seats imagesKept_ above_ below_ refused_ (-2) (-2) N u19 hu19 H.size) (cwV 2 hts gX9_one_X9_refuse rfl rfl rfl vd_X9_refuse ⟨Nat.le_of_ble_eq_true rfl, Nat.le_of_ble_eq_true rfl⟩) (q_pv hK hN hE hS hA hP hD [0, 7] rfl rfl rfl 0 rfl (ci := 9) rfl) rfl rfl hl.1 rfl (lv_room (Nat.le_of_ble_eq_true rfl)) dX9_one_19 ⟨Nat.zero_le _, Nat.zero_le _⟩) hP hD hS hA [0, 7] [1, 2, 3, 4, 5, 6] (Wr := [(q_this_now, .inr (1, [.int now_set_, .int now_room_, .int now_crew_, .ref q_this_now_land, v_this_now_text, v_this_now_knots, v_this_now_countedKnots, v_this_now_countedSizes, v_this_now_lasts, v_this_now_companies])), (q_this_now_land, .inr (2, [.int now_land_ways_, .ref q_this_now_land_starts, .ref q_this_now_land_homes, v_this_now_land_hours, v_this_now_land_froms, v_this_now_land_tos, v_this_now_land_bands])), (q_this_now_land_homes, .inr (7, [.ref q_this_now_land_homes_values, .int now_land_homes_size_])), (q_this_now_land_homes_values, .inl (kI, 5, .inl now_land_homes_values_)), (q_this_now_land_starts, .inr (7, [.ref q_this_now_land_starts_values, .int now_land_starts_size_])), (q_this_now_land_starts_values, .inl (kI, 5, .inl now_land_starts_values_))]) rfl rfl rfl (by decide) (fun H locs hP hD hS => ?_)
    have hP : va_P D vwCl [(q_this_now, .inr (1, [.int now_set_, .int now_room_, .int now_crew_, .ref q_this_now_land, v_this_now_text, v_this_now_knots, v_this_now_countedKnots, v_this_now_countedSizes, v_this_now_lasts, v_this_now_companies])), (q_this_now_land, .inr (2, [.int now_land_ways_, .ref q_this_now_land_starts, .ref q_this_now_land_homes, v_this_now_land_hours, v_this_now_land_froms, v_this_now_land_tos, v_this_now_land_bands])), (q_this_now_land_homes, .inr (7, [.ref q_this_now_land_homes_values, .int now_land_homes_size_])), (q_this_now_land_homes_values, .inl (kI, 5, .inl now_land_homes_values_)), (q_this_now_land_starts, .inr (7, [.ref q_this_now_land_starts_values, .int now_land_starts_size_])), (q_this_now_land_starts_values, .inl (kI, 5, .inl now_land_starts_values_)), (q_this, .inr (9, [.ref q_this_now, v_this_images, .int imagesKept_, .ref q_this_refused, .int above_, .int below_, v_this_reader, v_this_judge, v_this_rows, v_this_sets, v_this_walk, v_this_seats])), (q_this_refused, .inl (kI, 3, .inl u19.2))] H := hP
    have hD : va_D A [(q_this_now, .inr (1, [.int now_set_, .int now_room_, .int now_crew_, .ref q_this_now_land, v_this_now_text, v_this_now_knots, v_this_now_countedKnots, v_this_now_countedSizes, v_this_now_lasts, v_this_now_companies])), (q_this_now_land, .inr (2, [.int now_land_ways_, .ref q_this_now_land_starts, .ref q_this_now_land_homes, v_this_now_land_hours, v_this_now_land_froms, v_this_now_land_tos, v_this_now_land_bands])), (q_this_now_land_homes, .inr (7, [.ref q_this_now_land_homes_values, .int now_land_homes_size_])), (q_this_now_land_homes_values, .inl (kI, 5, .inl now_land_homes_values_)), (q_this_now_land_starts, .inr (7, [.ref q_this_now_land_starts_values, .int now_land_starts_size_])), (q_this_now_land_starts_values, .inl (kI, 5, .inl now_land_starts_values_)), (q_this, .inr (9, [.ref q_this_now, v_this_images, .int imagesKept_, .ref q_this_refused, .int above_, .int below_, v_this_reader, v_this_judge, v_this_rows, v_this_sets, v_this_walk, v_this_seats])), (q_this_refused, .inl (kI, 3, .inl u19.2))] := hD
    have er := q_inj h
    subst er
    exact hret _ _ _ _ (hP.sub [6, 0, 1, 2, 3, 4, 5, 7] rfl) (hD.sub [6, 0, 1, 2, 3, 4, 5, 7] rfl rfl) hS dX9_one_22
  · replace h := q_f c1 h
    refine lv_iload_n hx hb dX9_one_7 rfl (lv_at hl 2 rfl) ?_
    obtain ⟨u8, hu8, h⟩ := q_b h
    refine q_aI (va_runS (As := [.int x2]) (rest := []) ⟨hx, hb, hml, hown, hts⟩ (c_X9_isCorner l D E kI kB kQ x2 N u8 hu8 H.size) (va_cwS 1 hts gX9_one_X9_isCorner rfl rfl rfl nd_X9_isCorner ⟨Nat.le_of_ble_eq_true rfl, Nat.le_of_ble_eq_true rfl⟩) (q_ps hK hN hE hS hA hP hD [] rfl rfl rfl) rfl rfl hl.1 rfl (lv_room (Nat.le_of_ble_eq_true rfl)) dX9_one_8 ⟨Nat.zero_le _, Nat.zero_le _⟩) hP hD hS hA [] [0, 1, 2, 3, 4, 5, 6, 7] (Wr := [(q_this, .inr (9, [.ref q_this_now, v_this_images, .int imagesKept_, .ref q_this_refused, .int above_, .int below_, v_this_reader, v_this_judge, v_this_rows, v_this_sets, v_this_walk, v_this_seats])), (q_this_now, .inr (1, [.int now_set_, .int now_room_, .int now_crew_, .ref q_this_now_land, v_this_now_text, v_this_now_knots, v_this_now_countedKnots, v_this_now_countedSizes, v_this_now_lasts, v_this_now_companies])), (q_this_now_land, .inr (2, [.int now_land_ways_, .ref q_this_now_land_starts, .ref q_this_now_land_homes, v_this_now_land_hours, v_this_now_land_froms, v_this_now_land_tos, v_this_now_land_bands])), (q_this_now_land_homes, .inr (7, [.ref q_this_now_land_homes_values, .int now_land_homes_size_])), (q_this_now_land_homes_values, .inl (kI, 5, .inl now_land_homes_values_)), (q_this_now_land_starts, .inr (7, [.ref q_this_now_land_starts_values, .int now_land_starts_size_])), (q_this_now_land_starts_values, .inl (kI, 5, .inl now_land_starts_values_)), (q_this_refused, .inl (kI, 3, .inl refused_))]) rfl rfl rfl (by decide) (fun H locs hP hD hS => ?_)
    have hP : va_P D vwCl [(q_this, .inr (9, [.ref q_this_now, v_this_images, .int imagesKept_, .ref q_this_refused, .int above_, .int below_, v_this_reader, v_this_judge, v_this_rows, v_this_sets, v_this_walk, v_this_seats])), (q_this_now, .inr (1, [.int now_set_, .int now_room_, .int now_crew_, .ref q_this_now_land, v_this_now_text, v_this_now_knots, v_this_now_countedKnots, v_this_now_countedSizes, v_this_now_lasts, v_this_now_companies])), (q_this_now_land, .inr (2, [.int now_land_ways_, .ref q_this_now_land_starts, .ref q_this_now_land_homes, v_this_now_land_hours, v_this_now_land_froms, v_this_now_land_tos, v_this_now_land_bands])), (q_this_now_land_homes, .inr (7, [.ref q_this_now_land_homes_values, .int now_land_homes_size_])), (q_this_now_land_homes_values, .inl (kI, 5, .inl now_land_homes_values_)), (q_this_now_land_starts, .inr (7, [.ref q_this_now_land_starts_values, .int now_land_starts_size_])), (q_this_now_land_starts_values, .inl (kI, 5, .inl now_land_starts_values_)), (q_this_refused, .inl (kI, 3, .inl refused_))] H := hP
    have hD : va_D A [(q_this, .inr (9, [.ref q_this_now, v_this_images, .int imagesKept_, .ref q_this_refused, .int above_, .int below_, v_this_reader, v_this_judge, v_this_rows, v_this_sets, v_this_walk, v_this_seats])), (q_this_now, .inr (1, [.int now_set_, .int now_room_, .int now_crew_, .ref q_this_now_land, v_this_now_text, v_this_now_knots, v_this_now_countedKnots, v_this_now_countedSizes, v_this_now_lasts, v_this_now_companies])), (q_this_now_land, .inr (2, [.int now_land_ways_, .ref q_this_now_land_starts, .ref q_this_now_land_homes, v_this_now_land_hours, v_this_now_land_froms, v_this_now_land_tos, v_this_now_land_bands])), (q_this_now_land_homes, .inr (7, [.ref q_this_now_land_homes_values, .int now_land_homes_size_])), (q_this_now_land_homes_values, .inl (kI, 5, .inl now_land_homes_values_)), (q_this_now_land_starts, .inr (7, [.ref q_this_now_land_starts_values, .int now_land_starts_size_])), (q_this_now_land_starts_values, .inl (kI, 5, .inl now_land_starts_values_)), (q_this_refused, .inl (kI, 3, .inl refused_))] := hD
    refine lv_if_ne (tgt := 23) hx hb dX9_one_11 (by decide) (fun c2 => ?_) (fun c2 => ?_)
    · replace h := q_f c2 h
      refine lv_aload_n hx hb dX9_one_23 rfl (lv_at hl 0 rfl) ?_
      refine va_get (D := D) (ci := 9) (C := RX9) (T := TX9) (N := 12) hx hb hts iw_X9_one_X9 hown hK hP 0 rfl rfl 0 (by decide) (hts _ lk_X9_one_0) (fun _ h9 => h9) rfl dX9_one_24 ?_
      refine va_get (D := D) (ci := 1) (C := RX1) (T := TX1) (N := 10) hx hb hts iw_X9_one_X1 hown hK hP 1 rfl rfl 3 (by decide) (hts _ lk_X9_one_1) (fun _ h9 => h9) rfl dX9_one_27 ?_
      refine va_get (D := D) (ci := 2) (C := RX2) (T := TX2) (N := 7) hx hb hts iw_X9_one_X2 hown hK hP 2 rfl rfl 1 (by decide) (hts _ lk_X9_one_2) (fun _ h9 => h9) rfl dX9_one_30 ?_
      obtain ⟨u33, hu33, h⟩ := q_b h
      refine q_aI (va_runV (As := []) (rest := []) ⟨hx, hb, hml, hown, hts⟩ (c_X7_isFull l D E kI kB kQ q_this_now_land_starts q_this_now_land_starts_values 5 now_land_starts_size_ now_land_starts_values_ N u33 hu33 H.size) (cwV 0 hts gX9_one_X7_isFull rfl rfl rfl vd_X7_isFull ⟨Nat.le_of_ble_eq_true rfl, Nat.le_of_ble_eq_true rfl⟩) (q_pv hK hN hE hS hA hP hD [5, 6] rfl rfl rfl 5 rfl (ci := 7) rfl) rfl rfl hl.1 rfl (lv_room (Nat.le_of_ble_eq_true rfl)) dX9_one_33 ⟨Nat.zero_le _, Nat.zero_le _⟩) hP hD hS hA [5, 6] [0, 1, 2, 3, 4, 7] (Wr := [(q_this, .inr (9, [.ref q_this_now, v_this_images, .int imagesKept_, .ref q_this_refused, .int above_, .int below_, v_this_reader, v_this_judge, v_this_rows, v_this_sets, v_this_walk, v_this_seats])), (q_this_now, .inr (1, [.int now_set_, .int now_room_, .int now_crew_, .ref q_this_now_land, v_this_now_text, v_this_now_knots, v_this_now_countedKnots, v_this_now_countedSizes, v_this_now_lasts, v_this_now_companies])), (q_this_now_land, .inr (2, [.int now_land_ways_, .ref q_this_now_land_starts, .ref q_this_now_land_homes, v_this_now_land_hours, v_this_now_land_froms, v_this_now_land_tos, v_this_now_land_bands])), (q_this_now_land_homes, .inr (7, [.ref q_this_now_land_homes_values, .int now_land_homes_size_])), (q_this_now_land_homes_values, .inl (kI, 5, .inl now_land_homes_values_)), (q_this_refused, .inl (kI, 3, .inl refused_))]) rfl rfl rfl (by decide) (fun H locs hP hD hS => ?_)
      have hP : va_P D vwCl [(q_this, .inr (9, [.ref q_this_now, v_this_images, .int imagesKept_, .ref q_this_refused, .int above_, .int below_, v_this_reader, v_this_judge, v_this_rows, v_this_sets, v_this_walk, v_this_seats])), (q_this_now, .inr (1, [.int now_set_, .int now_room_, .int now_crew_, .ref q_this_now_land, v_this_now_text, v_this_now_knots, v_this_now_countedKnots, v_this_now_countedSizes, v_this_now_lasts, v_this_now_companies])), (q_this_now_land, .inr (2, [.int now_land_ways_, .ref q_this_now_land_starts, .ref q_this_now_land_homes, v_this_now_land_hours, v_this_now_land_froms, v_this_now_land_tos, v_this_now_land_bands])), (q_this_now_land_homes, .inr (7, [.ref q_this_now_land_homes_values, .int now_land_homes_size_])), (q_this_now_land_homes_values, .inl (kI, 5, .inl now_land_homes_values_)), (q_this_refused, .inl (kI, 3, .inl refused_)), (q_this_now_land_starts, .inr (7, [.ref q_this_now_land_starts_values, .int now_land_starts_size_])), (q_this_now_land_starts_values, .inl (kI, 5, .inl now_land_starts_values_))] H := hP
      have hD : va_D A [(q_this, .inr (9, [.ref q_this_now, v_this_images, .int imagesKept_, .ref q_this_refused, .int above_, .int below_, v_this_reader, v_this_judge, v_this_rows, v_this_sets, v_this_walk, v_this_seats])), (q_this_now, .inr (1, [.int now_set_, .int now_room_, .int now_crew_, .ref q_this_now_land, v_this_now_text, v_this_now_knots, v_this_now_countedKnots, v_this_now_countedSizes, v_this_now_lasts, v_this_now_companies])), (q_this_now_land, .inr (2, [.int now_land_ways_, .ref q_this_now_land_starts, .ref q_this_now_land_homes, v_this_now_land_hours, v_this_now_land_froms, v_this_now_land_tos, v_this_now_land_bands])), (q_this_now_land_homes, .inr (7, [.ref q_this_now_land_homes_values, .int now_land_homes_size_])), (q_this_now_land_homes_values, .inl (kI, 5, .inl now_land_homes_values_)), (q_this_refused, .inl (kI, 3, .inl refused_)), (q_this_now_land_starts, .inr (7, [.ref q_this_now_land_starts_values, .int now_land_starts_size_])), (q_this_now_land_starts_values, .inl (kI, 5, .inl now_land_starts_values_))] := hD
      refine lv_if_eq (tgt := 48) hx hb dX9_one_36 (by decide) (fun c3 => ?_) (fun c3 => ?_)
      · replace h := q_t c3 h
        refine lv_aload_n hx hb dX9_one_48 rfl (lv_at hl 0 rfl) ?_
        refine va_get (D := D) (ci := 9) (C := RX9) (T := TX9) (N := 12) hx hb hts iw_X9_one_X9 hown hK hP 0 rfl rfl 0 (by decide) (hts _ lk_X9_one_0) (fun _ h9 => h9) rfl dX9_one_49 ?_
        refine va_get (D := D) (ci := 1) (C := RX1) (T := TX1) (N := 10) hx hb hts iw_X9_one_X1 hown hK hP 1 rfl rfl 3 (by decide) (hts _ lk_X9_one_1) (fun _ h9 => h9) rfl dX9_one_52 ?_
        refine lv_iload_n hx hb dX9_one_55 rfl (lv_at hl 1 rfl) ?_
        refine lv_iload_n hx hb dX9_one_56 rfl (lv_at hl 2 rfl) ?_
        obtain ⟨u57, hu57, h⟩ := q_b h
        refine q_aV (va_runV (As := [.int x1, .int x2]) (rest := []) ⟨hx, hb, hml, hown, hts⟩ (c_X2_addPerson l D E kI kB kQ q_this_now_land q_this_now_land_homes q_this_now_land_homes_values q_this_now_land_starts q_this_now_land_starts_values v_this_now_land_hours v_this_now_land_froms v_this_now_land_tos v_this_now_land_bands now_land_ways_ now_land_homes_size_ now_land_homes_values_ now_land_starts_size_ now_land_starts_values_ x1 x2 N u57 hu57 H.size) (cwV 2 hts gX9_one_X2_addPerson rfl rfl rfl vd_X2_addPerson ⟨Nat.le_of_ble_eq_true rfl, Nat.le_of_ble_eq_true rfl⟩) (q_pv hK hN hE hS hA hP hD [2, 3, 4, 6, 7] rfl rfl rfl 2 rfl (ci := 2) rfl) rfl rfl hl.1 rfl (lv_room (Nat.le_of_ble_eq_true rfl)) dX9_one_57 ⟨Nat.zero_le _, Nat.zero_le _⟩) hP hD hS hA [2, 3, 4, 6, 7] [0, 1, 5] (Wr := [(q_this, .inr (9, [.ref q_this_now, v_this_images, .int imagesKept_, .ref q_this_refused, .int above_, .int below_, v_this_reader, v_this_judge, v_this_rows, v_this_sets, v_this_walk, v_this_seats])), (q_this_now, .inr (1, [.int now_set_, .int now_room_, .int now_crew_, .ref q_this_now_land, v_this_now_text, v_this_now_knots, v_this_now_countedKnots, v_this_now_countedSizes, v_this_now_lasts, v_this_now_companies])), (q_this_refused, .inl (kI, 3, .inl refused_))]) rfl rfl rfl (by decide) (fun H locs hP hD hS => ?_)
        have hP : va_P D vwCl [(q_this, .inr (9, [.ref q_this_now, v_this_images, .int imagesKept_, .ref q_this_refused, .int above_, .int below_, v_this_reader, v_this_judge, v_this_rows, v_this_sets, v_this_walk, v_this_seats])), (q_this_now, .inr (1, [.int now_set_, .int now_room_, .int now_crew_, .ref q_this_now_land, v_this_now_text, v_this_now_knots, v_this_now_countedKnots, v_this_now_countedSizes, v_this_now_lasts, v_this_now_companies])), (q_this_refused, .inl (kI, 3, .inl refused_)), (q_this_now_land, .inr (2, [.int now_land_ways_, .ref q_this_now_land_starts, .ref q_this_now_land_homes, v_this_now_land_hours, v_this_now_land_froms, v_this_now_land_tos, v_this_now_land_bands])), (q_this_now_land_homes, .inr (7, [.ref q_this_now_land_homes_values, .int u57.1])), (q_this_now_land_homes_values, .inl (kI, 5, .inl u57.2.1)), (q_this_now_land_starts, .inr (7, [.ref q_this_now_land_starts_values, .int u57.2.2.1])), (q_this_now_land_starts_values, .inl (kI, 5, .inl u57.2.2.2))] H := hP
        have hD : va_D A [(q_this, .inr (9, [.ref q_this_now, v_this_images, .int imagesKept_, .ref q_this_refused, .int above_, .int below_, v_this_reader, v_this_judge, v_this_rows, v_this_sets, v_this_walk, v_this_seats])), (q_this_now, .inr (1, [.int now_set_, .int now_room_, .int now_crew_, .ref q_this_now_land, v_this_now_text, v_this_now_knots, v_this_now_countedKnots, v_this_now_countedSizes, v_this_now_lasts, v_this_now_companies])), (q_this_refused, .inl (kI, 3, .inl refused_)), (q_this_now_land, .inr (2, [.int now_land_ways_, .ref q_this_now_land_starts, .ref q_this_now_land_homes, v_this_now_land_hours, v_this_now_land_froms, v_this_now_land_tos, v_this_now_land_bands])), (q_this_now_land_homes, .inr (7, [.ref q_this_now_land_homes_values, .int u57.1])), (q_this_now_land_homes_values, .inl (kI, 5, .inl u57.2.1)), (q_this_now_land_starts, .inr (7, [.ref q_this_now_land_starts_values, .int u57.2.2.1])), (q_this_now_land_starts_values, .inl (kI, 5, .inl u57.2.2.2))] := hD
        refine lv_aload_n hx hb dX9_one_60 rfl (lv_at hl 0 rfl) ?_
        refine va_get (D := D) (ci := 9) (C := RX9) (T := TX9) (N := 12) hx hb hts iw_X9_one_X9 hown hK hP 0 rfl rfl 0 (by decide) (hts _ lk_X9_one_0) (fun _ h9 => h9) rfl dX9_one_61 ?_
        refine va_get (D := D) (ci := 1) (C := RX1) (T := TX1) (N := 10) hx hb hts iw_X9_one_X1 hown hK hP 1 rfl rfl 3 (by decide) (hts _ lk_X9_one_1) (fun _ h9 => h9) rfl dX9_one_64 ?_
        obtain ⟨u67, hu67, h⟩ := q_b h
        refine q_aI (va_runV (As := []) (rest := []) ⟨hx, hb, hml, hown, hts⟩ (c_X2_people l D E kI kB kQ q_this_now_land q_this_now_land_starts (.ref q_this_now_land_homes) v_this_now_land_hours v_this_now_land_froms v_this_now_land_tos v_this_now_land_bands (.ref q_this_now_land_starts_values) now_land_ways_ u57.2.2.1 N u67 hu67 H.size) (cwV 0 hts gX9_one_X2_people rfl rfl rfl vd_X2_people ⟨Nat.le_of_ble_eq_true rfl, Nat.le_of_ble_eq_true rfl⟩) (q_pv hK hN hE hS hA hP hD [3, 6] rfl rfl rfl 3 rfl (ci := 2) rfl) rfl rfl hl.1 rfl (lv_room (Nat.le_of_ble_eq_true rfl)) dX9_one_67 ⟨Nat.zero_le _, Nat.zero_le _⟩) hP hD hS hA [3, 6] [0, 1, 2, 4, 5, 7] (Wr := [(q_this, .inr (9, [.ref q_this_now, v_this_images, .int imagesKept_, .ref q_this_refused, .int above_, .int below_, v_this_reader, v_this_judge, v_this_rows, v_this_sets, v_this_walk, v_this_seats])), (q_this_now, .inr (1, [.int now_set_, .int now_room_, .int now_crew_, .ref q_this_now_land, v_this_now_text, v_this_now_knots, v_this_now_countedKnots, v_this_now_countedSizes, v_this_now_lasts, v_this_now_companies])), (q_this_refused, .inl (kI, 3, .inl refused_)), (q_this_now_land_homes, .inr (7, [.ref q_this_now_land_homes_values, .int u57.1])), (q_this_now_land_homes_values, .inl (kI, 5, .inl u57.2.1)), (q_this_now_land_starts_values, .inl (kI, 5, .inl u57.2.2.2))]) rfl rfl rfl (by decide) (fun H locs hP hD hS => ?_)
        have hP : va_P D vwCl [(q_this, .inr (9, [.ref q_this_now, v_this_images, .int imagesKept_, .ref q_this_refused, .int above_, .int below_, v_this_reader, v_this_judge, v_this_rows, v_this_sets, v_this_walk, v_this_seats])), (q_this_now, .inr (1, [.int now_set_, .int now_room_, .int now_crew_, .ref q_this_now_land, v_this_now_text, v_this_now_knots, v_this_now_countedKnots, v_this_now_countedSizes, v_this_now_lasts, v_this_now_companies])), (q_this_refused, .inl (kI, 3, .inl refused_)), (q_this_now_land_homes, .inr (7, [.ref q_this_now_land_homes_values, .int u57.1])), (q_this_now_land_homes_values, .inl (kI, 5, .inl u57.2.1)), (q_this_now_land_starts_values, .inl (kI, 5, .inl u57.2.2.2)), (q_this_now_land, .inr (2, [.int now_land_ways_, .ref q_this_now_land_starts, .ref q_this_now_land_homes, v_this_now_land_hours, v_this_now_land_froms, v_this_now_land_tos, v_this_now_land_bands])), (q_this_now_land_starts, .inr (7, [.ref q_this_now_land_starts_values, .int u57.2.2.1]))] H := hP
        have hD : va_D A [(q_this, .inr (9, [.ref q_this_now, v_this_images, .int imagesKept_, .ref q_this_refused, .int above_, .int below_, v_this_reader, v_this_judge, v_this_rows, v_this_sets, v_this_walk, v_this_seats])), (q_this_now, .inr (1, [.int now_set_, .int now_room_, .int now_crew_, .ref q_this_now_land, v_this_now_text, v_this_now_knots, v_this_now_countedKnots, v_this_now_countedSizes, v_this_now_lasts, v_this_now_companies])), (q_this_refused, .inl (kI, 3, .inl refused_)), (q_this_now_land_homes, .inr (7, [.ref q_this_now_land_homes_values, .int u57.1])), (q_this_now_land_homes_values, .inl (kI, 5, .inl u57.2.1)), (q_this_now_land_starts_values, .inl (kI, 5, .inl u57.2.2.2)), (q_this_now_land, .inr (2, [.int now_land_ways_, .ref q_this_now_land_starts, .ref q_this_now_land_homes, v_this_now_land_hours, v_this_now_land_froms, v_this_now_land_tos, v_this_now_land_bands])), (q_this_now_land_starts, .inr (7, [.ref q_this_now_land_starts_values, .int u57.2.2.1]))] := hD
        refine lv_iconst (v := 1) hx hb dX9_one_70 (by decide) ?_
        refine lv_isub hx hb dX9_one_71 ?_
        have er := q_inj h
        subst er
        exact hret _ _ _ _ (hP.sub [0, 1, 6, 3, 4, 7, 5, 2] rfl) (hD.sub [0, 1, 6, 3, 4, 7, 5, 2] rfl rfl) hS dX9_one_72
      · replace h := q_f c3 h
        refine lv_aload_n hx hb dX9_one_39 rfl (lv_at hl 0 rfl) ?_
        refine lv_bipush (v := (-4)) hx hb dX9_one_40 (by decide) ?_
        refine lv_bipush (v := (-4)) hx hb dX9_one_42 (by decide) ?_
        obtain ⟨u44, hu44, h⟩ := q_b h
        refine q_aI (va_runV (As := [.int (-4), .int (-4)]) (rest := []) ⟨hx, hb, hml, hown, hts⟩ (c_X9_refuse l D E kI kB kQ q_this q_this_refused (.ref q_this_now) v_this_images v_this_reader v_this_judge v_this_rows v_this_sets v_this_walk v_this_seats imagesKept_ above_ below_ refused_ (-4) (-4) N u44 hu44 H.size) (cwV 2 hts gX9_one_X9_refuse rfl rfl rfl vd_X9_refuse ⟨Nat.le_of_ble_eq_true rfl, Nat.le_of_ble_eq_true rfl⟩) (q_pv hK hN hE hS hA hP hD [0, 5] rfl rfl rfl 0 rfl (ci := 9) rfl) rfl rfl hl.1 rfl (lv_room (Nat.le_of_ble_eq_true rfl)) dX9_one_44 ⟨Nat.zero_le _, Nat.zero_le _⟩) hP hD hS hA [0, 5] [1, 2, 3, 4, 6, 7] (Wr := [(q_this_now, .inr (1, [.int now_set_, .int now_room_, .int now_crew_, .ref q_this_now_land, v_this_now_text, v_this_now_knots, v_this_now_countedKnots, v_this_now_countedSizes, v_this_now_lasts, v_this_now_companies])), (q_this_now_land, .inr (2, [.int now_land_ways_, .ref q_this_now_land_starts, .ref q_this_now_land_homes, v_this_now_land_hours, v_this_now_land_froms, v_this_now_land_tos, v_this_now_land_bands])), (q_this_now_land_homes, .inr (7, [.ref q_this_now_land_homes_values, .int now_land_homes_size_])), (q_this_now_land_homes_values, .inl (kI, 5, .inl now_land_homes_values_)), (q_this_now_land_starts, .inr (7, [.ref q_this_now_land_starts_values, .int now_land_starts_size_])), (q_this_now_land_starts_values, .inl (kI, 5, .inl now_land_starts_values_))]) rfl rfl rfl (by decide) (fun H locs hP hD hS => ?_)
        have hP : va_P D vwCl [(q_this_now, .inr (1, [.int now_set_, .int now_room_, .int now_crew_, .ref q_this_now_land, v_this_now_text, v_this_now_knots, v_this_now_countedKnots, v_this_now_countedSizes, v_this_now_lasts, v_this_now_companies])), (q_this_now_land, .inr (2, [.int now_land_ways_, .ref q_this_now_land_starts, .ref q_this_now_land_homes, v_this_now_land_hours, v_this_now_land_froms, v_this_now_land_tos, v_this_now_land_bands])), (q_this_now_land_homes, .inr (7, [.ref q_this_now_land_homes_values, .int now_land_homes_size_])), (q_this_now_land_homes_values, .inl (kI, 5, .inl now_land_homes_values_)), (q_this_now_land_starts, .inr (7, [.ref q_this_now_land_starts_values, .int now_land_starts_size_])), (q_this_now_land_starts_values, .inl (kI, 5, .inl now_land_starts_values_)), (q_this, .inr (9, [.ref q_this_now, v_this_images, .int imagesKept_, .ref q_this_refused, .int above_, .int below_, v_this_reader, v_this_judge, v_this_rows, v_this_sets, v_this_walk, v_this_seats])), (q_this_refused, .inl (kI, 3, .inl u44.2))] H := hP
        have hD : va_D A [(q_this_now, .inr (1, [.int now_set_, .int now_room_, .int now_crew_, .ref q_this_now_land, v_this_now_text, v_this_now_knots, v_this_now_countedKnots, v_this_now_countedSizes, v_this_now_lasts, v_this_now_companies])), (q_this_now_land, .inr (2, [.int now_land_ways_, .ref q_this_now_land_starts, .ref q_this_now_land_homes, v_this_now_land_hours, v_this_now_land_froms, v_this_now_land_tos, v_this_now_land_bands])), (q_this_now_land_homes, .inr (7, [.ref q_this_now_land_homes_values, .int now_land_homes_size_])), (q_this_now_land_homes_values, .inl (kI, 5, .inl now_land_homes_values_)), (q_this_now_land_starts, .inr (7, [.ref q_this_now_land_starts_values, .int now_land_starts_size_])), (q_this_now_land_starts_values, .inl (kI, 5, .inl now_land_starts_values_)), (q_this, .inr (9, [.ref q_this_now, v_this_images, .int imagesKept_, .ref q_this_refused, .int above_, .int below_, v_this_reader, v_this_judge, v_this_rows, v_this_sets, v_this_walk, v_this_seats])), (q_this_refused, .inl (kI, 3, .inl u44.2))] := hD
        have er := q_inj h
        subst er
        exact hret _ _ _ _ (hP.sub [6, 0, 1, 2, 3, 4, 5, 7] rfl) (hD.sub [6, 0, 1, 2, 3, 4, 5, 7] rfl rfl) hS dX9_one_47
    · replace h := q_t c2 h
      refine lv_aload_n hx hb dX9_one_14 rfl (lv_at hl 0 rfl) ?_
      refine lv_bipush (v := (-2)) hx hb dX9_one_15 (by decide) ?_
      refine lv_bipush (v := (-2)) hx hb dX9_one_17 (by decide) ?_
      obtain ⟨u19, hu19, h⟩ := q_b h
      refine q_aI (va_runV (As := [.int (-2), .int (-2)]) (rest := []) ⟨hx, hb, hml, hown, hts⟩ (c_X9_refuse l D E kI kB kQ q_this q_this_refused (.ref q_this_now) v_this_images v_this_reader v_this_judge v_this_rows v_this_sets v_this_walk v_this_seats imagesKept_ above_ below_ refused_ (-2) (-2) N u19 hu19 H.size) (cwV 2 hts gX9_one_X9_refuse rfl rfl rfl vd_X9_refuse ⟨Nat.le_of_ble_eq_true rfl, Nat.le_of_ble_eq_true rfl⟩) (q_pv hK hN hE hS hA hP hD [0, 7] rfl rfl rfl 0 rfl (ci := 9) rfl) rfl rfl hl.1 rfl (lv_room (Nat.le_of_ble_eq_true rfl)) dX9_one_19 ⟨Nat.zero_le _, Nat.zero_le _⟩) hP hD hS hA [0, 7] [1, 2, 3, 4, 5, 6] (Wr := [(q_this_now, .inr (1, [.int now_set_, .int now_room_, .int now_crew_, .ref q_this_now_land, v_this_now_text, v_this_now_knots, v_this_now_countedKnots, v_this_now_countedSizes, v_this_now_lasts, v_this_now_companies])), (q_this_now_land, .inr (2, [.int now_land_ways_, .ref q_this_now_land_starts, .ref q_this_now_land_homes, v_this_now_land_hours, v_this_now_land_froms, v_this_now_land_tos, v_this_now_land_bands])), (q_this_now_land_homes, .inr (7, [.ref q_this_now_land_homes_values, .int now_land_homes_size_])), (q_this_now_land_homes_values, .inl (kI, 5, .inl now_land_homes_values_)), (q_this_now_land_starts, .inr (7, [.ref q_this_now_land_starts_values, .int now_land_starts_size_])), (q_this_now_land_starts_values, .inl (kI, 5, .inl now_land_starts_values_))]) rfl rfl rfl (by decide) (fun H locs hP hD hS => ?_)
      have hP : va_P D vwCl [(q_this_now, .inr (1, [.int now_set_, .int now_room_, .int now_crew_, .ref q_this_now_land, v_this_now_text, v_this_now_knots, v_this_now_countedKnots, v_this_now_countedSizes, v_this_now_lasts, v_this_now_companies])), (q_this_now_land, .inr (2, [.int now_land_ways_, .ref q_this_now_land_starts, .ref q_this_now_land_homes, v_this_now_land_hours, v_this_now_land_froms, v_this_now_land_tos, v_this_now_land_bands])), (q_this_now_land_homes, .inr (7, [.ref q_this_now_land_homes_values, .int now_land_homes_size_])), (q_this_now_land_homes_values, .inl (kI, 5, .inl now_land_homes_values_)), (q_this_now_land_starts, .inr (7, [.ref q_this_now_land_starts_values, .int now_land_starts_size_])), (q_this_now_land_starts_values, .inl (kI, 5, .inl now_land_starts_values_)), (q_this, .inr (9, [.ref q_this_now, v_this_images, .int imagesKept_, .ref q_this_refused, .int above_, .int below_, v_this_reader, v_this_judge, v_this_rows, v_this_sets, v_this_walk, v_this_seats])), (q_this_refused, .inl (kI, 3, .inl u19.2))] H := hP
      have hD : va_D A [(q_this_now, .inr (1, [.int now_set_, .int now_room_, .int now_crew_, .ref q_this_now_land, v_this_now_text, v_this_now_knots, v_this_now_countedKnots, v_this_now_countedSizes, v_this_now_lasts, v_this_now_companies])), (q_this_now_land, .inr (2, [.int now_land_ways_, .ref q_this_now_land_starts, .ref q_this_now_land_homes, v_this_now_land_hours, v_this_now_land_froms, v_this_now_land_tos, v_this_now_land_bands])), (q_this_now_land_homes, .inr (7, [.ref q_this_now_land_homes_values, .int now_land_homes_size_])), (q_this_now_land_homes_values, .inl (kI, 5, .inl now_land_homes_values_)), (q_this_now_land_starts, .inr (7, [.ref q_this_now_land_starts_values, .int now_land_starts_size_])), (q_this_now_land_starts_values, .inl (kI, 5, .inl now_land_starts_values_)), (q_this, .inr (9, [.ref q_this_now, v_this_images, .int imagesKept_, .ref q_this_refused, .int above_, .int below_, v_this_reader, v_this_judge, v_this_rows, v_this_sets, v_this_walk, v_this_seats])), (q_this_refused, .inl (kI, 3, .inl u19.2))] := hD
      have er := q_inj h
      subst er
      exact hret _ _ _ _ (hP.sub [6, 0, 1, 2, 3, 4, 5, 7] rfl) (hD.sub [6, 0, 1, 2, 3, 4, 5, 7] rfl rfl) hS dX9_one_22
abbrev rm_X9_type : Room := { frames := 1, cells := 0, slots := 0, locals := 23 }
theorem lk_X9_type_0 : Cond.fieldLink RX9 10 "OnlyPrimes" "now" "LOnlyPrimes$Kept;" ∈ wsX9_type := List.mem_of_getElem? (i := 1) (by decide +kernel)
theorem iw_X9_type_X9 : ∀ w ∈ wsX90, w ∈ wsX9_type := by decide +kernel
theorem lk_X9_type_1 : Cond.fieldLink RX9 124 "OnlyPrimes$Kept" "text" "LOnlyPrimes$Slots;" ∈ wsX9_type := List.mem_of_getElem? (i := 2) (by decide +kernel)
theorem iw_X9_type_X1 : ∀ w ∈ wsX10, w ∈ wsX9_type := by decide +kernel
theorem lk_X9_type_2 : Cond.constantLong RX9 130 (255) ∈ wsX9_type := List.mem_of_getElem? (i := 3) (by decide +kernel)
theorem nd_X9_type : yX9_type.cls ≠ "java/lang/invoke/MethodHandle" ∧ yX9_type.cls ≠ "java/lang/invoke/VarHandle" ∧ (parseMethodDescriptor yX9_type.desc).map (fun d => d.parameters.length) = some 2 := by decide +kernel
theorem vd_X9_type : yX9_type.cls = RX9 ∧ yX9_type.cls ≠ "java/lang/invoke/MethodHandle" ∧ yX9_type.cls ≠ "java/lang/invoke/VarHandle" ∧ (parseMethodDescriptor yX9_type.desc).map (fun d => d.parameters.length) = some 2 := by decide +kernel
set_option maxHeartbeats 4000000 in
set_option maxRecDepth 100000 in
theorem c_X9_type (l : Launch) (D : va_G) (E : q_En) (kI kB kQ : ClassId) (q_this : Nat) (q_this_now : Nat) (q_this_now_text : Nat) (q_this_now_text_values : Nat) (q_this_refused : Nat) (v_this_images : Value) (v_this_reader : Value) (v_this_judge : Value) (v_this_rows : Value) (v_this_sets : Value) (v_this_walk : Value) (v_this_seats : Value) (v_this_now_land : Value) (v_this_now_knots : Value) (v_this_now_countedKnots : Value) (v_this_now_countedSizes : Value) (v_this_now_lasts : Value) (v_this_now_companies : Value) (imagesKept_ : Int32) (above_ : Int32) (below_ : Int32) (now_set_ : Int32) (now_room_ : Int32) (now_crew_ : Int32) (now_text_size_ : Int32) (now_text_values_ : Nat → Int32) (refused_ : Nat → Int32) (x1 : Int64) (x3 : Int32) (N : Nat) (r : Int32 × Int32 × (Nat → Int32) × (Nat → Int32)) (hf : g_X9_type N now_text_size_ now_text_values_ refused_ x1 x3 = some r) : CtI l D E yX9_type wsX9_type rm_X9_type (q_tys kI kB kQ) [.ref q_this, .long x1, .int x3] [(q_this, .inr (9, [.ref q_this_now, v_this_images, .int imagesKept_, .ref q_this_refused, .int above_, .int below_, v_this_reader, v_this_judge, v_this_rows, v_this_sets, v_this_walk, v_this_seats])), (q_this_now, .inr (1, [.int now_set_, .int now_room_, .int now_crew_, v_this_now_land, .ref q_this_now_text, v_this_now_knots, v_this_now_countedKnots, v_this_now_countedSizes, v_this_now_lasts, v_this_now_companies])), (q_this_now_text, .inr (7, [.ref q_this_now_text_values, .int now_text_size_])), (q_this_now_text_values, .inl (kI, 200, .inl now_text_values_)), (q_this_refused, .inl (kI, 3, .inl refused_))] [(q_this, .inr (9, [.ref q_this_now, v_this_images, .int imagesKept_, .ref q_this_refused, .int above_, .int below_, v_this_reader, v_this_judge, v_this_rows, v_this_sets, v_this_walk, v_this_seats])), (q_this_now, .inr (1, [.int now_set_, .int now_room_, .int now_crew_, v_this_now_land, .ref q_this_now_text, v_this_now_knots, v_this_now_countedKnots, v_this_now_countedSizes, v_this_now_lasts, v_this_now_companies])), (q_this_now_text, .inr (7, [.ref q_this_now_text_values, .int r.2.1])), (q_this_now_text_values, .inl (kI, 200, .inl r.2.2.1)), (q_this_refused, .inl (kI, 3, .inl r.2.2.2))] r.1 := by
  refine q_enterI cX9_type 5 RX9 (by decide) rfl (Nat.le_of_ble_eq_true rfl) rfl ?_
  intro p e s m args below meth c Q A ls H hx hb hml hown hts hK hN hE hA hP hS hD hl hret
  have hl : lv_has ls 5 [(0, .ref q_this), (1, .long x1), (3, .int x3)] := hl
  have h := hf
  rw [g_X9_type] at h
  have J51 : ∀ (n51 : Nat) (x4 : Int32) (now_text_size_ : Int32) (now_text_values_ : Nat → Int32) (refused_ : Nat → Int32), g_X9_type_51 x1 n51 x4 now_text_size_ now_text_values_ refused_ = some r → ∀ (H : Heap) (locs : List Loc) (ls : Array Slot), va_P D vwCl [(q_this, .inr (9, [.ref q_this_now, v_this_images, .int imagesKept_, .ref q_this_refused, .int above_, .int below_, v_this_reader, v_this_judge, v_this_rows, v_this_sets, v_this_walk, v_this_seats])), (q_this_now, .inr (1, [.int now_set_, .int now_room_, .int now_crew_, v_this_now_land, .ref q_this_now_text, v_this_now_knots, v_this_now_countedKnots, v_this_now_countedSizes, v_this_now_lasts, v_this_now_companies])), (q_this_now_text, .inr (7, [.ref q_this_now_text_values, .int now_text_size_])), (q_this_now_text_values, .inl (kI, 200, .inl now_text_values_)), (q_this_refused, .inl (kI, 3, .inl refused_))] H → va_D A [(q_this, .inr (9, [.ref q_this_now, v_this_images, .int imagesKept_, .ref q_this_refused, .int above_, .int below_, v_this_reader, v_this_judge, v_this_rows, v_this_sets, v_this_walk, v_this_seats])), (q_this_now, .inr (1, [.int now_set_, .int now_room_, .int now_crew_, v_this_now_land, .ref q_this_now_text, v_this_now_knots, v_this_now_countedKnots, v_this_now_countedSizes, v_this_now_lasts, v_this_now_companies])), (q_this_now_text, .inr (7, [.ref q_this_now_text_values, .int now_text_size_])), (q_this_now_text_values, .inl (kI, 200, .inl now_text_values_)), (q_this_refused, .inl (kI, 3, .inl refused_))] → va_S A s.heap H locs → lv_has ls 5 [(0, .ref q_this), (1, .long x1), (4, .int x4)] → W p l e rm_X9_type s m args below meth c H locs 0 0 Q (F0 m 51 ls []) := by
    intro n51
    induction n51 with
    | zero => intro x4 now_text_size_ now_text_values_ refused_ h; exact absurd h (by rw [g_X9_type_51]; exact fun q => nomatch q)
    | succ n51 ih51 =>
      intro x4 now_text_size_ now_text_values_ refused_ h H locs ls hP hD hS hl
      rw [g_X9_type_51] at h
      refine lv_iload hx hb dX9_type_51 (lv_at hl 2 rfl) ?_
      refine lv_if_lt (tgt := 84) hx hb dX9_type_53 (by decide) (fun c1 => ?_) (fun c1 => ?_)
      · replace h := q_t c1 h
        refine lv_aload_n hx hb dX9_type_84 rfl (lv_at hl 0 rfl) ?_
        refine va_get (D := D) (ci := 9) (C := RX9) (T := TX9) (N := 12) hx hb hts iw_X9_type_X9 hown hK hP 0 rfl rfl 0 (by decide) (hts _ lk_X9_type_0) (fun _ h9 => h9) rfl dX9_type_85 ?_
        refine va_get (D := D) (ci := 1) (C := RX1) (T := TX1) (N := 10) hx hb hts iw_X9_type_X1 hown hK hP 1 rfl rfl 4 (by decide) (hts _ lk_X9_type_1) (fun _ h9 => h9) rfl dX9_type_88 ?_
        obtain ⟨u91, hu91, h⟩ := q_b h
        refine q_aI (va_runV (As := []) (rest := []) ⟨hx, hb, hml, hown, hts⟩ (c_X7_size l D E kI kB kQ q_this_now_text (.ref q_this_now_text_values) now_text_size_ N u91 hu91 H.size) (cwV 0 hts gX9_type_X7_size rfl rfl rfl vd_X7_size ⟨Nat.le_of_ble_eq_true rfl, Nat.le_of_ble_eq_true rfl⟩) (q_pv hK hN hE hS hA hP hD [2] rfl rfl rfl 2 rfl (ci := 7) rfl) rfl rfl hl.1 rfl (lv_room (Nat.le_of_ble_eq_true rfl)) dX9_type_91 ⟨Nat.zero_le _, Nat.zero_le _⟩) hP hD hS hA [2] [0, 1, 3, 4] (Wr := [(q_this, .inr (9, [.ref q_this_now, v_this_images, .int imagesKept_, .ref q_this_refused, .int above_, .int below_, v_this_reader, v_this_judge, v_this_rows, v_this_sets, v_this_walk, v_this_seats])), (q_this_now, .inr (1, [.int now_set_, .int now_room_, .int now_crew_, v_this_now_land, .ref q_this_now_text, v_this_now_knots, v_this_now_countedKnots, v_this_now_countedSizes, v_this_now_lasts, v_this_now_companies])), (q_this_now_text_values, .inl (kI, 200, .inl now_text_values_)), (q_this_refused, .inl (kI, 3, .inl refused_))]) rfl rfl rfl (by decide) (fun H locs hP hD hS => ?_)
        have hP : va_P D vwCl [(q_this, .inr (9, [.ref q_this_now, v_this_images, .int imagesKept_, .ref q_this_refused, .int above_, .int below_, v_this_reader, v_this_judge, v_this_rows, v_this_sets, v_this_walk, v_this_seats])), (q_this_now, .inr (1, [.int now_set_, .int now_room_, .int now_crew_, v_this_now_land, .ref q_this_now_text, v_this_now_knots, v_this_now_countedKnots, v_this_now_countedSizes, v_this_now_lasts, v_this_now_companies])), (q_this_now_text_values, .inl (kI, 200, .inl now_text_values_)), (q_this_refused, .inl (kI, 3, .inl refused_)), (q_this_now_text, .inr (7, [.ref q_this_now_text_values, .int now_text_size_]))] H := hP
        have hD : va_D A [(q_this, .inr (9, [.ref q_this_now, v_this_images, .int imagesKept_, .ref q_this_refused, .int above_, .int below_, v_this_reader, v_this_judge, v_this_rows, v_this_sets, v_this_walk, v_this_seats])), (q_this_now, .inr (1, [.int now_set_, .int now_room_, .int now_crew_, v_this_now_land, .ref q_this_now_text, v_this_now_knots, v_this_now_countedKnots, v_this_now_countedSizes, v_this_now_lasts, v_this_now_companies])), (q_this_now_text_values, .inl (kI, 200, .inl now_text_values_)), (q_this_refused, .inl (kI, 3, .inl refused_)), (q_this_now_text, .inr (7, [.ref q_this_now_text_values, .int now_text_size_]))] := hD
        have er := q_inj h
        subst er
        exact hret _ _ _ _ (hP.sub [0, 1, 4, 2, 3] rfl) (hD.sub [0, 1, 4, 2, 3] rfl rfl) hS dX9_type_94
      · replace h := q_f c1 h
        refine lv_aload_n hx hb dX9_type_56 rfl (lv_at hl 0 rfl) ?_
        refine va_get (D := D) (ci := 9) (C := RX9) (T := TX9) (N := 12) hx hb hts iw_X9_type_X9 hown hK hP 0 rfl rfl 0 (by decide) (hts _ lk_X9_type_0) (fun _ h9 => h9) rfl dX9_type_57 ?_
        refine va_get (D := D) (ci := 1) (C := RX1) (T := TX1) (N := 10) hx hb hts iw_X9_type_X1 hown hK hP 1 rfl rfl 4 (by decide) (hts _ lk_X9_type_1) (fun _ h9 => h9) rfl dX9_type_60 ?_
        refine lv_lload_n hx hb dX9_type_63 rfl (lv_at hl 1 rfl) ?_
        refine lv_bipush (v := 8) hx hb dX9_type_64 (by decide) ?_
        refine lv_iload hx hb dX9_type_66 (lv_at hl 2 rfl) ?_
        refine lv_imul hx hb dX9_type_68 ?_
        refine lv_lushr hx hb dX9_type_69 rfl ?_
        refine lv_ldc2 (v := 255) hx hb hown (hts _ lk_X9_type_2) dX9_type_70 ?_
        refine lv_land hx hb dX9_type_73 ?_
        refine lv_l2i hx hb dX9_type_74 rfl ?_
        obtain ⟨u75, hu75, h⟩ := q_b h
        refine q_aV (va_runV (As := [.int (((x1.toUInt64 >>> ((8 * x4).toInt64.toUInt64 &&& Int64.toUInt64 63)).toInt64 &&& 255).toInt32)]) (rest := []) ⟨hx, hb, hml, hown, hts⟩ (c_X7_add l D E kI kB kQ q_this_now_text q_this_now_text_values 200 now_text_size_ now_text_values_ (((x1.toUInt64 >>> ((8 * x4).toInt64.toUInt64 &&& Int64.toUInt64 63)).toInt64 &&& 255).toInt32) N u75 hu75 H.size) (cwV 1 hts gX9_type_X7_add rfl rfl rfl vd_X7_add ⟨Nat.le_of_ble_eq_true rfl, Nat.le_of_ble_eq_true rfl⟩) (q_pv hK hN hE hS hA hP hD [2, 3] rfl rfl rfl 2 rfl (ci := 7) rfl) rfl rfl hl.1 rfl (lv_room (Nat.le_of_ble_eq_true rfl)) dX9_type_75 ⟨Nat.zero_le _, Nat.zero_le _⟩) hP hD hS hA [2, 3] [0, 1, 4] (Wr := [(q_this, .inr (9, [.ref q_this_now, v_this_images, .int imagesKept_, .ref q_this_refused, .int above_, .int below_, v_this_reader, v_this_judge, v_this_rows, v_this_sets, v_this_walk, v_this_seats])), (q_this_now, .inr (1, [.int now_set_, .int now_room_, .int now_crew_, v_this_now_land, .ref q_this_now_text, v_this_now_knots, v_this_now_countedKnots, v_this_now_countedSizes, v_this_now_lasts, v_this_now_companies])), (q_this_refused, .inl (kI, 3, .inl refused_))]) rfl rfl rfl (by decide) (fun H locs hP hD hS => ?_)
        have hP : va_P D vwCl [(q_this, .inr (9, [.ref q_this_now, v_this_images, .int imagesKept_, .ref q_this_refused, .int above_, .int below_, v_this_reader, v_this_judge, v_this_rows, v_this_sets, v_this_walk, v_this_seats])), (q_this_now, .inr (1, [.int now_set_, .int now_room_, .int now_crew_, v_this_now_land, .ref q_this_now_text, v_this_now_knots, v_this_now_countedKnots, v_this_now_countedSizes, v_this_now_lasts, v_this_now_companies])), (q_this_refused, .inl (kI, 3, .inl refused_)), (q_this_now_text, .inr (7, [.ref q_this_now_text_values, .int u75.1])), (q_this_now_text_values, .inl (kI, 200, .inl u75.2))] H := hP
        have hD : va_D A [(q_this, .inr (9, [.ref q_this_now, v_this_images, .int imagesKept_, .ref q_this_refused, .int above_, .int below_, v_this_reader, v_this_judge, v_this_rows, v_this_sets, v_this_walk, v_this_seats])), (q_this_now, .inr (1, [.int now_set_, .int now_room_, .int now_crew_, v_this_now_land, .ref q_this_now_text, v_this_now_knots, v_this_now_countedKnots, v_this_now_countedSizes, v_this_now_lasts, v_this_now_companies])), (q_this_refused, .inl (kI, 3, .inl refused_)), (q_this_now_text, .inr (7, [.ref q_this_now_text_values, .int u75.1])), (q_this_now_text_values, .inl (kI, 200, .inl u75.2))] := hD
        refine lv_iinc (v := (x4 + (-1))) (lv' := [(4, .int (x4 + (-1))), (0, .ref q_this), (1, .long x1)]) hx hb dX9_type_78 hl (k := 2) rfl rfl (by decide) rfl (fun ls hl => ?_)
        refine lv_goto (tgt := 51) hx hb dX9_type_81 (by decide) ?_
        exact ih51 (x4 + (-1)) u75.1 u75.2 refused_ h _ _ _ (hP.sub [0, 1, 3, 4, 2] rfl) (hD.sub [0, 1, 3, 4, 2] rfl rfl) hS (lv_sub hl [1, 2, 0] rfl)
  refine lv_iload_n hx hb dX9_type_0 rfl (lv_at hl 2 rfl) ?_
  refine lv_iconst (v := 1) hx hb dX9_type_1 (by decide) ?_
  refine lv_bipush (v := 8) hx hb dX9_type_2 (by decide) ?_
  obtain ⟨u4, hu4, h⟩ := q_b h
  refine q_aI (va_runS (As := [.int x3, .int 1, .int 8]) (rest := []) ⟨hx, hb, hml, hown, hts⟩ (c_X9_isWithin l D E kI kB kQ x3 1 8 N u4 hu4 H.size) (va_cwS 3 hts gX9_type_X9_isWithin rfl rfl rfl nd_X9_isWithin ⟨Nat.le_of_ble_eq_true rfl, Nat.le_of_ble_eq_true rfl⟩) (q_ps hK hN hE hS hA hP hD [] rfl rfl rfl) rfl rfl hl.1 rfl (lv_room (Nat.le_of_ble_eq_true rfl)) dX9_type_4 ⟨Nat.zero_le _, Nat.zero_le _⟩) hP hD hS hA [] [0, 1, 2, 3, 4] (Wr := [(q_this, .inr (9, [.ref q_this_now, v_this_images, .int imagesKept_, .ref q_this_refused, .int above_, .int below_, v_this_reader, v_this_judge, v_this_rows, v_this_sets, v_this_walk, v_this_seats])), (q_this_now, .inr (1, [.int now_set_, .int now_room_, .int now_crew_, v_this_now_land, .ref q_this_now_text, v_this_now_knots, v_this_now_countedKnots, v_this_now_countedSizes, v_this_now_lasts, v_this_now_companies])), (q_this_now_text, .inr (7, [.ref q_this_now_text_values, .int now_text_size_])), (q_this_now_text_values, .inl (kI, 200, .inl now_text_values_)), (q_this_refused, .inl (kI, 3, .inl refused_))]) rfl rfl rfl (by decide) (fun H locs hP hD hS => ?_)
  have hP : va_P D vwCl [(q_this, .inr (9, [.ref q_this_now, v_this_images, .int imagesKept_, .ref q_this_refused, .int above_, .int below_, v_this_reader, v_this_judge, v_this_rows, v_this_sets, v_this_walk, v_this_seats])), (q_this_now, .inr (1, [.int now_set_, .int now_room_, .int now_crew_, v_this_now_land, .ref q_this_now_text, v_this_now_knots, v_this_now_countedKnots, v_this_now_countedSizes, v_this_now_lasts, v_this_now_companies])), (q_this_now_text, .inr (7, [.ref q_this_now_text_values, .int now_text_size_])), (q_this_now_text_values, .inl (kI, 200, .inl now_text_values_)), (q_this_refused, .inl (kI, 3, .inl refused_))] H := hP
  have hD : va_D A [(q_this, .inr (9, [.ref q_this_now, v_this_images, .int imagesKept_, .ref q_this_refused, .int above_, .int below_, v_this_reader, v_this_judge, v_this_rows, v_this_sets, v_this_walk, v_this_seats])), (q_this_now, .inr (1, [.int now_set_, .int now_room_, .int now_crew_, v_this_now_land, .ref q_this_now_text, v_this_now_knots, v_this_now_countedKnots, v_this_now_countedSizes, v_this_now_lasts, v_this_now_companies])), (q_this_now_text, .inr (7, [.ref q_this_now_text_values, .int now_text_size_])), (q_this_now_text_values, .inl (kI, 200, .inl now_text_values_)), (q_this_refused, .inl (kI, 3, .inl refused_))] := hD
  refine lv_if_ne (tgt := 19) hx hb dX9_type_7 (by decide) (fun c2 => ?_) (fun c2 => ?_)
  · replace h := q_f c2 h
    refine lv_aload_n hx hb dX9_type_19 rfl (lv_at hl 0 rfl) ?_
    refine va_get (D := D) (ci := 9) (C := RX9) (T := TX9) (N := 12) hx hb hts iw_X9_type_X9 hown hK hP 0 rfl rfl 0 (by decide) (hts _ lk_X9_type_0) (fun _ h9 => h9) rfl dX9_type_20 ?_
    refine va_get (D := D) (ci := 1) (C := RX1) (T := TX1) (N := 10) hx hb hts iw_X9_type_X1 hown hK hP 1 rfl rfl 4 (by decide) (hts _ lk_X9_type_1) (fun _ h9 => h9) rfl dX9_type_23 ?_
    obtain ⟨u26, hu26, h⟩ := q_b h
    refine q_aI (va_runV (As := []) (rest := []) ⟨hx, hb, hml, hown, hts⟩ (c_X7_size l D E kI kB kQ q_this_now_text (.ref q_this_now_text_values) now_text_size_ N u26 hu26 H.size) (cwV 0 hts gX9_type_X7_size rfl rfl rfl vd_X7_size ⟨Nat.le_of_ble_eq_true rfl, Nat.le_of_ble_eq_true rfl⟩) (q_pv hK hN hE hS hA hP hD [2] rfl rfl rfl 2 rfl (ci := 7) rfl) rfl rfl hl.1 rfl (lv_room (Nat.le_of_ble_eq_true rfl)) dX9_type_26 ⟨Nat.zero_le _, Nat.zero_le _⟩) hP hD hS hA [2] [0, 1, 3, 4] (Wr := [(q_this, .inr (9, [.ref q_this_now, v_this_images, .int imagesKept_, .ref q_this_refused, .int above_, .int below_, v_this_reader, v_this_judge, v_this_rows, v_this_sets, v_this_walk, v_this_seats])), (q_this_now, .inr (1, [.int now_set_, .int now_room_, .int now_crew_, v_this_now_land, .ref q_this_now_text, v_this_now_knots, v_this_now_countedKnots, v_this_now_countedSizes, v_this_now_lasts, v_this_now_companies])), (q_this_now_text_values, .inl (kI, 200, .inl now_text_values_)), (q_this_refused, .inl (kI, 3, .inl refused_))]) rfl rfl rfl (by decide) (fun H locs hP hD hS => ?_)
    have hP : va_P D vwCl [(q_this, .inr (9, [.ref q_this_now, v_this_images, .int imagesKept_, .ref q_this_refused, .int above_, .int below_, v_this_reader, v_this_judge, v_this_rows, v_this_sets, v_this_walk, v_this_seats])), (q_this_now, .inr (1, [.int now_set_, .int now_room_, .int now_crew_, v_this_now_land, .ref q_this_now_text, v_this_now_knots, v_this_now_countedKnots, v_this_now_countedSizes, v_this_now_lasts, v_this_now_companies])), (q_this_now_text_values, .inl (kI, 200, .inl now_text_values_)), (q_this_refused, .inl (kI, 3, .inl refused_)), (q_this_now_text, .inr (7, [.ref q_this_now_text_values, .int now_text_size_]))] H := hP
    have hD : va_D A [(q_this, .inr (9, [.ref q_this_now, v_this_images, .int imagesKept_, .ref q_this_refused, .int above_, .int below_, v_this_reader, v_this_judge, v_this_rows, v_this_sets, v_this_walk, v_this_seats])), (q_this_now, .inr (1, [.int now_set_, .int now_room_, .int now_crew_, v_this_now_land, .ref q_this_now_text, v_this_now_knots, v_this_now_countedKnots, v_this_now_countedSizes, v_this_now_lasts, v_this_now_companies])), (q_this_now_text_values, .inl (kI, 200, .inl now_text_values_)), (q_this_refused, .inl (kI, 3, .inl refused_)), (q_this_now_text, .inr (7, [.ref q_this_now_text_values, .int now_text_size_]))] := hD
    refine lv_iload_n hx hb dX9_type_29 rfl (lv_at hl 2 rfl) ?_
    refine lv_iadd hx hb dX9_type_30 ?_
    refine lv_sipush (v := 200) hx hb dX9_type_31 (by decide) ?_
    refine lv_icmp_le (tgt := 46) hx hb dX9_type_34 (by decide) (fun c3 => ?_) (fun c3 => ?_)
    · replace h := q_t c3 h
      refine lv_iload_n hx hb dX9_type_46 rfl (lv_at hl 2 rfl) ?_
      refine lv_iconst (v := 1) hx hb dX9_type_47 (by decide) ?_
      refine lv_isub hx hb dX9_type_48 ?_
      refine lv_istore (lv' := [(4, .int (x3 - 1)), (0, .ref q_this), (1, .long x1), (3, .int x3)]) hx hb dX9_type_49 hl (by decide) rfl (fun ls hl => ?_)
      exact J51 N (x3 - 1) now_text_size_ now_text_values_ refused_ h _ _ _ (hP.sub [0, 1, 4, 2, 3] rfl) (hD.sub [0, 1, 4, 2, 3] rfl rfl) hS (lv_sub hl [1, 2, 0] rfl)
    · replace h := q_f c3 h
      refine lv_aload_n hx hb dX9_type_37 rfl (lv_at hl 0 rfl) ?_
      refine lv_bipush (v := (-4)) hx hb dX9_type_38 (by decide) ?_
      refine lv_bipush (v := (-4)) hx hb dX9_type_40 (by decide) ?_
      obtain ⟨u42, hu42, h⟩ := q_b h
      refine q_aI (va_runV (As := [.int (-4), .int (-4)]) (rest := []) ⟨hx, hb, hml, hown, hts⟩ (c_X9_refuse l D E kI kB kQ q_this q_this_refused (.ref q_this_now) v_this_images v_this_reader v_this_judge v_this_rows v_this_sets v_this_walk v_this_seats imagesKept_ above_ below_ refused_ (-4) (-4) N u42 hu42 H.size) (cwV 2 hts gX9_type_X9_refuse rfl rfl rfl vd_X9_refuse ⟨Nat.le_of_ble_eq_true rfl, Nat.le_of_ble_eq_true rfl⟩) (q_pv hK hN hE hS hA hP hD [0, 3] rfl rfl rfl 0 rfl (ci := 9) rfl) rfl rfl hl.1 rfl (lv_room (Nat.le_of_ble_eq_true rfl)) dX9_type_42 ⟨Nat.zero_le _, Nat.zero_le _⟩) hP hD hS hA [0, 3] [1, 2, 4] (Wr := [(q_this_now, .inr (1, [.int now_set_, .int now_room_, .int now_crew_, v_this_now_land, .ref q_this_now_text, v_this_now_knots, v_this_now_countedKnots, v_this_now_countedSizes, v_this_now_lasts, v_this_now_companies])), (q_this_now_text_values, .inl (kI, 200, .inl now_text_values_)), (q_this_now_text, .inr (7, [.ref q_this_now_text_values, .int now_text_size_]))]) rfl rfl rfl (by decide) (fun H locs hP hD hS => ?_)
      have hP : va_P D vwCl [(q_this_now, .inr (1, [.int now_set_, .int now_room_, .int now_crew_, v_this_now_land, .ref q_this_now_text, v_this_now_knots, v_this_now_countedKnots, v_this_now_countedSizes, v_this_now_lasts, v_this_now_companies])), (q_this_now_text_values, .inl (kI, 200, .inl now_text_values_)), (q_this_now_text, .inr (7, [.ref q_this_now_text_values, .int now_text_size_])), (q_this, .inr (9, [.ref q_this_now, v_this_images, .int imagesKept_, .ref q_this_refused, .int above_, .int below_, v_this_reader, v_this_judge, v_this_rows, v_this_sets, v_this_walk, v_this_seats])), (q_this_refused, .inl (kI, 3, .inl u42.2))] H := hP
      have hD : va_D A [(q_this_now, .inr (1, [.int now_set_, .int now_room_, .int now_crew_, v_this_now_land, .ref q_this_now_text, v_this_now_knots, v_this_now_countedKnots, v_this_now_countedSizes, v_this_now_lasts, v_this_now_companies])), (q_this_now_text_values, .inl (kI, 200, .inl now_text_values_)), (q_this_now_text, .inr (7, [.ref q_this_now_text_values, .int now_text_size_])), (q_this, .inr (9, [.ref q_this_now, v_this_images, .int imagesKept_, .ref q_this_refused, .int above_, .int below_, v_this_reader, v_this_judge, v_this_rows, v_this_sets, v_this_walk, v_this_seats])), (q_this_refused, .inl (kI, 3, .inl u42.2))] := hD
      have er := q_inj h
      subst er
      exact hret _ _ _ _ (hP.sub [3, 0, 2, 1, 4] rfl) (hD.sub [3, 0, 2, 1, 4] rfl rfl) hS dX9_type_45
  · replace h := q_t c2 h
    refine lv_aload_n hx hb dX9_type_10 rfl (lv_at hl 0 rfl) ?_
    refine lv_bipush (v := (-2)) hx hb dX9_type_11 (by decide) ?_
    refine lv_bipush (v := (-2)) hx hb dX9_type_13 (by decide) ?_
    obtain ⟨u15, hu15, h⟩ := q_b h
    refine q_aI (va_runV (As := [.int (-2), .int (-2)]) (rest := []) ⟨hx, hb, hml, hown, hts⟩ (c_X9_refuse l D E kI kB kQ q_this q_this_refused (.ref q_this_now) v_this_images v_this_reader v_this_judge v_this_rows v_this_sets v_this_walk v_this_seats imagesKept_ above_ below_ refused_ (-2) (-2) N u15 hu15 H.size) (cwV 2 hts gX9_type_X9_refuse rfl rfl rfl vd_X9_refuse ⟨Nat.le_of_ble_eq_true rfl, Nat.le_of_ble_eq_true rfl⟩) (q_pv hK hN hE hS hA hP hD [0, 4] rfl rfl rfl 0 rfl (ci := 9) rfl) rfl rfl hl.1 rfl (lv_room (Nat.le_of_ble_eq_true rfl)) dX9_type_15 ⟨Nat.zero_le _, Nat.zero_le _⟩) hP hD hS hA [0, 4] [1, 2, 3] (Wr := [(q_this_now, .inr (1, [.int now_set_, .int now_room_, .int now_crew_, v_this_now_land, .ref q_this_now_text, v_this_now_knots, v_this_now_countedKnots, v_this_now_countedSizes, v_this_now_lasts, v_this_now_companies])), (q_this_now_text, .inr (7, [.ref q_this_now_text_values, .int now_text_size_])), (q_this_now_text_values, .inl (kI, 200, .inl now_text_values_))]) rfl rfl rfl (by decide) (fun H locs hP hD hS => ?_)
    have hP : va_P D vwCl [(q_this_now, .inr (1, [.int now_set_, .int now_room_, .int now_crew_, v_this_now_land, .ref q_this_now_text, v_this_now_knots, v_this_now_countedKnots, v_this_now_countedSizes, v_this_now_lasts, v_this_now_companies])), (q_this_now_text, .inr (7, [.ref q_this_now_text_values, .int now_text_size_])), (q_this_now_text_values, .inl (kI, 200, .inl now_text_values_)), (q_this, .inr (9, [.ref q_this_now, v_this_images, .int imagesKept_, .ref q_this_refused, .int above_, .int below_, v_this_reader, v_this_judge, v_this_rows, v_this_sets, v_this_walk, v_this_seats])), (q_this_refused, .inl (kI, 3, .inl u15.2))] H := hP
    have hD : va_D A [(q_this_now, .inr (1, [.int now_set_, .int now_room_, .int now_crew_, v_this_now_land, .ref q_this_now_text, v_this_now_knots, v_this_now_countedKnots, v_this_now_countedSizes, v_this_now_lasts, v_this_now_companies])), (q_this_now_text, .inr (7, [.ref q_this_now_text_values, .int now_text_size_])), (q_this_now_text_values, .inl (kI, 200, .inl now_text_values_)), (q_this, .inr (9, [.ref q_this_now, v_this_images, .int imagesKept_, .ref q_this_refused, .int above_, .int below_, v_this_reader, v_this_judge, v_this_rows, v_this_sets, v_this_walk, v_this_seats])), (q_this_refused, .inl (kI, 3, .inl u15.2))] := hD
    have er := q_inj h
    subst er
    exact hret _ _ _ _ (hP.sub [3, 0, 1, 2, 4] rfl) (hD.sub [3, 0, 1, 2, 4] rfl rfl) hS dX9_type_18
abbrev rm_X7_empty : Room := { frames := 0, cells := 0, slots := 0, locals := 0 }
theorem iw_X7_empty_X7 : ∀ w ∈ wsX70, w ∈ wsX7_empty := by decide +kernel
theorem lk_X7_empty_0 : Cond.fieldLink RX7 19 "OnlyPrimes$Slots" "size" "I" ∈ wsX7_empty := List.mem_of_getElem? (i := 1) (by decide +kernel)
theorem nd_X7_empty : yX7_empty.cls ≠ "java/lang/invoke/MethodHandle" ∧ yX7_empty.cls ≠ "java/lang/invoke/VarHandle" ∧ (parseMethodDescriptor yX7_empty.desc).map (fun d => d.parameters.length) = some 0 := by decide +kernel
theorem vd_X7_empty : yX7_empty.cls = RX7 ∧ yX7_empty.cls ≠ "java/lang/invoke/MethodHandle" ∧ yX7_empty.cls ≠ "java/lang/invoke/VarHandle" ∧ (parseMethodDescriptor yX7_empty.desc).map (fun d => d.parameters.length) = some 0 := by decide +kernel
set_option maxHeartbeats 4000000 in
set_option maxRecDepth 100000 in
theorem c_X7_empty (l : Launch) (D : va_G) (E : q_En) (kI kB kQ : ClassId) (q_this : Nat) (v_this_values : Value) (size_ : Int32) (N : Nat) (r : Int32) (hf : g_X7_empty = some r) : CtV l D E yX7_empty wsX7_empty rm_X7_empty (q_tys kI kB kQ) [.ref q_this] [(q_this, .inr (7, [v_this_values, .int size_]))] [(q_this, .inr (7, [v_this_values, .int r]))] := by
  refine q_enterV cX7_empty 1 RX7 (by decide) rfl (Nat.le_of_ble_eq_true rfl) rfl ?_
  intro p e s m args below meth c Q A ls H hx hb hml hown hts hK hN hE hA hP hS hD hl hret
  have hl : lv_has ls 1 [(0, .ref q_this)] := hl
  have h := hf
  rw [g_X7_empty] at h
  refine lv_aload_n hx hb dX7_empty_0 rfl (lv_at hl 0 rfl) ?_
  refine lv_iconst (v := 0) hx hb dX7_empty_1 (by decide) ?_
  refine va_put (D := D) (ci := 7) (v := .int 0) (ty := .int) (C := RX7) (T := TX7) (N := 2) hx hb hts iw_X7_empty_X7 tyX7 tyX7_ok nmX7 hown hK hP hD hS 0 rfl rfl 1 (by decide) (hts _ lk_X7_empty_0) (fun _ h9 => h9) rfl (by decide +kernel) rfl rfl (Nat.le_of_ble_eq_true rfl) dX7_empty_2 (fun H locs hP hD hS => ?_)
  have hP : va_P D vwCl [(q_this, .inr (7, [v_this_values, .int 0]))] H := hP
  have hD : va_D A [(q_this, .inr (7, [v_this_values, .int 0]))] := hD
  have er := q_inj h
  subst er
  exact hret _ _ _ _ (hP.sub [0] rfl) (hD.sub [0] rfl rfl) hS dX7_empty_5
abbrev rm_X9_clear : Room := { frames := 1, cells := 0, slots := 0, locals := 20 }
theorem lk_X9_clear_0 : Cond.fieldLink RX9 10 "OnlyPrimes" "now" "LOnlyPrimes$Kept;" ∈ wsX9_clear := List.mem_of_getElem? (i := 1) (by decide +kernel)
theorem iw_X9_clear_X9 : ∀ w ∈ wsX90, w ∈ wsX9_clear := by decide +kernel
theorem lk_X9_clear_1 : Cond.fieldLink RX9 124 "OnlyPrimes$Kept" "text" "LOnlyPrimes$Slots;" ∈ wsX9_clear := List.mem_of_getElem? (i := 2) (by decide +kernel)
theorem iw_X9_clear_X1 : ∀ w ∈ wsX10, w ∈ wsX9_clear := by decide +kernel
theorem nd_X9_clear : yX9_clear.cls ≠ "java/lang/invoke/MethodHandle" ∧ yX9_clear.cls ≠ "java/lang/invoke/VarHandle" ∧ (parseMethodDescriptor yX9_clear.desc).map (fun d => d.parameters.length) = some 0 := by decide +kernel
theorem vd_X9_clear : yX9_clear.cls = RX9 ∧ yX9_clear.cls ≠ "java/lang/invoke/MethodHandle" ∧ yX9_clear.cls ≠ "java/lang/invoke/VarHandle" ∧ (parseMethodDescriptor yX9_clear.desc).map (fun d => d.parameters.length) = some 0 := by decide +kernel
set_option maxHeartbeats 4000000 in
set_option maxRecDepth 100000 in
theorem c_X9_clear (l : Launch) (D : va_G) (E : q_En) (kI kB kQ : ClassId) (q_this : Nat) (q_this_now : Nat) (q_this_now_text : Nat) (v_this_images : Value) (v_this_refused : Value) (v_this_reader : Value) (v_this_judge : Value) (v_this_rows : Value) (v_this_sets : Value) (v_this_walk : Value) (v_this_seats : Value) (v_this_now_land : Value) (v_this_now_knots : Value) (v_this_now_countedKnots : Value) (v_this_now_countedSizes : Value) (v_this_now_lasts : Value) (v_this_now_companies : Value) (v_this_now_text_values : Value) (imagesKept_ : Int32) (above_ : Int32) (below_ : Int32) (now_set_ : Int32) (now_room_ : Int32) (now_crew_ : Int32) (now_text_size_ : Int32) (N : Nat) (r : Int32 × Int32) (hf : g_X9_clear now_text_size_ = some r) : CtI l D E yX9_clear wsX9_clear rm_X9_clear (q_tys kI kB kQ) [.ref q_this] [(q_this, .inr (9, [.ref q_this_now, v_this_images, .int imagesKept_, v_this_refused, .int above_, .int below_, v_this_reader, v_this_judge, v_this_rows, v_this_sets, v_this_walk, v_this_seats])), (q_this_now, .inr (1, [.int now_set_, .int now_room_, .int now_crew_, v_this_now_land, .ref q_this_now_text, v_this_now_knots, v_this_now_countedKnots, v_this_now_countedSizes, v_this_now_lasts, v_this_now_companies])), (q_this_now_text, .inr (7, [v_this_now_text_values, .int now_text_size_]))] [(q_this, .inr (9, [.ref q_this_now, v_this_images, .int imagesKept_, v_this_refused, .int above_, .int below_, v_this_reader, v_this_judge, v_this_rows, v_this_sets, v_this_walk, v_this_seats])), (q_this_now, .inr (1, [.int now_set_, .int now_room_, .int now_crew_, v_this_now_land, .ref q_this_now_text, v_this_now_knots, v_this_now_countedKnots, v_this_now_countedSizes, v_this_now_lasts, v_this_now_companies])), (q_this_now_text, .inr (7, [v_this_now_text_values, .int r.2]))] r.1 := by
  refine q_enterI cX9_clear 2 RX9 (by decide) rfl (Nat.le_of_ble_eq_true rfl) rfl ?_
  intro p e s m args below meth c Q A ls H hx hb hml hown hts hK hN hE hA hP hS hD hl hret
  have hl : lv_has ls 2 [(0, .ref q_this)] := hl
  have h := hf
  rw [g_X9_clear] at h
  refine lv_aload_n hx hb dX9_clear_0 rfl (lv_at hl 0 rfl) ?_
  refine va_get (D := D) (ci := 9) (C := RX9) (T := TX9) (N := 12) hx hb hts iw_X9_clear_X9 hown hK hP 0 rfl rfl 0 (by decide) (hts _ lk_X9_clear_0) (fun _ h9 => h9) rfl dX9_clear_1 ?_
  refine va_get (D := D) (ci := 1) (C := RX1) (T := TX1) (N := 10) hx hb hts iw_X9_clear_X1 hown hK hP 1 rfl rfl 4 (by decide) (hts _ lk_X9_clear_1) (fun _ h9 => h9) rfl dX9_clear_4 ?_
  obtain ⟨u7, hu7, h⟩ := q_b h
  refine q_aI (va_runV (As := []) (rest := []) ⟨hx, hb, hml, hown, hts⟩ (c_X7_size l D E kI kB kQ q_this_now_text v_this_now_text_values now_text_size_ N u7 hu7 H.size) (cwV 0 hts gX9_clear_X7_size rfl rfl rfl vd_X7_size ⟨Nat.le_of_ble_eq_true rfl, Nat.le_of_ble_eq_true rfl⟩) (q_pv hK hN hE hS hA hP hD [2] rfl rfl rfl 2 rfl (ci := 7) rfl) rfl rfl hl.1 rfl (lv_room (Nat.le_of_ble_eq_true rfl)) dX9_clear_7 ⟨Nat.zero_le _, Nat.zero_le _⟩) hP hD hS hA [2] [0, 1] (Wr := [(q_this, .inr (9, [.ref q_this_now, v_this_images, .int imagesKept_, v_this_refused, .int above_, .int below_, v_this_reader, v_this_judge, v_this_rows, v_this_sets, v_this_walk, v_this_seats])), (q_this_now, .inr (1, [.int now_set_, .int now_room_, .int now_crew_, v_this_now_land, .ref q_this_now_text, v_this_now_knots, v_this_now_countedKnots, v_this_now_countedSizes, v_this_now_lasts, v_this_now_companies]))]) rfl rfl rfl (by decide) (fun H locs hP hD hS => ?_)
  have hP : va_P D vwCl [(q_this, .inr (9, [.ref q_this_now, v_this_images, .int imagesKept_, v_this_refused, .int above_, .int below_, v_this_reader, v_this_judge, v_this_rows, v_this_sets, v_this_walk, v_this_seats])), (q_this_now, .inr (1, [.int now_set_, .int now_room_, .int now_crew_, v_this_now_land, .ref q_this_now_text, v_this_now_knots, v_this_now_countedKnots, v_this_now_countedSizes, v_this_now_lasts, v_this_now_companies])), (q_this_now_text, .inr (7, [v_this_now_text_values, .int now_text_size_]))] H := hP
  have hD : va_D A [(q_this, .inr (9, [.ref q_this_now, v_this_images, .int imagesKept_, v_this_refused, .int above_, .int below_, v_this_reader, v_this_judge, v_this_rows, v_this_sets, v_this_walk, v_this_seats])), (q_this_now, .inr (1, [.int now_set_, .int now_room_, .int now_crew_, v_this_now_land, .ref q_this_now_text, v_this_now_knots, v_this_now_countedKnots, v_this_now_countedSizes, v_this_now_lasts, v_this_now_companies])), (q_this_now_text, .inr (7, [v_this_now_text_values, .int now_text_size_]))] := hD
  refine lv_istore_n (lv' := [(1, .int u7), (0, .ref q_this)]) hx hb dX9_clear_10 rfl hl (by decide) rfl (fun ls hl => ?_)
  refine lv_aload_n hx hb dX9_clear_11 rfl (lv_at hl 1 rfl) ?_
  refine va_get (D := D) (ci := 9) (C := RX9) (T := TX9) (N := 12) hx hb hts iw_X9_clear_X9 hown hK hP 0 rfl rfl 0 (by decide) (hts _ lk_X9_clear_0) (fun _ h9 => h9) rfl dX9_clear_12 ?_
  refine va_get (D := D) (ci := 1) (C := RX1) (T := TX1) (N := 10) hx hb hts iw_X9_clear_X1 hown hK hP 1 rfl rfl 4 (by decide) (hts _ lk_X9_clear_1) (fun _ h9 => h9) rfl dX9_clear_15 ?_
  obtain ⟨u18, hu18, h⟩ := q_b h
  refine q_aV (va_runV (As := []) (rest := []) ⟨hx, hb, hml, hown, hts⟩ (c_X7_empty l D E kI kB kQ q_this_now_text v_this_now_text_values now_text_size_ N u18 hu18 H.size) (cwV 0 hts gX9_clear_X7_empty rfl rfl rfl vd_X7_empty ⟨Nat.le_of_ble_eq_true rfl, Nat.le_of_ble_eq_true rfl⟩) (q_pv hK hN hE hS hA hP hD [2] rfl rfl rfl 2 rfl (ci := 7) rfl) rfl rfl hl.1 rfl (lv_room (Nat.le_of_ble_eq_true rfl)) dX9_clear_18 ⟨Nat.zero_le _, Nat.zero_le _⟩) hP hD hS hA [2] [0, 1] (Wr := [(q_this, .inr (9, [.ref q_this_now, v_this_images, .int imagesKept_, v_this_refused, .int above_, .int below_, v_this_reader, v_this_judge, v_this_rows, v_this_sets, v_this_walk, v_this_seats])), (q_this_now, .inr (1, [.int now_set_, .int now_room_, .int now_crew_, v_this_now_land, .ref q_this_now_text, v_this_now_knots, v_this_now_countedKnots, v_this_now_countedSizes, v_this_now_lasts, v_this_now_companies]))]) rfl rfl rfl (by decide) (fun H locs hP hD hS => ?_)
  have hP : va_P D vwCl [(q_this, .inr (9, [.ref q_this_now, v_this_images, .int imagesKept_, v_this_refused, .int above_, .int below_, v_this_reader, v_this_judge, v_this_rows, v_this_sets, v_this_walk, v_this_seats])), (q_this_now, .inr (1, [.int now_set_, .int now_room_, .int now_crew_, v_this_now_land, .ref q_this_now_text, v_this_now_knots, v_this_now_countedKnots, v_this_now_countedSizes, v_this_now_lasts, v_this_now_companies])), (q_this_now_text, .inr (7, [v_this_now_text_values, .int u18]))] H := hP
  have hD : va_D A [(q_this, .inr (9, [.ref q_this_now, v_this_images, .int imagesKept_, v_this_refused, .int above_, .int below_, v_this_reader, v_this_judge, v_this_rows, v_this_sets, v_this_walk, v_this_seats])), (q_this_now, .inr (1, [.int now_set_, .int now_room_, .int now_crew_, v_this_now_land, .ref q_this_now_text, v_this_now_knots, v_this_now_countedKnots, v_this_now_countedSizes, v_this_now_lasts, v_this_now_companies])), (q_this_now_text, .inr (7, [v_this_now_text_values, .int u18]))] := hD
  refine lv_iload_n hx hb dX9_clear_21 rfl (lv_at hl 0 rfl) ?_
  have er := q_inj h
  subst er
  exact hret _ _ _ _ (hP.sub [0, 1, 2] rfl) (hD.sub [0, 1, 2] rfl rfl) hS dX9_clear_22
abbrev rm_X2_empty : Room := { frames := 1, cells := 0, slots := 0, locals := 20 }
theorem iw_X2_empty_X2 : ∀ w ∈ wsX20, w ∈ wsX2_empty := by decide +kernel
theorem lk_X2_empty_0 : Cond.fieldLink RX2 39 "OnlyPrimes$Land" "ways" "I" ∈ wsX2_empty := List.mem_of_getElem? (i := 1) (by decide +kernel)
theorem lk_X2_empty_1 : Cond.fieldLink RX2 14 "OnlyPrimes$Land" "starts" "LOnlyPrimes$Slots;" ∈ wsX2_empty := List.mem_of_getElem? (i := 2) (by decide +kernel)
theorem lk_X2_empty_2 : Cond.fieldLink RX2 20 "OnlyPrimes$Land" "homes" "LOnlyPrimes$Slots;" ∈ wsX2_empty := List.mem_of_getElem? (i := 3) (by decide +kernel)
theorem lk_X2_empty_3 : Cond.fieldLink RX2 23 "OnlyPrimes$Land" "hours" "LOnlyPrimes$Slots;" ∈ wsX2_empty := List.mem_of_getElem? (i := 4) (by decide +kernel)
theorem lk_X2_empty_4 : Cond.fieldLink RX2 26 "OnlyPrimes$Land" "froms" "LOnlyPrimes$Slots;" ∈ wsX2_empty := List.mem_of_getElem? (i := 5) (by decide +kernel)
theorem lk_X2_empty_5 : Cond.fieldLink RX2 29 "OnlyPrimes$Land" "tos" "LOnlyPrimes$Slots;" ∈ wsX2_empty := List.mem_of_getElem? (i := 6) (by decide +kernel)
theorem lk_X2_empty_6 : Cond.fieldLink RX2 32 "OnlyPrimes$Land" "bands" "LOnlyPrimes$Slots;" ∈ wsX2_empty := List.mem_of_getElem? (i := 7) (by decide +kernel)
theorem nd_X2_empty : yX2_empty.cls ≠ "java/lang/invoke/MethodHandle" ∧ yX2_empty.cls ≠ "java/lang/invoke/VarHandle" ∧ (parseMethodDescriptor yX2_empty.desc).map (fun d => d.parameters.length) = some 0 := by decide +kernel
theorem vd_X2_empty : yX2_empty.cls = RX2 ∧ yX2_empty.cls ≠ "java/lang/invoke/MethodHandle" ∧ yX2_empty.cls ≠ "java/lang/invoke/VarHandle" ∧ (parseMethodDescriptor yX2_empty.desc).map (fun d => d.parameters.length) = some 0 := by decide +kernel
set_option maxHeartbeats 4000000 in
set_option maxRecDepth 100000 in
theorem c_X2_empty (l : Launch) (D : va_G) (E : q_En) (kI kB kQ : ClassId) (q_this : Nat) (q_this_bands : Nat) (q_this_froms : Nat) (q_this_homes : Nat) (q_this_hours : Nat) (q_this_starts : Nat) (q_this_tos : Nat) (v_this_bands_values : Value) (v_this_froms_values : Value) (v_this_homes_values : Value) (v_this_hours_values : Value) (v_this_starts_values : Value) (v_this_tos_values : Value) (ways_ : Int32) (bands_size_ : Int32) (froms_size_ : Int32) (homes_size_ : Int32) (hours_size_ : Int32) (starts_size_ : Int32) (tos_size_ : Int32) (N : Nat) (r : Int32 × Int32 × Int32 × Int32 × Int32 × Int32 × Int32) (hf : g_X2_empty = some r) : CtV l D E yX2_empty wsX2_empty rm_X2_empty (q_tys kI kB kQ) [.ref q_this] [(q_this, .inr (2, [.int ways_, .ref q_this_starts, .ref q_this_homes, .ref q_this_hours, .ref q_this_froms, .ref q_this_tos, .ref q_this_bands])), (q_this_bands, .inr (7, [v_this_bands_values, .int bands_size_])), (q_this_froms, .inr (7, [v_this_froms_values, .int froms_size_])), (q_this_homes, .inr (7, [v_this_homes_values, .int homes_size_])), (q_this_hours, .inr (7, [v_this_hours_values, .int hours_size_])), (q_this_starts, .inr (7, [v_this_starts_values, .int starts_size_])), (q_this_tos, .inr (7, [v_this_tos_values, .int tos_size_]))] [(q_this, .inr (2, [.int r.1, .ref q_this_starts, .ref q_this_homes, .ref q_this_hours, .ref q_this_froms, .ref q_this_tos, .ref q_this_bands])), (q_this_bands, .inr (7, [v_this_bands_values, .int r.2.1])), (q_this_froms, .inr (7, [v_this_froms_values, .int r.2.2.1])), (q_this_homes, .inr (7, [v_this_homes_values, .int r.2.2.2.1])), (q_this_hours, .inr (7, [v_this_hours_values, .int r.2.2.2.2.1])), (q_this_starts, .inr (7, [v_this_starts_values, .int r.2.2.2.2.2.1])), (q_this_tos, .inr (7, [v_this_tos_values, .int r.2.2.2.2.2.2]))] := by
  refine q_enterV cX2_empty 1 RX2 (by decide) rfl (Nat.le_of_ble_eq_true rfl) rfl ?_
  intro p e s m args below meth c Q A ls H hx hb hml hown hts hK hN hE hA hP hS hD hl hret
  have hl : lv_has ls 1 [(0, .ref q_this)] := hl
  have h := hf
  rw [g_X2_empty] at h
  refine lv_aload_n hx hb dX2_empty_0 rfl (lv_at hl 0 rfl) ?_
  refine lv_iconst (v := 0) hx hb dX2_empty_1 (by decide) ?_
  refine va_put (D := D) (ci := 2) (v := .int 0) (ty := .int) (C := RX2) (T := TX2) (N := 7) hx hb hts iw_X2_empty_X2 tyX2 tyX2_ok nmX2 hown hK hP hD hS 0 rfl rfl 0 (by decide) (hts _ lk_X2_empty_0) (fun _ h9 => h9) rfl (by decide +kernel) rfl rfl (Nat.le_of_ble_eq_true rfl) dX2_empty_2 (fun H locs hP hD hS => ?_)
  have hP : va_P D vwCl [(q_this, .inr (2, [.int 0, .ref q_this_starts, .ref q_this_homes, .ref q_this_hours, .ref q_this_froms, .ref q_this_tos, .ref q_this_bands])), (q_this_bands, .inr (7, [v_this_bands_values, .int bands_size_])), (q_this_froms, .inr (7, [v_this_froms_values, .int froms_size_])), (q_this_homes, .inr (7, [v_this_homes_values, .int homes_size_])), (q_this_hours, .inr (7, [v_this_hours_values, .int hours_size_])), (q_this_starts, .inr (7, [v_this_starts_values, .int starts_size_])), (q_this_tos, .inr (7, [v_this_tos_values, .int tos_size_]))] H := hP
  have hD : va_D A [(q_this, .inr (2, [.int 0, .ref q_this_starts, .ref q_this_homes, .ref q_this_hours, .ref q_this_froms, .ref q_this_tos, .ref q_this_bands])), (q_this_bands, .inr (7, [v_this_bands_values, .int bands_size_])), (q_this_froms, .inr (7, [v_this_froms_values, .int froms_size_])), (q_this_homes, .inr (7, [v_this_homes_values, .int homes_size_])), (q_this_hours, .inr (7, [v_this_hours_values, .int hours_size_])), (q_this_starts, .inr (7, [v_this_starts_values, .int starts_size_])), (q_this_tos, .inr (7, [v_this_tos_values, .int tos_size_]))] := hD
  refine lv_aload_n hx hb dX2_empty_5 rfl (lv_at hl 0 rfl) ?_
  refine va_get (D := D) (ci := 2) (C := RX2) (T := TX2) (N := 7) hx hb hts iw_X2_empty_X2 hown hK hP 0 rfl rfl 1 (by decide) (hts _ lk_X2_empty_1) (fun _ h9 => h9) rfl dX2_empty_6 ?_
  obtain ⟨u9, hu9, h⟩ := q_b h
  refine q_aV (va_runV (As := []) (rest := []) ⟨hx, hb, hml, hown, hts⟩ (c_X7_empty l D E kI kB kQ q_this_starts v_this_starts_values starts_size_ N u9 hu9 H.size) (cwV 0 hts gX2_empty_X7_empty rfl rfl rfl vd_X7_empty ⟨Nat.le_of_ble_eq_true rfl, Nat.le_of_ble_eq_true rfl⟩) (q_pv hK hN hE hS hA hP hD [5] rfl rfl rfl 5 rfl (ci := 7) rfl) rfl rfl hl.1 rfl (lv_room (Nat.le_of_ble_eq_true rfl)) dX2_empty_9 ⟨Nat.zero_le _, Nat.zero_le _⟩) hP hD hS hA [5] [0, 1, 2, 3, 4, 6] (Wr := [(q_this, .inr (2, [.int 0, .ref q_this_starts, .ref q_this_homes, .ref q_this_hours, .ref q_this_froms, .ref q_this_tos, .ref q_this_bands])), (q_this_bands, .inr (7, [v_this_bands_values, .int bands_size_])), (q_this_froms, .inr (7, [v_this_froms_values, .int froms_size_])), (q_this_homes, .inr (7, [v_this_homes_values, .int homes_size_])), (q_this_hours, .inr (7, [v_this_hours_values, .int hours_size_])), (q_this_tos, .inr (7, [v_this_tos_values, .int tos_size_]))]) rfl rfl rfl (by decide) (fun H locs hP hD hS => ?_)
  have hP : va_P D vwCl [(q_this, .inr (2, [.int 0, .ref q_this_starts, .ref q_this_homes, .ref q_this_hours, .ref q_this_froms, .ref q_this_tos, .ref q_this_bands])), (q_this_bands, .inr (7, [v_this_bands_values, .int bands_size_])), (q_this_froms, .inr (7, [v_this_froms_values, .int froms_size_])), (q_this_homes, .inr (7, [v_this_homes_values, .int homes_size_])), (q_this_hours, .inr (7, [v_this_hours_values, .int hours_size_])), (q_this_tos, .inr (7, [v_this_tos_values, .int tos_size_])), (q_this_starts, .inr (7, [v_this_starts_values, .int u9]))] H := hP
  have hD : va_D A [(q_this, .inr (2, [.int 0, .ref q_this_starts, .ref q_this_homes, .ref q_this_hours, .ref q_this_froms, .ref q_this_tos, .ref q_this_bands])), (q_this_bands, .inr (7, [v_this_bands_values, .int bands_size_])), (q_this_froms, .inr (7, [v_this_froms_values, .int froms_size_])), (q_this_homes, .inr (7, [v_this_homes_values, .int homes_size_])), (q_this_hours, .inr (7, [v_this_hours_values, .int hours_size_])), (q_this_tos, .inr (7, [v_this_tos_values, .int tos_size_])), (q_this_starts, .inr (7, [v_this_starts_values, .int u9]))] := hD
  refine lv_aload_n hx hb dX2_empty_12 rfl (lv_at hl 0 rfl) ?_
  refine va_get (D := D) (ci := 2) (C := RX2) (T := TX2) (N := 7) hx hb hts iw_X2_empty_X2 hown hK hP 0 rfl rfl 2 (by decide) (hts _ lk_X2_empty_2) (fun _ h9 => h9) rfl dX2_empty_13 ?_
  obtain ⟨u16, hu16, h⟩ := q_b h
  refine q_aV (va_runV (As := []) (rest := []) ⟨hx, hb, hml, hown, hts⟩ (c_X7_empty l D E kI kB kQ q_this_homes v_this_homes_values homes_size_ N u16 hu16 H.size) (cwV 0 hts gX2_empty_X7_empty rfl rfl rfl vd_X7_empty ⟨Nat.le_of_ble_eq_true rfl, Nat.le_of_ble_eq_true rfl⟩) (q_pv hK hN hE hS hA hP hD [3] rfl rfl rfl 3 rfl (ci := 7) rfl) rfl rfl hl.1 rfl (lv_room (Nat.le_of_ble_eq_true rfl)) dX2_empty_16 ⟨Nat.zero_le _, Nat.zero_le _⟩) hP hD hS hA [3] [0, 1, 2, 4, 5, 6] (Wr := [(q_this, .inr (2, [.int 0, .ref q_this_starts, .ref q_this_homes, .ref q_this_hours, .ref q_this_froms, .ref q_this_tos, .ref q_this_bands])), (q_this_bands, .inr (7, [v_this_bands_values, .int bands_size_])), (q_this_froms, .inr (7, [v_this_froms_values, .int froms_size_])), (q_this_hours, .inr (7, [v_this_hours_values, .int hours_size_])), (q_this_tos, .inr (7, [v_this_tos_values, .int tos_size_])), (q_this_starts, .inr (7, [v_this_starts_values, .int u9]))]) rfl rfl rfl (by decide) (fun H locs hP hD hS => ?_)
  have hP : va_P D vwCl [(q_this, .inr (2, [.int 0, .ref q_this_starts, .ref q_this_homes, .ref q_this_hours, .ref q_this_froms, .ref q_this_tos, .ref q_this_bands])), (q_this_bands, .inr (7, [v_this_bands_values, .int bands_size_])), (q_this_froms, .inr (7, [v_this_froms_values, .int froms_size_])), (q_this_hours, .inr (7, [v_this_hours_values, .int hours_size_])), (q_this_tos, .inr (7, [v_this_tos_values, .int tos_size_])), (q_this_starts, .inr (7, [v_this_starts_values, .int u9])), (q_this_homes, .inr (7, [v_this_homes_values, .int u16]))] H := hP
  have hD : va_D A [(q_this, .inr (2, [.int 0, .ref q_this_starts, .ref q_this_homes, .ref q_this_hours, .ref q_this_froms, .ref q_this_tos, .ref q_this_bands])), (q_this_bands, .inr (7, [v_this_bands_values, .int bands_size_])), (q_this_froms, .inr (7, [v_this_froms_values, .int froms_size_])), (q_this_hours, .inr (7, [v_this_hours_values, .int hours_size_])), (q_this_tos, .inr (7, [v_this_tos_values, .int tos_size_])), (q_this_starts, .inr (7, [v_this_starts_values, .int u9])), (q_this_homes, .inr (7, [v_this_homes_values, .int u16]))] := hD
  refine lv_aload_n hx hb dX2_empty_19 rfl (lv_at hl 0 rfl) ?_
  refine va_get (D := D) (ci := 2) (C := RX2) (T := TX2) (N := 7) hx hb hts iw_X2_empty_X2 hown hK hP 0 rfl rfl 3 (by decide) (hts _ lk_X2_empty_3) (fun _ h9 => h9) rfl dX2_empty_20 ?_
  obtain ⟨u23, hu23, h⟩ := q_b h
  refine q_aV (va_runV (As := []) (rest := []) ⟨hx, hb, hml, hown, hts⟩ (c_X7_empty l D E kI kB kQ q_this_hours v_this_hours_values hours_size_ N u23 hu23 H.size) (cwV 0 hts gX2_empty_X7_empty rfl rfl rfl vd_X7_empty ⟨Nat.le_of_ble_eq_true rfl, Nat.le_of_ble_eq_true rfl⟩) (q_pv hK hN hE hS hA hP hD [3] rfl rfl rfl 3 rfl (ci := 7) rfl) rfl rfl hl.1 rfl (lv_room (Nat.le_of_ble_eq_true rfl)) dX2_empty_23 ⟨Nat.zero_le _, Nat.zero_le _⟩) hP hD hS hA [3] [0, 1, 2, 4, 5, 6] (Wr := [(q_this, .inr (2, [.int 0, .ref q_this_starts, .ref q_this_homes, .ref q_this_hours, .ref q_this_froms, .ref q_this_tos, .ref q_this_bands])), (q_this_bands, .inr (7, [v_this_bands_values, .int bands_size_])), (q_this_froms, .inr (7, [v_this_froms_values, .int froms_size_])), (q_this_tos, .inr (7, [v_this_tos_values, .int tos_size_])), (q_this_starts, .inr (7, [v_this_starts_values, .int u9])), (q_this_homes, .inr (7, [v_this_homes_values, .int u16]))]) rfl rfl rfl (by decide) (fun H locs hP hD hS => ?_)
  have hP : va_P D vwCl [(q_this, .inr (2, [.int 0, .ref q_this_starts, .ref q_this_homes, .ref q_this_hours, .ref q_this_froms, .ref q_this_tos, .ref q_this_bands])), (q_this_bands, .inr (7, [v_this_bands_values, .int bands_size_])), (q_this_froms, .inr (7, [v_this_froms_values, .int froms_size_])), (q_this_tos, .inr (7, [v_this_tos_values, .int tos_size_])), (q_this_starts, .inr (7, [v_this_starts_values, .int u9])), (q_this_homes, .inr (7, [v_this_homes_values, .int u16])), (q_this_hours, .inr (7, [v_this_hours_values, .int u23]))] H := hP
  have hD : va_D A [(q_this, .inr (2, [.int 0, .ref q_this_starts, .ref q_this_homes, .ref q_this_hours, .ref q_this_froms, .ref q_this_tos, .ref q_this_bands])), (q_this_bands, .inr (7, [v_this_bands_values, .int bands_size_])), (q_this_froms, .inr (7, [v_this_froms_values, .int froms_size_])), (q_this_tos, .inr (7, [v_this_tos_values, .int tos_size_])), (q_this_starts, .inr (7, [v_this_starts_values, .int u9])), (q_this_homes, .inr (7, [v_this_homes_values, .int u16])), (q_this_hours, .inr (7, [v_this_hours_values, .int u23]))] := hD
  refine lv_aload_n hx hb dX2_empty_26 rfl (lv_at hl 0 rfl) ?_
  refine va_get (D := D) (ci := 2) (C := RX2) (T := TX2) (N := 7) hx hb hts iw_X2_empty_X2 hown hK hP 0 rfl rfl 4 (by decide) (hts _ lk_X2_empty_4) (fun _ h9 => h9) rfl dX2_empty_27 ?_
  obtain ⟨u30, hu30, h⟩ := q_b h
  refine q_aV (va_runV (As := []) (rest := []) ⟨hx, hb, hml, hown, hts⟩ (c_X7_empty l D E kI kB kQ q_this_froms v_this_froms_values froms_size_ N u30 hu30 H.size) (cwV 0 hts gX2_empty_X7_empty rfl rfl rfl vd_X7_empty ⟨Nat.le_of_ble_eq_true rfl, Nat.le_of_ble_eq_true rfl⟩) (q_pv hK hN hE hS hA hP hD [2] rfl rfl rfl 2 rfl (ci := 7) rfl) rfl rfl hl.1 rfl (lv_room (Nat.le_of_ble_eq_true rfl)) dX2_empty_30 ⟨Nat.zero_le _, Nat.zero_le _⟩) hP hD hS hA [2] [0, 1, 3, 4, 5, 6] (Wr := [(q_this, .inr (2, [.int 0, .ref q_this_starts, .ref q_this_homes, .ref q_this_hours, .ref q_this_froms, .ref q_this_tos, .ref q_this_bands])), (q_this_bands, .inr (7, [v_this_bands_values, .int bands_size_])), (q_this_tos, .inr (7, [v_this_tos_values, .int tos_size_])), (q_this_starts, .inr (7, [v_this_starts_values, .int u9])), (q_this_homes, .inr (7, [v_this_homes_values, .int u16])), (q_this_hours, .inr (7, [v_this_hours_values, .int u23]))]) rfl rfl rfl (by decide) (fun H locs hP hD hS => ?_)
  have hP : va_P D vwCl [(q_this, .inr (2, [.int 0, .ref q_this_starts, .ref q_this_homes, .ref q_this_hours, .ref q_this_froms, .ref q_this_tos, .ref q_this_bands])), (q_this_bands, .inr (7, [v_this_bands_values, .int bands_size_])), (q_this_tos, .inr (7, [v_this_tos_values, .int tos_size_])), (q_this_starts, .inr (7, [v_this_starts_values, .int u9])), (q_this_homes, .inr (7, [v_this_homes_values, .int u16])), (q_this_hours, .inr (7, [v_this_hours_values, .int u23])), (q_this_froms, .inr (7, [v_this_froms_values, .int u30]))] H := hP
  have hD : va_D A [(q_this, .inr (2, [.int 0, .ref q_this_starts, .ref q_this_homes, .ref q_this_hours, .ref q_this_froms, .ref q_this_tos, .ref q_this_bands])), (q_this_bands, .inr (7, [v_this_bands_values, .int bands_size_])), (q_this_tos, .inr (7, [v_this_tos_values, .int tos_size_])), (q_this_starts, .inr (7, [v_this_starts_values, .int u9])), (q_this_homes, .inr (7, [v_this_homes_values, .int u16])), (q_this_hours, .inr (7, [v_this_hours_values, .int u23])), (q_this_froms, .inr (7, [v_this_froms_values, .int u30]))] := hD
  refine lv_aload_n hx hb dX2_empty_33 rfl (lv_at hl 0 rfl) ?_
  refine va_get (D := D) (ci := 2) (C := RX2) (T := TX2) (N := 7) hx hb hts iw_X2_empty_X2 hown hK hP 0 rfl rfl 5 (by decide) (hts _ lk_X2_empty_5) (fun _ h9 => h9) rfl dX2_empty_34 ?_
  obtain ⟨u37, hu37, h⟩ := q_b h
  refine q_aV (va_runV (As := []) (rest := []) ⟨hx, hb, hml, hown, hts⟩ (c_X7_empty l D E kI kB kQ q_this_tos v_this_tos_values tos_size_ N u37 hu37 H.size) (cwV 0 hts gX2_empty_X7_empty rfl rfl rfl vd_X7_empty ⟨Nat.le_of_ble_eq_true rfl, Nat.le_of_ble_eq_true rfl⟩) (q_pv hK hN hE hS hA hP hD [2] rfl rfl rfl 2 rfl (ci := 7) rfl) rfl rfl hl.1 rfl (lv_room (Nat.le_of_ble_eq_true rfl)) dX2_empty_37 ⟨Nat.zero_le _, Nat.zero_le _⟩) hP hD hS hA [2] [0, 1, 3, 4, 5, 6] (Wr := [(q_this, .inr (2, [.int 0, .ref q_this_starts, .ref q_this_homes, .ref q_this_hours, .ref q_this_froms, .ref q_this_tos, .ref q_this_bands])), (q_this_bands, .inr (7, [v_this_bands_values, .int bands_size_])), (q_this_starts, .inr (7, [v_this_starts_values, .int u9])), (q_this_homes, .inr (7, [v_this_homes_values, .int u16])), (q_this_hours, .inr (7, [v_this_hours_values, .int u23])), (q_this_froms, .inr (7, [v_this_froms_values, .int u30]))]) rfl rfl rfl (by decide) (fun H locs hP hD hS => ?_)
  have hP : va_P D vwCl [(q_this, .inr (2, [.int 0, .ref q_this_starts, .ref q_this_homes, .ref q_this_hours, .ref q_this_froms, .ref q_this_tos, .ref q_this_bands])), (q_this_bands, .inr (7, [v_this_bands_values, .int bands_size_])), (q_this_starts, .inr (7, [v_this_starts_values, .int u9])), (q_this_homes, .inr (7, [v_this_homes_values, .int u16])), (q_this_hours, .inr (7, [v_this_hours_values, .int u23])), (q_this_froms, .inr (7, [v_this_froms_values, .int u30])), (q_this_tos, .inr (7, [v_this_tos_values, .int u37]))] H := hP
  have hD : va_D A [(q_this, .inr (2, [.int 0, .ref q_this_starts, .ref q_this_homes, .ref q_this_hours, .ref q_this_froms, .ref q_this_tos, .ref q_this_bands])), (q_this_bands, .inr (7, [v_this_bands_values, .int bands_size_])), (q_this_starts, .inr (7, [v_this_starts_values, .int u9])), (q_this_homes, .inr (7, [v_this_homes_values, .int u16])), (q_this_hours, .inr (7, [v_this_hours_values, .int u23])), (q_this_froms, .inr (7, [v_this_froms_values, .int u30])), (q_this_tos, .inr (7, [v_this_tos_values, .int u37]))] := hD
  refine lv_aload_n hx hb dX2_empty_40 rfl (lv_at hl 0 rfl) ?_
  refine va_get (D := D) (ci := 2) (C := RX2) (T := TX2) (N := 7) hx hb hts iw_X2_empty_X2 hown hK hP 0 rfl rfl 6 (by decide) (hts _ lk_X2_empty_6) (fun _ h9 => h9) rfl dX2_empty_41 ?_
  obtain ⟨u44, hu44, h⟩ := q_b h
  refine q_aV (va_runV (As := []) (rest := []) ⟨hx, hb, hml, hown, hts⟩ (c_X7_empty l D E kI kB kQ q_this_bands v_this_bands_values bands_size_ N u44 hu44 H.size) (cwV 0 hts gX2_empty_X7_empty rfl rfl rfl vd_X7_empty ⟨Nat.le_of_ble_eq_true rfl, Nat.le_of_ble_eq_true rfl⟩) (q_pv hK hN hE hS hA hP hD [1] rfl rfl rfl 1 rfl (ci := 7) rfl) rfl rfl hl.1 rfl (lv_room (Nat.le_of_ble_eq_true rfl)) dX2_empty_44 ⟨Nat.zero_le _, Nat.zero_le _⟩) hP hD hS hA [1] [0, 2, 3, 4, 5, 6] (Wr := [(q_this, .inr (2, [.int 0, .ref q_this_starts, .ref q_this_homes, .ref q_this_hours, .ref q_this_froms, .ref q_this_tos, .ref q_this_bands])), (q_this_starts, .inr (7, [v_this_starts_values, .int u9])), (q_this_homes, .inr (7, [v_this_homes_values, .int u16])), (q_this_hours, .inr (7, [v_this_hours_values, .int u23])), (q_this_froms, .inr (7, [v_this_froms_values, .int u30])), (q_this_tos, .inr (7, [v_this_tos_values, .int u37]))]) rfl rfl rfl (by decide) (fun H locs hP hD hS => ?_)
  have hP : va_P D vwCl [(q_this, .inr (2, [.int 0, .ref q_this_starts, .ref q_this_homes, .ref q_this_hours, .ref q_this_froms, .ref q_this_tos, .ref q_this_bands])), (q_this_starts, .inr (7, [v_this_starts_values, .int u9])), (q_this_homes, .inr (7, [v_this_homes_values, .int u16])), (q_this_hours, .inr (7, [v_this_hours_values, .int u23])), (q_this_froms, .inr (7, [v_this_froms_values, .int u30])), (q_this_tos, .inr (7, [v_this_tos_values, .int u37])), (q_this_bands, .inr (7, [v_this_bands_values, .int u44]))] H := hP
  have hD : va_D A [(q_this, .inr (2, [.int 0, .ref q_this_starts, .ref q_this_homes, .ref q_this_hours, .ref q_this_froms, .ref q_this_tos, .ref q_this_bands])), (q_this_starts, .inr (7, [v_this_starts_values, .int u9])), (q_this_homes, .inr (7, [v_this_homes_values, .int u16])), (q_this_hours, .inr (7, [v_this_hours_values, .int u23])), (q_this_froms, .inr (7, [v_this_froms_values, .int u30])), (q_this_tos, .inr (7, [v_this_tos_values, .int u37])), (q_this_bands, .inr (7, [v_this_bands_values, .int u44]))] := hD
  have er := q_inj h
  subst er
  exact hret _ _ _ _ (hP.sub [0, 6, 4, 2, 3, 1, 5] rfl) (hD.sub [0, 6, 4, 2, 3, 1, 5] rfl rfl) hS dX2_empty_47
abbrev rm_X7_get : Room := { frames := 0, cells := 0, slots := 0, locals := 0 }
theorem lk_X7_get_0 : Cond.fieldLink RX7 19 "OnlyPrimes$Slots" "size" "I" ∈ wsX7_get := List.mem_of_getElem? (i := 1) (by decide +kernel)
theorem iw_X7_get_X7 : ∀ w ∈ wsX70, w ∈ wsX7_get := by decide +kernel
theorem lk_X7_get_1 : Cond.fieldLink RX7 13 "OnlyPrimes$Slots" "values" "[I" ∈ wsX7_get := List.mem_of_getElem? (i := 2) (by decide +kernel)
theorem nd_X7_get : yX7_get.cls ≠ "java/lang/invoke/MethodHandle" ∧ yX7_get.cls ≠ "java/lang/invoke/VarHandle" ∧ (parseMethodDescriptor yX7_get.desc).map (fun d => d.parameters.length) = some 1 := by decide +kernel
theorem vd_X7_get : yX7_get.cls = RX7 ∧ yX7_get.cls ≠ "java/lang/invoke/MethodHandle" ∧ yX7_get.cls ≠ "java/lang/invoke/VarHandle" ∧ (parseMethodDescriptor yX7_get.desc).map (fun d => d.parameters.length) = some 1 := by decide +kernel
set_option maxHeartbeats 4000000 in
set_option maxRecDepth 100000 in
theorem c_X7_get (l : Launch) (D : va_G) (E : q_En) (kI kB kQ : ClassId) (q_this : Nat) (q_this_values : Nat) (n_this : Nat) (size_ : Int32) (values_ : Nat → Int32) (x1 : Int32) (N : Nat) (r : Int32) (hf : g_X7_get n_this size_ values_ x1 = some r) : CtI l D E yX7_get wsX7_get rm_X7_get (q_tys kI kB kQ) [.ref q_this, .int x1] [(q_this, .inr (7, [.ref q_this_values, .int size_])), (q_this_values, .inl (kI, n_this, .inl values_))] [(q_this, .inr (7, [.ref q_this_values, .int size_])), (q_this_values, .inl (kI, n_this, .inl values_))] r := by
  refine q_enterI cX7_get 2 RX7 (by decide) rfl (Nat.le_of_ble_eq_true rfl) rfl ?_
  intro p e s m args below meth c Q A ls H hx hb hml hown hts hK hN hE hA hP hS hD hl hret
  have hl : lv_has ls 2 [(0, .ref q_this), (1, .int x1)] := hl
  have h := hf
  rw [g_X7_get] at h
  refine lv_iload_n hx hb dX7_get_0 rfl (lv_at hl 1 rfl) ?_
  refine lv_if_lt (tgt := 21) hx hb dX7_get_1 (by decide) (fun c1 => ?_) (fun c1 => ?_)
  · replace h := q_t c1 h
    refine lv_iconst (v := 0) hx hb dX7_get_21 (by decide) ?_
    have er := q_inj h
    subst er
    exact hret _ _ _ _ (hP.sub [0, 1] rfl) (hD.sub [0, 1] rfl rfl) hS dX7_get_22
  · replace h := q_f c1 h
    refine lv_iload_n hx hb dX7_get_4 rfl (lv_at hl 1 rfl) ?_
    refine lv_aload_n hx hb dX7_get_5 rfl (lv_at hl 0 rfl) ?_
    refine va_get (D := D) (ci := 7) (C := RX7) (T := TX7) (N := 2) hx hb hts iw_X7_get_X7 hown hK hP 0 rfl rfl 1 (by decide) (hts _ lk_X7_get_0) (fun _ h9 => h9) rfl dX7_get_6 ?_
    refine lv_icmp_ge (tgt := 21) hx hb dX7_get_9 (by decide) (fun c2 => ?_) (fun c2 => ?_)
    · replace h := q_t c2 h
      refine lv_iconst (v := 0) hx hb dX7_get_21 (by decide) ?_
      have er := q_inj h
      subst er
      exact hret _ _ _ _ (hP.sub [0, 1] rfl) (hD.sub [0, 1] rfl rfl) hS dX7_get_22
    · replace h := q_f c2 h
      refine lv_aload_n hx hb dX7_get_12 rfl (lv_at hl 0 rfl) ?_
      refine va_get (D := D) (ci := 7) (C := RX7) (T := TX7) (N := 2) hx hb hts iw_X7_get_X7 hown hK hP 0 rfl rfl 0 (by decide) (hts _ lk_X7_get_1) (fun _ h9 => h9) rfl dX7_get_13 ?_
      refine lv_iload_n hx hb dX7_get_16 rfl (lv_at hl 1 rfl) ?_
      obtain ⟨hg3, h⟩ := q_g h
      refine va_iald hx hb hK hP 1 0 rfl rfl (inb_vp hg3) dX7_get_17 ?_
      refine lv_goto (tgt := 22) hx hb dX7_get_18 (by decide) ?_
      have er := q_inj h
      subst er
      exact hret _ _ _ _ (hP.sub [0, 1] rfl) (hD.sub [0, 1] rfl rfl) hS dX7_get_22
abbrev rm_X3_runEnd : Room := { frames := 1, cells := 0, slots := 0, locals := 22 }
theorem lk_X3_runEnd_0 : Cond.fieldLink RX3 23 "OnlyPrimes$Reader" "text" "LOnlyPrimes$Slots;" ∈ wsX3_runEnd := List.mem_of_getElem? (i := 1) (by decide +kernel)
theorem iw_X3_runEnd_X3 : ∀ w ∈ wsX30, w ∈ wsX3_runEnd := by decide +kernel
theorem lk_X3_runEnd_1 : Cond.initialized RX9 ∈ wsX3_runEnd := List.mem_of_getElem? (i := 14) (by decide +kernel)
theorem lk_X3_runEnd_2 : Cond.static yX9_isWithin ∈ wsX3_runEnd := List.mem_of_getElem? (i := 13) (by decide +kernel)
theorem nd_X3_runEnd : yX3_runEnd.cls ≠ "java/lang/invoke/MethodHandle" ∧ yX3_runEnd.cls ≠ "java/lang/invoke/VarHandle" ∧ (parseMethodDescriptor yX3_runEnd.desc).map (fun d => d.parameters.length) = some 3 := by decide +kernel
theorem vd_X3_runEnd : yX3_runEnd.cls = RX3 ∧ yX3_runEnd.cls ≠ "java/lang/invoke/MethodHandle" ∧ yX3_runEnd.cls ≠ "java/lang/invoke/VarHandle" ∧ (parseMethodDescriptor yX3_runEnd.desc).map (fun d => d.parameters.length) = some 3 := by decide +kernel
set_option maxHeartbeats 4000000 in
set_option maxRecDepth 100000 in
theorem c_X3_runEnd (l : Launch) (D : va_G) (E : q_En) (kI kB kQ : ClassId) (q_this : Nat) (q_this_text : Nat) (q_this_text_values : Nat) (v_this_land : Value) (n_this_text : Nat) (place_ : Int32) (next_ : Int32) (token_ : Int32) (number_ : Int32) (text_size_ : Int32) (text_values_ : Nat → Int32) (x1 : Int32) (x2 : Int32) (x3 : Int32) (N : Nat) (r : Int32) (hf : g_X3_runEnd N n_this_text text_size_ text_values_ x1 x2 x3 = some r) : CtI l D E yX3_runEnd wsX3_runEnd rm_X3_runEnd (q_tys kI kB kQ) [.ref q_this, .int x1, .int x2, .int x3] [(q_this, .inr (3, [v_this_land, .ref q_this_text, .int place_, .int next_, .int token_, .int number_])), (q_this_text, .inr (7, [.ref q_this_text_values, .int text_size_])), (q_this_text_values, .inl (kI, n_this_text, .inl text_values_))] [(q_this, .inr (3, [v_this_land, .ref q_this_text, .int place_, .int next_, .int token_, .int number_])), (q_this_text, .inr (7, [.ref q_this_text_values, .int text_size_])), (q_this_text_values, .inl (kI, n_this_text, .inl text_values_))] r := by
  refine q_enterI cX3_runEnd 5 RX3 (by decide) rfl (Nat.le_of_ble_eq_true rfl) rfl ?_
  intro p e s m args below meth c Q A ls H hx hb hml hown hts hK hN hE hA hP hS hD hl hret
  have hl : lv_has ls 5 [(0, .ref q_this), (1, .int x1), (2, .int x2), (3, .int x3)] := hl
  have h := hf
  rw [g_X3_runEnd] at h
  have J3 : ∀ (n3 : Nat) (x4 : Int32), g_X3_runEnd_3 n_this_text text_size_ text_values_ x2 x3 n3 x4 = some r → ∀ (H : Heap) (locs : List Loc) (ls : Array Slot), va_P D vwCl [(q_this, .inr (3, [v_this_land, .ref q_this_text, .int place_, .int next_, .int token_, .int number_])), (q_this_text, .inr (7, [.ref q_this_text_values, .int text_size_])), (q_this_text_values, .inl (kI, n_this_text, .inl text_values_))] H → va_D A [(q_this, .inr (3, [v_this_land, .ref q_this_text, .int place_, .int next_, .int token_, .int number_])), (q_this_text, .inr (7, [.ref q_this_text_values, .int text_size_])), (q_this_text_values, .inl (kI, n_this_text, .inl text_values_))] → va_S A s.heap H locs → lv_has ls 5 [(0, .ref q_this), (2, .int x2), (3, .int x3), (4, .int x4)] → W p l e rm_X3_runEnd s m args below meth c H locs 0 0 Q (F0 m 3 ls []) := by
    intro n3
    induction n3 with
    | zero => intro x4 h; exact absurd h (by rw [g_X3_runEnd_3]; exact fun q => nomatch q)
    | succ n3 ih3 =>
      intro x4 h H locs ls hP hD hS hl
      rw [g_X3_runEnd_3] at h
      refine lv_iload hx hb dX3_runEnd_3 (lv_at hl 3 rfl) ?_
      refine lv_aload_n hx hb dX3_runEnd_5 rfl (lv_at hl 0 rfl) ?_
      refine va_get (D := D) (ci := 3) (C := RX3) (T := TX3) (N := 6) hx hb hts iw_X3_runEnd_X3 hown hK hP 0 rfl rfl 1 (by decide) (hts _ lk_X3_runEnd_0) (fun _ h9 => h9) rfl dX3_runEnd_6 ?_
      obtain ⟨u9, hu9, h⟩ := q_b h
      refine q_aI (va_runV (As := []) (rest := [.int x4]) ⟨hx, hb, hml, hown, hts⟩ (c_X7_size l D E kI kB kQ q_this_text (.ref q_this_text_values) text_size_ N u9 hu9 H.size) (cwV 0 hts gX3_runEnd_X7_size rfl rfl rfl vd_X7_size ⟨Nat.le_of_ble_eq_true rfl, Nat.le_of_ble_eq_true rfl⟩) (q_pv hK hN hE hS hA hP hD [1] rfl rfl rfl 1 rfl (ci := 7) rfl) rfl rfl hl.1 rfl (lv_room (Nat.le_of_ble_eq_true rfl)) dX3_runEnd_9 ⟨Nat.zero_le _, Nat.zero_le _⟩) hP hD hS hA [1] [0, 2] (Wr := [(q_this, .inr (3, [v_this_land, .ref q_this_text, .int place_, .int next_, .int token_, .int number_])), (q_this_text_values, .inl (kI, n_this_text, .inl text_values_))]) rfl rfl rfl (by decide) (fun H locs hP hD hS => ?_)
      have hP : va_P D vwCl [(q_this, .inr (3, [v_this_land, .ref q_this_text, .int place_, .int next_, .int token_, .int number_])), (q_this_text_values, .inl (kI, n_this_text, .inl text_values_)), (q_this_text, .inr (7, [.ref q_this_text_values, .int text_size_]))] H := hP
      have hD : va_D A [(q_this, .inr (3, [v_this_land, .ref q_this_text, .int place_, .int next_, .int token_, .int number_])), (q_this_text_values, .inl (kI, n_this_text, .inl text_values_)), (q_this_text, .inr (7, [.ref q_this_text_values, .int text_size_]))] := hD
      refine lv_icmp_ge (tgt := 41) hx hb dX3_runEnd_12 (by decide) (fun c1 => ?_) (fun c1 => ?_)
      · replace h := q_t c1 h
        refine lv_aload_n hx hb dX3_runEnd_41 rfl (lv_at hl 0 rfl) ?_
        refine va_get (D := D) (ci := 3) (C := RX3) (T := TX3) (N := 6) hx hb hts iw_X3_runEnd_X3 hown hK hP 0 rfl rfl 1 (by decide) (hts _ lk_X3_runEnd_0) (fun _ h9 => h9) rfl dX3_runEnd_42 ?_
        obtain ⟨u45, hu45, h⟩ := q_b h
        refine q_aI (va_runV (As := []) (rest := []) ⟨hx, hb, hml, hown, hts⟩ (c_X7_size l D E kI kB kQ q_this_text (.ref q_this_text_values) text_size_ N u45 hu45 H.size) (cwV 0 hts gX3_runEnd_X7_size rfl rfl rfl vd_X7_size ⟨Nat.le_of_ble_eq_true rfl, Nat.le_of_ble_eq_true rfl⟩) (q_pv hK hN hE hS hA hP hD [2] rfl rfl rfl 2 rfl (ci := 7) rfl) rfl rfl hl.1 rfl (lv_room (Nat.le_of_ble_eq_true rfl)) dX3_runEnd_45 ⟨Nat.zero_le _, Nat.zero_le _⟩) hP hD hS hA [2] [0, 1] (Wr := [(q_this, .inr (3, [v_this_land, .ref q_this_text, .int place_, .int next_, .int token_, .int number_])), (q_this_text_values, .inl (kI, n_this_text, .inl text_values_))]) rfl rfl rfl (by decide) (fun H locs hP hD hS => ?_)
        have hP : va_P D vwCl [(q_this, .inr (3, [v_this_land, .ref q_this_text, .int place_, .int next_, .int token_, .int number_])), (q_this_text_values, .inl (kI, n_this_text, .inl text_values_)), (q_this_text, .inr (7, [.ref q_this_text_values, .int text_size_]))] H := hP
        have hD : va_D A [(q_this, .inr (3, [v_this_land, .ref q_this_text, .int place_, .int next_, .int token_, .int number_])), (q_this_text_values, .inl (kI, n_this_text, .inl text_values_)), (q_this_text, .inr (7, [.ref q_this_text_values, .int text_size_]))] := hD
        have er := q_inj h
        subst er
        exact hret _ _ _ _ (hP.sub [0, 2, 1] rfl) (hD.sub [0, 2, 1] rfl rfl) hS dX3_runEnd_48
      · replace h := q_f c1 h
        refine lv_aload_n hx hb dX3_runEnd_15 rfl (lv_at hl 0 rfl) ?_
        refine va_get (D := D) (ci := 3) (C := RX3) (T := TX3) (N := 6) hx hb hts iw_X3_runEnd_X3 hown hK hP 0 rfl rfl 1 (by decide) (hts _ lk_X3_runEnd_0) (fun _ h9 => h9) rfl dX3_runEnd_16 ?_
        refine lv_iload hx hb dX3_runEnd_19 (lv_at hl 3 rfl) ?_
        obtain ⟨u21, hu21, h⟩ := q_b h
        refine q_aI (va_runV (As := [.int x4]) (rest := []) ⟨hx, hb, hml, hown, hts⟩ (c_X7_get l D E kI kB kQ q_this_text q_this_text_values n_this_text text_size_ text_values_ x4 N u21 hu21 H.size) (cwV 1 hts gX3_runEnd_X7_get rfl rfl rfl vd_X7_get ⟨Nat.le_of_ble_eq_true rfl, Nat.le_of_ble_eq_true rfl⟩) (q_pv hK hN hE hS hA hP hD [2, 1] rfl rfl rfl 2 rfl (ci := 7) rfl) rfl rfl hl.1 rfl (lv_room (Nat.le_of_ble_eq_true rfl)) dX3_runEnd_21 ⟨Nat.zero_le _, Nat.zero_le _⟩) hP hD hS hA [2, 1] [0] (Wr := [(q_this, .inr (3, [v_this_land, .ref q_this_text, .int place_, .int next_, .int token_, .int number_]))]) rfl rfl rfl (by decide) (fun H locs hP hD hS => ?_)
        have hP : va_P D vwCl [(q_this, .inr (3, [v_this_land, .ref q_this_text, .int place_, .int next_, .int token_, .int number_])), (q_this_text, .inr (7, [.ref q_this_text_values, .int text_size_])), (q_this_text_values, .inl (kI, n_this_text, .inl text_values_))] H := hP
        have hD : va_D A [(q_this, .inr (3, [v_this_land, .ref q_this_text, .int place_, .int next_, .int token_, .int number_])), (q_this_text, .inr (7, [.ref q_this_text_values, .int text_size_])), (q_this_text_values, .inl (kI, n_this_text, .inl text_values_))] := hD
        refine lv_iload_n hx hb dX3_runEnd_24 rfl (lv_at hl 1 rfl) ?_
        refine lv_iload_n hx hb dX3_runEnd_25 rfl (lv_at hl 2 rfl) ?_
        obtain ⟨u26, hu26, h⟩ := q_b h
        refine q_aI (va_runSN (As := [.int u21, .int x2, .int x3]) (rest := []) ⟨hx, hb, hml, hown, hts⟩ (c_X9_isWithin l D E kI kB kQ u21 x2 x3 N u26 hu26 H.size) ⟨(va_cnB 3 hts gX3_runEnd_X9_isWithin_n101 rfl rfl rfl hN.2.2.2.2.1 (hts _ lk_X3_runEnd_1) nd_X9_isWithin ⟨Nat.le_of_ble_eq_true rfl, Nat.le_of_ble_eq_true rfl⟩), hts _ lk_X3_runEnd_2, trivial⟩ (q_ps hK hN hE hS hA hP hD [] rfl rfl rfl) rfl rfl hl.1 rfl (lv_room (Nat.le_of_ble_eq_true rfl)) dX3_runEnd_26 ⟨Nat.zero_le _, Nat.zero_le _⟩) hP hD hS hA [] [0, 1, 2] (Wr := [(q_this, .inr (3, [v_this_land, .ref q_this_text, .int place_, .int next_, .int token_, .int number_])), (q_this_text, .inr (7, [.ref q_this_text_values, .int text_size_])), (q_this_text_values, .inl (kI, n_this_text, .inl text_values_))]) rfl rfl rfl (by decide) (fun H locs hP hD hS => ?_)
        have hP : va_P D vwCl [(q_this, .inr (3, [v_this_land, .ref q_this_text, .int place_, .int next_, .int token_, .int number_])), (q_this_text, .inr (7, [.ref q_this_text_values, .int text_size_])), (q_this_text_values, .inl (kI, n_this_text, .inl text_values_))] H := hP
        have hD : va_D A [(q_this, .inr (3, [v_this_land, .ref q_this_text, .int place_, .int next_, .int token_, .int number_])), (q_this_text, .inr (7, [.ref q_this_text_values, .int text_size_])), (q_this_text_values, .inl (kI, n_this_text, .inl text_values_))] := hD
        refine lv_if_ne (tgt := 35) hx hb dX3_runEnd_29 (by decide) (fun c2 => ?_) (fun c2 => ?_)
        · replace h := q_f c2 h
          refine lv_iinc (v := (x4 + 1)) (lv' := [(4, .int (x4 + 1)), (0, .ref q_this), (2, .int x2), (3, .int x3)]) hx hb dX3_runEnd_35 hl (k := 3) rfl rfl (by decide) rfl (fun ls hl => ?_)
          refine lv_goto (tgt := 3) hx hb dX3_runEnd_38 (by decide) ?_
          exact ih3 (x4 + 1) h _ _ _ (hP.sub [0, 1, 2] rfl) (hD.sub [0, 1, 2] rfl rfl) hS (lv_sub hl [1, 2, 3, 0] rfl)
        · replace h := q_t c2 h
          refine lv_iload hx hb dX3_runEnd_32 (lv_at hl 3 rfl) ?_
          have er := q_inj h
          subst er
          exact hret _ _ _ _ (hP.sub [0, 1, 2] rfl) (hD.sub [0, 1, 2] rfl rfl) hS dX3_runEnd_34
  refine lv_iload_n hx hb dX3_runEnd_0 rfl (lv_at hl 1 rfl) ?_
  refine lv_istore (lv' := [(4, .int x1), (0, .ref q_this), (1, .int x1), (2, .int x2), (3, .int x3)]) hx hb dX3_runEnd_1 hl (by decide) rfl (fun ls hl => ?_)
  exact J3 N x1 h _ _ _ (hP.sub [0, 1, 2] rfl) (hD.sub [0, 1, 2] rfl rfl) hS (lv_sub hl [1, 3, 4, 0] rfl)
abbrev rm_X3_isFrom : Room := { frames := 1, cells := 0, slots := 0, locals := 22 }
theorem lk_X3_isFrom_0 : Cond.fieldLink RX3 23 "OnlyPrimes$Reader" "text" "LOnlyPrimes$Slots;" ∈ wsX3_isFrom := List.mem_of_getElem? (i := 1) (by decide +kernel)
theorem iw_X3_isFrom_X3 : ∀ w ∈ wsX30, w ∈ wsX3_isFrom := by decide +kernel
theorem lk_X3_isFrom_1 : Cond.fieldLink RX3 54 "OnlyPrimes$Reader" "place" "I" ∈ wsX3_isFrom := List.mem_of_getElem? (i := 2) (by decide +kernel)
theorem lk_X3_isFrom_2 : Cond.initialized RX9 ∈ wsX3_isFrom := List.mem_of_getElem? (i := 11) (by decide +kernel)
theorem lk_X3_isFrom_3 : Cond.static yX9_isWithin ∈ wsX3_isFrom := List.mem_of_getElem? (i := 10) (by decide +kernel)
theorem nd_X3_isFrom : yX3_isFrom.cls ≠ "java/lang/invoke/MethodHandle" ∧ yX3_isFrom.cls ≠ "java/lang/invoke/VarHandle" ∧ (parseMethodDescriptor yX3_isFrom.desc).map (fun d => d.parameters.length) = some 2 := by decide +kernel
theorem vd_X3_isFrom : yX3_isFrom.cls = RX3 ∧ yX3_isFrom.cls ≠ "java/lang/invoke/MethodHandle" ∧ yX3_isFrom.cls ≠ "java/lang/invoke/VarHandle" ∧ (parseMethodDescriptor yX3_isFrom.desc).map (fun d => d.parameters.length) = some 2 := by decide +kernel
set_option maxHeartbeats 4000000 in
set_option maxRecDepth 100000 in
theorem c_X3_isFrom (l : Launch) (D : va_G) (E : q_En) (kI kB kQ : ClassId) (q_this : Nat) (q_this_text : Nat) (q_this_text_values : Nat) (v_this_land : Value) (n_this_text : Nat) (place_ : Int32) (next_ : Int32) (token_ : Int32) (number_ : Int32) (text_size_ : Int32) (text_values_ : Nat → Int32) (x1 : Int32) (x2 : Int32) (N : Nat) (r : Int32) (hf : g_X3_isFrom n_this_text place_ text_size_ text_values_ x1 x2 = some r) : CtI l D E yX3_isFrom wsX3_isFrom rm_X3_isFrom (q_tys kI kB kQ) [.ref q_this, .int x1, .int x2] [(q_this, .inr (3, [v_this_land, .ref q_this_text, .int place_, .int next_, .int token_, .int number_])), (q_this_text, .inr (7, [.ref q_this_text_values, .int text_size_])), (q_this_text_values, .inl (kI, n_this_text, .inl text_values_))] [(q_this, .inr (3, [v_this_land, .ref q_this_text, .int place_, .int next_, .int token_, .int number_])), (q_this_text, .inr (7, [.ref q_this_text_values, .int text_size_])), (q_this_text_values, .inl (kI, n_this_text, .inl text_values_))] r := by
  refine q_enterZ cX3_isFrom 3 RX3 (by decide) rfl (Nat.le_of_ble_eq_true rfl) rfl ?_
  intro p e s m args below meth c Q A ls H hx hb hml hown hts hK hN hE hA hP hS hD hl hret
  have hl : lv_has ls 3 [(0, .ref q_this), (1, .int x1), (2, .int x2)] := hl
  have h := hf
  rw [g_X3_isFrom] at h
  refine lv_aload_n hx hb dX3_isFrom_0 rfl (lv_at hl 0 rfl) ?_
  refine va_get (D := D) (ci := 3) (C := RX3) (T := TX3) (N := 6) hx hb hts iw_X3_isFrom_X3 hown hK hP 0 rfl rfl 1 (by decide) (hts _ lk_X3_isFrom_0) (fun _ h9 => h9) rfl dX3_isFrom_1 ?_
  refine lv_aload_n hx hb dX3_isFrom_4 rfl (lv_at hl 0 rfl) ?_
  refine va_get (D := D) (ci := 3) (C := RX3) (T := TX3) (N := 6) hx hb hts iw_X3_isFrom_X3 hown hK hP 0 rfl rfl 2 (by decide) (hts _ lk_X3_isFrom_1) (fun _ h9 => h9) rfl dX3_isFrom_5 ?_
  obtain ⟨u8, hu8, h⟩ := q_b h
  refine q_aI (va_runV (As := [.int place_]) (rest := []) ⟨hx, hb, hml, hown, hts⟩ (c_X7_get l D E kI kB kQ q_this_text q_this_text_values n_this_text text_size_ text_values_ place_ N u8 hu8 H.size) (cwV 1 hts gX3_isFrom_X7_get rfl rfl rfl vd_X7_get ⟨Nat.le_of_ble_eq_true rfl, Nat.le_of_ble_eq_true rfl⟩) (q_pv hK hN hE hS hA hP hD [1, 2] rfl rfl rfl 1 rfl (ci := 7) rfl) rfl rfl hl.1 rfl (lv_room (Nat.le_of_ble_eq_true rfl)) dX3_isFrom_8 ⟨Nat.zero_le _, Nat.zero_le _⟩) hP hD hS hA [1, 2] [0] (Wr := [(q_this, .inr (3, [v_this_land, .ref q_this_text, .int place_, .int next_, .int token_, .int number_]))]) rfl rfl rfl (by decide) (fun H locs hP hD hS => ?_)
  have hP : va_P D vwCl [(q_this, .inr (3, [v_this_land, .ref q_this_text, .int place_, .int next_, .int token_, .int number_])), (q_this_text, .inr (7, [.ref q_this_text_values, .int text_size_])), (q_this_text_values, .inl (kI, n_this_text, .inl text_values_))] H := hP
  have hD : va_D A [(q_this, .inr (3, [v_this_land, .ref q_this_text, .int place_, .int next_, .int token_, .int number_])), (q_this_text, .inr (7, [.ref q_this_text_values, .int text_size_])), (q_this_text_values, .inl (kI, n_this_text, .inl text_values_))] := hD
  refine lv_iload_n hx hb dX3_isFrom_11 rfl (lv_at hl 1 rfl) ?_
  refine lv_iload_n hx hb dX3_isFrom_12 rfl (lv_at hl 2 rfl) ?_
  obtain ⟨u13, hu13, h⟩ := q_b h
  refine q_aI (va_runSN (As := [.int u8, .int x1, .int x2]) (rest := []) ⟨hx, hb, hml, hown, hts⟩ (c_X9_isWithin l D E kI kB kQ u8 x1 x2 N u13 hu13 H.size) ⟨(va_cnB 3 hts gX3_isFrom_X9_isWithin_n101 rfl rfl rfl hN.2.2.2.2.1 (hts _ lk_X3_isFrom_2) nd_X9_isWithin ⟨Nat.le_of_ble_eq_true rfl, Nat.le_of_ble_eq_true rfl⟩), hts _ lk_X3_isFrom_3, trivial⟩ (q_ps hK hN hE hS hA hP hD [] rfl rfl rfl) rfl rfl hl.1 rfl (lv_room (Nat.le_of_ble_eq_true rfl)) dX3_isFrom_13 ⟨Nat.zero_le _, Nat.zero_le _⟩) hP hD hS hA [] [0, 1, 2] (Wr := [(q_this, .inr (3, [v_this_land, .ref q_this_text, .int place_, .int next_, .int token_, .int number_])), (q_this_text, .inr (7, [.ref q_this_text_values, .int text_size_])), (q_this_text_values, .inl (kI, n_this_text, .inl text_values_))]) rfl rfl rfl (by decide) (fun H locs hP hD hS => ?_)
  have hP : va_P D vwCl [(q_this, .inr (3, [v_this_land, .ref q_this_text, .int place_, .int next_, .int token_, .int number_])), (q_this_text, .inr (7, [.ref q_this_text_values, .int text_size_])), (q_this_text_values, .inl (kI, n_this_text, .inl text_values_))] H := hP
  have hD : va_D A [(q_this, .inr (3, [v_this_land, .ref q_this_text, .int place_, .int next_, .int token_, .int number_])), (q_this_text, .inr (7, [.ref q_this_text_values, .int text_size_])), (q_this_text_values, .inl (kI, n_this_text, .inl text_values_))] := hD
  obtain ⟨hg1, h⟩ := q_g h
  have er := q_inj h
  subst er
  exact hret _ _ _ _ (zb_nar hg1) (hP.sub [0, 1, 2] rfl) (hD.sub [0, 1, 2] rfl rfl) hS dX3_isFrom_16
abbrev rm_X3_isWord : Room := { frames := 4, cells := 0, slots := 0, locals := 85 }
theorem lk_X3_isWord_0 : Cond.fieldLink RX3 23 "OnlyPrimes$Reader" "text" "LOnlyPrimes$Slots;" ∈ wsX3_isWord := List.mem_of_getElem? (i := 3) (by decide +kernel)
theorem iw_X3_isWord_X3 : ∀ w ∈ wsX30, w ∈ wsX3_isWord := by decide +kernel
theorem lk_X3_isWord_1 : Cond.fieldLink RX3 54 "OnlyPrimes$Reader" "place" "I" ∈ wsX3_isWord := List.mem_of_getElem? (i := 2) (by decide +kernel)
theorem lk_X3_isWord_2 : Cond.fieldLink RX3 27 "OnlyPrimes$Reader" "next" "I" ∈ wsX3_isWord := List.mem_of_getElem? (i := 1) (by decide +kernel)
theorem nd_X3_isWord : yX3_isWord.cls ≠ "java/lang/invoke/MethodHandle" ∧ yX3_isWord.cls ≠ "java/lang/invoke/VarHandle" ∧ (parseMethodDescriptor yX3_isWord.desc).map (fun d => d.parameters.length) = some 1 := by decide +kernel
theorem vd_X3_isWord : yX3_isWord.cls = RX3 ∧ yX3_isWord.cls ≠ "java/lang/invoke/MethodHandle" ∧ yX3_isWord.cls ≠ "java/lang/invoke/VarHandle" ∧ (parseMethodDescriptor yX3_isWord.desc).map (fun d => d.parameters.length) = some 1 := by decide +kernel
set_option maxHeartbeats 4000000 in
set_option maxRecDepth 100000 in
theorem c_X3_isWord (l : Launch) (D : va_G) (E : q_En) (kI kB kQ : ClassId) (q_this : Nat) (q_this_text : Nat) (q_this_text_values : Nat) (v_this_land : Value) (n_this_text : Nat) (place_ : Int32) (next_ : Int32) (token_ : Int32) (number_ : Int32) (text_size_ : Int32) (text_values_ : Nat → Int32) (w1 : Nat) (hw1 : w1 < 3) (N : Nat) (r : Int32) (hf : g_X3_isWord N n_this_text w1 place_ next_ text_size_ text_values_ = some r) : CtI l D E yX3_isWord wsX3_isWord rm_X3_isWord (q_tys kI kB kQ) [.ref q_this, .ref (E.1 w1)] [(q_this, .inr (3, [v_this_land, .ref q_this_text, .int place_, .int next_, .int token_, .int number_])), (q_this_text, .inr (7, [.ref q_this_text_values, .int text_size_])), (q_this_text_values, .inl (kI, n_this_text, .inl text_values_))] [(q_this, .inr (3, [v_this_land, .ref q_this_text, .int place_, .int next_, .int token_, .int number_])), (q_this_text, .inr (7, [.ref q_this_text_values, .int text_size_])), (q_this_text_values, .inl (kI, n_this_text, .inl text_values_))] r := by
  refine q_enterZ cX3_isWord 3 RX3 (by decide) rfl (Nat.le_of_ble_eq_true rfl) rfl ?_
  intro p e s m args below meth c Q A ls H hx hb hml hown hts hK hN hE hA hP hS hD hl hret
  have hl : lv_has ls 3 [(0, .ref q_this), (1, .ref (E.1 w1))] := hl
  have h := hf
  rw [g_X3_isWord] at h
  have J20 : ∀ (n20 : Nat) (x2 : Int32), g_X3_isWord_20 n_this_text w1 place_ text_size_ text_values_ n20 x2 = some r → ∀ (H : Heap) (locs : List Loc) (ls : Array Slot), va_P D vwCl [(q_this, .inr (3, [v_this_land, .ref q_this_text, .int place_, .int next_, .int token_, .int number_])), (q_this_text, .inr (7, [.ref q_this_text_values, .int text_size_])), (q_this_text_values, .inl (kI, n_this_text, .inl text_values_))] H → va_D A [(q_this, .inr (3, [v_this_land, .ref q_this_text, .int place_, .int next_, .int token_, .int number_])), (q_this_text, .inr (7, [.ref q_this_text_values, .int text_size_])), (q_this_text_values, .inl (kI, n_this_text, .inl text_values_))] → va_S A s.heap H locs → lv_has ls 3 [(0, .ref q_this), (1, .ref (E.1 w1)), (2, .int x2)] → W p l e rm_X3_isWord s m args below meth c H locs 0 0 Q (F0 m 20 ls []) := by
    intro n20
    induction n20 with
    | zero => intro x2 h; exact absurd h (by rw [g_X3_isWord_20]; exact fun q => nomatch q)
    | succ n20 ih20 =>
      intro x2 h H locs ls hP hD hS hl
      rw [g_X3_isWord_20] at h
      refine lv_iload_n hx hb dX3_isWord_20 rfl (lv_at hl 2 rfl) ?_
      refine lv_aload_n hx hb dX3_isWord_21 rfl (lv_at hl 1 rfl) ?_
      refine q_aI (va_runV (As := []) (rest := [.int x2]) ⟨hx, hb, hml, hown, hts⟩ (c_J0_length l D E (q_tys kI kB kQ) w1 hw1 H.size) (cwV 0 hts gX3_isWord_J0_length_8abf5 rfl rfl rfl vd_J0_length_8abf5 ⟨Nat.le_of_ble_eq_true rfl, Nat.le_of_ble_eq_true rfl⟩) (q_pvS hK hN hE hS hA hw1) rfl rfl hl.1 rfl (lv_room (Nat.le_of_ble_eq_true rfl)) dX3_isWord_22 ⟨Nat.zero_le _, Nat.zero_le _⟩) hP hD hS hA [] [0, 1, 2] (Wr := [(q_this, .inr (3, [v_this_land, .ref q_this_text, .int place_, .int next_, .int token_, .int number_])), (q_this_text, .inr (7, [.ref q_this_text_values, .int text_size_])), (q_this_text_values, .inl (kI, n_this_text, .inl text_values_))]) rfl rfl rfl (by decide) (fun H locs hP hD hS => ?_)
      have hP : va_P D vwCl [(q_this, .inr (3, [v_this_land, .ref q_this_text, .int place_, .int next_, .int token_, .int number_])), (q_this_text, .inr (7, [.ref q_this_text_values, .int text_size_])), (q_this_text_values, .inl (kI, n_this_text, .inl text_values_))] H := hP
      have hD : va_D A [(q_this, .inr (3, [v_this_land, .ref q_this_text, .int place_, .int next_, .int token_, .int number_])), (q_this_text, .inr (7, [.ref q_this_text_values, .int text_size_])), (q_this_text_values, .inl (kI, n_this_text, .inl text_values_))] := hD
      refine lv_icmp_ge (tgt := 57) hx hb dX3_isWord_25 (by decide) (fun c1 => ?_) (fun c1 => ?_)
      · replace h := q_t c1 h
        refine lv_iconst (v := 1) hx hb dX3_isWord_57 (by decide) ?_
        have er := q_inj h
        subst er
        exact hret _ _ _ _ nar1 (hP.sub [0, 1, 2] rfl) (hD.sub [0, 1, 2] rfl rfl) hS dX3_isWord_58
      · replace h := q_f c1 h
        refine lv_aload_n hx hb dX3_isWord_28 rfl (lv_at hl 0 rfl) ?_
        refine va_get (D := D) (ci := 3) (C := RX3) (T := TX3) (N := 6) hx hb hts iw_X3_isWord_X3 hown hK hP 0 rfl rfl 1 (by decide) (hts _ lk_X3_isWord_0) (fun _ h9 => h9) rfl dX3_isWord_29 ?_
        refine lv_aload_n hx hb dX3_isWord_32 rfl (lv_at hl 0 rfl) ?_
        refine va_get (D := D) (ci := 3) (C := RX3) (T := TX3) (N := 6) hx hb hts iw_X3_isWord_X3 hown hK hP 0 rfl rfl 2 (by decide) (hts _ lk_X3_isWord_1) (fun _ h9 => h9) rfl dX3_isWord_33 ?_
        refine lv_iload_n hx hb dX3_isWord_36 rfl (lv_at hl 2 rfl) ?_
        refine lv_iadd hx hb dX3_isWord_37 ?_
        obtain ⟨u38, hu38, h⟩ := q_b h
        refine q_aI (va_runV (As := [.int (place_ + x2)]) (rest := []) ⟨hx, hb, hml, hown, hts⟩ (c_X7_get l D E kI kB kQ q_this_text q_this_text_values n_this_text text_size_ text_values_ (place_ + x2) N u38 hu38 H.size) (cwV 1 hts gX3_isWord_X7_get rfl rfl rfl vd_X7_get ⟨Nat.le_of_ble_eq_true rfl, Nat.le_of_ble_eq_true rfl⟩) (q_pv hK hN hE hS hA hP hD [1, 2] rfl rfl rfl 1 rfl (ci := 7) rfl) rfl rfl hl.1 rfl (lv_room (Nat.le_of_ble_eq_true rfl)) dX3_isWord_38 ⟨Nat.zero_le _, Nat.zero_le _⟩) hP hD hS hA [1, 2] [0] (Wr := [(q_this, .inr (3, [v_this_land, .ref q_this_text, .int place_, .int next_, .int token_, .int number_]))]) rfl rfl rfl (by decide) (fun H locs hP hD hS => ?_)
        have hP : va_P D vwCl [(q_this, .inr (3, [v_this_land, .ref q_this_text, .int place_, .int next_, .int token_, .int number_])), (q_this_text, .inr (7, [.ref q_this_text_values, .int text_size_])), (q_this_text_values, .inl (kI, n_this_text, .inl text_values_))] H := hP
        have hD : va_D A [(q_this, .inr (3, [v_this_land, .ref q_this_text, .int place_, .int next_, .int token_, .int number_])), (q_this_text, .inr (7, [.ref q_this_text_values, .int text_size_])), (q_this_text_values, .inl (kI, n_this_text, .inl text_values_))] := hD
        refine lv_aload_n hx hb dX3_isWord_41 rfl (lv_at hl 1 rfl) ?_
        refine lv_iload_n hx hb dX3_isWord_42 rfl (lv_at hl 2 rfl) ?_
        obtain ⟨hg2, h⟩ := q_g h
        refine q_aI (va_runV (As := [.int x2]) (rest := [.int u38]) ⟨hx, hb, hml, hown, hts⟩ (c_J0_charAt l D E (q_tys kI kB kQ) w1 hw1 x2 hg2 H.size) (cwV 1 hts gX3_isWord_J0_charAt_5068e rfl rfl rfl vd_J0_charAt_5068e ⟨Nat.le_of_ble_eq_true rfl, Nat.le_of_ble_eq_true rfl⟩) (q_pvS hK hN hE hS hA hw1) rfl rfl hl.1 rfl (lv_room (Nat.le_of_ble_eq_true rfl)) dX3_isWord_43 ⟨Nat.zero_le _, Nat.zero_le _⟩) hP hD hS hA [] [0, 1, 2] (Wr := [(q_this, .inr (3, [v_this_land, .ref q_this_text, .int place_, .int next_, .int token_, .int number_])), (q_this_text, .inr (7, [.ref q_this_text_values, .int text_size_])), (q_this_text_values, .inl (kI, n_this_text, .inl text_values_))]) rfl rfl rfl (by decide) (fun H locs hP hD hS => ?_)
        have hP : va_P D vwCl [(q_this, .inr (3, [v_this_land, .ref q_this_text, .int place_, .int next_, .int token_, .int number_])), (q_this_text, .inr (7, [.ref q_this_text_values, .int text_size_])), (q_this_text_values, .inl (kI, n_this_text, .inl text_values_))] H := hP
        have hD : va_D A [(q_this, .inr (3, [v_this_land, .ref q_this_text, .int place_, .int next_, .int token_, .int number_])), (q_this_text, .inr (7, [.ref q_this_text_values, .int text_size_])), (q_this_text_values, .inl (kI, n_this_text, .inl text_values_))] := hD
        refine lv_icmp_eq (tgt := 51) hx hb dX3_isWord_46 (by decide) (fun c3 => ?_) (fun c3 => ?_)
        · replace h := q_t c3 h
          refine lv_iinc (v := (x2 + 1)) (lv' := [(2, .int (x2 + 1)), (0, .ref q_this), (1, .ref (E.1 w1))]) hx hb dX3_isWord_51 hl (k := 2) rfl rfl (by decide) rfl (fun ls hl => ?_)
          refine lv_goto (tgt := 20) hx hb dX3_isWord_54 (by decide) ?_
          exact ih20 (x2 + 1) h _ _ _ (hP.sub [0, 1, 2] rfl) (hD.sub [0, 1, 2] rfl rfl) hS (lv_sub hl [1, 2, 0] rfl)
        · replace h := q_f c3 h
          refine lv_iconst (v := 0) hx hb dX3_isWord_49 (by decide) ?_
          have er := q_inj h
          subst er
          exact hret _ _ _ _ nar0 (hP.sub [0, 1, 2] rfl) (hD.sub [0, 1, 2] rfl rfl) hS dX3_isWord_50
  refine lv_aload_n hx hb dX3_isWord_0 rfl (lv_at hl 1 rfl) ?_
  refine q_aI (va_runV (As := []) (rest := []) ⟨hx, hb, hml, hown, hts⟩ (c_J0_length l D E (q_tys kI kB kQ) w1 hw1 H.size) (cwV 0 hts gX3_isWord_J0_length_8abf5 rfl rfl rfl vd_J0_length_8abf5 ⟨Nat.le_of_ble_eq_true rfl, Nat.le_of_ble_eq_true rfl⟩) (q_pvS hK hN hE hS hA hw1) rfl rfl hl.1 rfl (lv_room (Nat.le_of_ble_eq_true rfl)) dX3_isWord_1 ⟨Nat.zero_le _, Nat.zero_le _⟩) hP hD hS hA [] [0, 1, 2] (Wr := [(q_this, .inr (3, [v_this_land, .ref q_this_text, .int place_, .int next_, .int token_, .int number_])), (q_this_text, .inr (7, [.ref q_this_text_values, .int text_size_])), (q_this_text_values, .inl (kI, n_this_text, .inl text_values_))]) rfl rfl rfl (by decide) (fun H locs hP hD hS => ?_)
  have hP : va_P D vwCl [(q_this, .inr (3, [v_this_land, .ref q_this_text, .int place_, .int next_, .int token_, .int number_])), (q_this_text, .inr (7, [.ref q_this_text_values, .int text_size_])), (q_this_text_values, .inl (kI, n_this_text, .inl text_values_))] H := hP
  have hD : va_D A [(q_this, .inr (3, [v_this_land, .ref q_this_text, .int place_, .int next_, .int token_, .int number_])), (q_this_text, .inr (7, [.ref q_this_text_values, .int text_size_])), (q_this_text_values, .inl (kI, n_this_text, .inl text_values_))] := hD
  refine lv_aload_n hx hb dX3_isWord_4 rfl (lv_at hl 0 rfl) ?_
  refine va_get (D := D) (ci := 3) (C := RX3) (T := TX3) (N := 6) hx hb hts iw_X3_isWord_X3 hown hK hP 0 rfl rfl 3 (by decide) (hts _ lk_X3_isWord_2) (fun _ h9 => h9) rfl dX3_isWord_5 ?_
  refine lv_aload_n hx hb dX3_isWord_8 rfl (lv_at hl 0 rfl) ?_
  refine va_get (D := D) (ci := 3) (C := RX3) (T := TX3) (N := 6) hx hb hts iw_X3_isWord_X3 hown hK hP 0 rfl rfl 2 (by decide) (hts _ lk_X3_isWord_1) (fun _ h9 => h9) rfl dX3_isWord_9 ?_
  refine lv_isub hx hb dX3_isWord_12 ?_
  refine lv_icmp_eq (tgt := 18) hx hb dX3_isWord_13 (by decide) (fun c4 => ?_) (fun c4 => ?_)
  · replace h := q_t c4 h
    refine lv_iconst (v := 0) hx hb dX3_isWord_18 (by decide) ?_
    refine lv_istore_n (lv' := [(2, .int 0), (0, .ref q_this), (1, .ref (E.1 w1))]) hx hb dX3_isWord_19 rfl hl (by decide) rfl (fun ls hl => ?_)
    exact J20 N 0 h _ _ _ (hP.sub [0, 1, 2] rfl) (hD.sub [0, 1, 2] rfl rfl) hS (lv_sub hl [1, 2, 0] rfl)
  · replace h := q_f c4 h
    refine lv_iconst (v := 0) hx hb dX3_isWord_16 (by decide) ?_
    have er := q_inj h
    subst er
    exact hret _ _ _ _ nar0 (hP.sub [0, 1, 2] rfl) (hD.sub [0, 1, 2] rfl rfl) hS dX3_isWord_17
abbrev rm_X3_value : Room := { frames := 1, cells := 0, slots := 0, locals := 21 }
theorem lk_X3_value_0 : Cond.fieldLink RX3 27 "OnlyPrimes$Reader" "next" "I" ∈ wsX3_value := List.mem_of_getElem? (i := 2) (by decide +kernel)
theorem iw_X3_value_X3 : ∀ w ∈ wsX30, w ∈ wsX3_value := by decide +kernel
theorem lk_X3_value_1 : Cond.fieldLink RX3 54 "OnlyPrimes$Reader" "place" "I" ∈ wsX3_value := List.mem_of_getElem? (i := 1) (by decide +kernel)
theorem lk_X3_value_2 : Cond.fieldLink RX3 23 "OnlyPrimes$Reader" "text" "LOnlyPrimes$Slots;" ∈ wsX3_value := List.mem_of_getElem? (i := 3) (by decide +kernel)
theorem nd_X3_value : yX3_value.cls ≠ "java/lang/invoke/MethodHandle" ∧ yX3_value.cls ≠ "java/lang/invoke/VarHandle" ∧ (parseMethodDescriptor yX3_value.desc).map (fun d => d.parameters.length) = some 0 := by decide +kernel
theorem vd_X3_value : yX3_value.cls = RX3 ∧ yX3_value.cls ≠ "java/lang/invoke/MethodHandle" ∧ yX3_value.cls ≠ "java/lang/invoke/VarHandle" ∧ (parseMethodDescriptor yX3_value.desc).map (fun d => d.parameters.length) = some 0 := by decide +kernel
set_option maxHeartbeats 4000000 in
set_option maxRecDepth 100000 in
theorem c_X3_value (l : Launch) (D : va_G) (E : q_En) (kI kB kQ : ClassId) (q_this : Nat) (q_this_text : Nat) (q_this_text_values : Nat) (v_this_land : Value) (n_this_text : Nat) (place_ : Int32) (next_ : Int32) (token_ : Int32) (number_ : Int32) (text_size_ : Int32) (text_values_ : Nat → Int32) (N : Nat) (r : Int32) (hf : g_X3_value N n_this_text place_ next_ text_size_ text_values_ = some r) : CtI l D E yX3_value wsX3_value rm_X3_value (q_tys kI kB kQ) [.ref q_this] [(q_this, .inr (3, [v_this_land, .ref q_this_text, .int place_, .int next_, .int token_, .int number_])), (q_this_text, .inr (7, [.ref q_this_text_values, .int text_size_])), (q_this_text_values, .inl (kI, n_this_text, .inl text_values_))] [(q_this, .inr (3, [v_this_land, .ref q_this_text, .int place_, .int next_, .int token_, .int number_])), (q_this_text, .inr (7, [.ref q_this_text_values, .int text_size_])), (q_this_text_values, .inl (kI, n_this_text, .inl text_values_))] r := by
  refine q_enterI cX3_value 3 RX3 (by decide) rfl (Nat.le_of_ble_eq_true rfl) rfl ?_
  intro p e s m args below meth c Q A ls H hx hb hml hown hts hK hN hE hA hP hS hD hl hret
  have hl : lv_has ls 3 [(0, .ref q_this)] := hl
  have h := hf
  rw [g_X3_value] at h
  have J7 : ∀ (n7 : Nat) (x1 : Int32) (x2 : Int32), g_X3_value_7 n_this_text place_ next_ text_size_ text_values_ n7 x1 x2 = some r → ∀ (H : Heap) (locs : List Loc) (ls : Array Slot), va_P D vwCl [(q_this, .inr (3, [v_this_land, .ref q_this_text, .int place_, .int next_, .int token_, .int number_])), (q_this_text, .inr (7, [.ref q_this_text_values, .int text_size_])), (q_this_text_values, .inl (kI, n_this_text, .inl text_values_))] H → va_D A [(q_this, .inr (3, [v_this_land, .ref q_this_text, .int place_, .int next_, .int token_, .int number_])), (q_this_text, .inr (7, [.ref q_this_text_values, .int text_size_])), (q_this_text_values, .inl (kI, n_this_text, .inl text_values_))] → va_S A s.heap H locs → lv_has ls 3 [(0, .ref q_this), (1, .int x1), (2, .int x2)] → W p l e rm_X3_value s m args below meth c H locs 0 0 Q (F0 m 7 ls []) := by
    intro n7
    induction n7 with
    | zero => intro x1 x2 h; exact absurd h (by rw [g_X3_value_7]; exact fun q => nomatch q)
    | succ n7 ih7 =>
      intro x1 x2 h H locs ls hP hD hS hl
      rw [g_X3_value_7] at h
      refine lv_iload_n hx hb dX3_value_7 rfl (lv_at hl 2 rfl) ?_
      refine lv_aload_n hx hb dX3_value_8 rfl (lv_at hl 0 rfl) ?_
      refine va_get (D := D) (ci := 3) (C := RX3) (T := TX3) (N := 6) hx hb hts iw_X3_value_X3 hown hK hP 0 rfl rfl 3 (by decide) (hts _ lk_X3_value_0) (fun _ h9 => h9) rfl dX3_value_9 ?_
      refine lv_icmp_ge (tgt := 48) hx hb dX3_value_12 (by decide) (fun c1 => ?_) (fun c1 => ?_)
      · replace h := q_t c1 h
        refine lv_iload_n hx hb dX3_value_48 rfl (lv_at hl 1 rfl) ?_
        have er := q_inj h
        subst er
        exact hret _ _ _ _ (hP.sub [0, 1, 2] rfl) (hD.sub [0, 1, 2] rfl rfl) hS dX3_value_49
      · replace h := q_f c1 h
        refine lv_iload_n hx hb dX3_value_15 rfl (lv_at hl 2 rfl) ?_
        refine lv_aload_n hx hb dX3_value_16 rfl (lv_at hl 0 rfl) ?_
        refine va_get (D := D) (ci := 3) (C := RX3) (T := TX3) (N := 6) hx hb hts iw_X3_value_X3 hown hK hP 0 rfl rfl 2 (by decide) (hts _ lk_X3_value_1) (fun _ h9 => h9) rfl dX3_value_17 ?_
        refine lv_iconst (v := 2) hx hb dX3_value_20 (by decide) ?_
        refine lv_iadd hx hb dX3_value_21 ?_
        refine lv_icmp_ge (tgt := 48) hx hb dX3_value_22 (by decide) (fun c2 => ?_) (fun c2 => ?_)
        · replace h := q_t c2 h
          refine lv_iload_n hx hb dX3_value_48 rfl (lv_at hl 1 rfl) ?_
          have er := q_inj h
          subst er
          exact hret _ _ _ _ (hP.sub [0, 1, 2] rfl) (hD.sub [0, 1, 2] rfl rfl) hS dX3_value_49
        · replace h := q_f c2 h
          refine lv_bipush (v := 10) hx hb dX3_value_25 (by decide) ?_
          refine lv_iload_n hx hb dX3_value_27 rfl (lv_at hl 1 rfl) ?_
          refine lv_imul hx hb dX3_value_28 ?_
          refine lv_aload_n hx hb dX3_value_29 rfl (lv_at hl 0 rfl) ?_
          refine va_get (D := D) (ci := 3) (C := RX3) (T := TX3) (N := 6) hx hb hts iw_X3_value_X3 hown hK hP 0 rfl rfl 1 (by decide) (hts _ lk_X3_value_2) (fun _ h9 => h9) rfl dX3_value_30 ?_
          refine lv_iload_n hx hb dX3_value_33 rfl (lv_at hl 2 rfl) ?_
          obtain ⟨u34, hu34, h⟩ := q_b h
          refine q_aI (va_runV (As := [.int x2]) (rest := [.int (10 * x1)]) ⟨hx, hb, hml, hown, hts⟩ (c_X7_get l D E kI kB kQ q_this_text q_this_text_values n_this_text text_size_ text_values_ x2 N u34 hu34 H.size) (cwV 1 hts gX3_value_X7_get rfl rfl rfl vd_X7_get ⟨Nat.le_of_ble_eq_true rfl, Nat.le_of_ble_eq_true rfl⟩) (q_pv hK hN hE hS hA hP hD [1, 2] rfl rfl rfl 1 rfl (ci := 7) rfl) rfl rfl hl.1 rfl (lv_room (Nat.le_of_ble_eq_true rfl)) dX3_value_34 ⟨Nat.zero_le _, Nat.zero_le _⟩) hP hD hS hA [1, 2] [0] (Wr := [(q_this, .inr (3, [v_this_land, .ref q_this_text, .int place_, .int next_, .int token_, .int number_]))]) rfl rfl rfl (by decide) (fun H locs hP hD hS => ?_)
          have hP : va_P D vwCl [(q_this, .inr (3, [v_this_land, .ref q_this_text, .int place_, .int next_, .int token_, .int number_])), (q_this_text, .inr (7, [.ref q_this_text_values, .int text_size_])), (q_this_text_values, .inl (kI, n_this_text, .inl text_values_))] H := hP
          have hD : va_D A [(q_this, .inr (3, [v_this_land, .ref q_this_text, .int place_, .int next_, .int token_, .int number_])), (q_this_text, .inr (7, [.ref q_this_text_values, .int text_size_])), (q_this_text_values, .inl (kI, n_this_text, .inl text_values_))] := hD
          refine lv_iadd hx hb dX3_value_37 ?_
          refine lv_bipush (v := 48) hx hb dX3_value_38 (by decide) ?_
          refine lv_isub hx hb dX3_value_40 ?_
          refine lv_istore_n (lv' := [(1, .int (((10 * x1) + u34) - 48)), (0, .ref q_this), (2, .int x2)]) hx hb dX3_value_41 rfl hl (by decide) rfl (fun ls hl => ?_)
          refine lv_iinc (v := (x2 + 1)) (lv' := [(2, .int (x2 + 1)), (1, .int (((10 * x1) + u34) - 48)), (0, .ref q_this)]) hx hb dX3_value_42 hl (k := 2) rfl rfl (by decide) rfl (fun ls hl => ?_)
          refine lv_goto (tgt := 7) hx hb dX3_value_45 (by decide) ?_
          exact ih7 (((10 * x1) + u34) - 48) (x2 + 1) h _ _ _ (hP.sub [0, 1, 2] rfl) (hD.sub [0, 1, 2] rfl rfl) hS (lv_sub hl [2, 1, 0] rfl)
  refine lv_iconst (v := 0) hx hb dX3_value_0 (by decide) ?_
  refine lv_istore_n (lv' := [(1, .int 0), (0, .ref q_this)]) hx hb dX3_value_1 rfl hl (by decide) rfl (fun ls hl => ?_)
  refine lv_aload_n hx hb dX3_value_2 rfl (lv_at hl 1 rfl) ?_
  refine va_get (D := D) (ci := 3) (C := RX3) (T := TX3) (N := 6) hx hb hts iw_X3_value_X3 hown hK hP 0 rfl rfl 2 (by decide) (hts _ lk_X3_value_1) (fun _ h9 => h9) rfl dX3_value_3 ?_
  refine lv_istore_n (lv' := [(2, .int place_), (1, .int 0), (0, .ref q_this)]) hx hb dX3_value_6 rfl hl (by decide) rfl (fun ls hl => ?_)
  exact J7 N 0 place_ h _ _ _ (hP.sub [0, 1, 2] rfl) (hD.sub [0, 1, 2] rfl rfl) hS (lv_sub hl [2, 1, 0] rfl)
abbrev rm_X3_take : Room := { frames := 5, cells := 0, slots := 0, locals := 107 }
theorem iw_X3_take_X3 : ∀ w ∈ wsX30, w ∈ wsX3_take := by decide +kernel
theorem lk_X3_take_0 : Cond.fieldLink RX3 41 "OnlyPrimes$Reader" "token" "I" ∈ wsX3_take := List.mem_of_getElem? (i := 4) (by decide +kernel)
theorem lk_X3_take_1 : Cond.fieldLink RX3 27 "OnlyPrimes$Reader" "next" "I" ∈ wsX3_take := List.mem_of_getElem? (i := 1) (by decide +kernel)
theorem lk_X3_take_2 : Cond.fieldLink RX3 54 "OnlyPrimes$Reader" "place" "I" ∈ wsX3_take := List.mem_of_getElem? (i := 2) (by decide +kernel)
theorem lk_X3_take_3 : Cond.fieldLink RX3 23 "OnlyPrimes$Reader" "text" "LOnlyPrimes$Slots;" ∈ wsX3_take := List.mem_of_getElem? (i := 3) (by decide +kernel)
theorem lk_X3_take_4 : Cond.fieldLink RX3 61 "OnlyPrimes$Reader" "number" "I" ∈ wsX3_take := List.mem_of_getElem? (i := 5) (by decide +kernel)
theorem nd_X3_take : yX3_take.cls ≠ "java/lang/invoke/MethodHandle" ∧ yX3_take.cls ≠ "java/lang/invoke/VarHandle" ∧ (parseMethodDescriptor yX3_take.desc).map (fun d => d.parameters.length) = some 0 := by decide +kernel
theorem vd_X3_take : yX3_take.cls = RX3 ∧ yX3_take.cls ≠ "java/lang/invoke/MethodHandle" ∧ yX3_take.cls ≠ "java/lang/invoke/VarHandle" ∧ (parseMethodDescriptor yX3_take.desc).map (fun d => d.parameters.length) = some 0 := by decide +kernel
set_option maxHeartbeats 4000000 in
set_option maxRecDepth 100000 in
theorem c_X3_take (l : Launch) (D : va_G) (E : q_En) (kI kB kQ : ClassId) (q_this : Nat) (q_this_text : Nat) (q_this_text_values : Nat) (v_this_land : Value) (n_this_text : Nat) (place_ : Int32) (next_ : Int32) (token_ : Int32) (number_ : Int32) (text_size_ : Int32) (text_values_ : Nat → Int32) (N : Nat) (r : Int32 × Int32 × Int32 × Int32) (hf : g_X3_take N n_this_text next_ token_ number_ text_size_ text_values_ = some r) : CtV l D E yX3_take wsX3_take rm_X3_take (q_tys kI kB kQ) [.ref q_this] [(q_this, .inr (3, [v_this_land, .ref q_this_text, .int place_, .int next_, .int token_, .int number_])), (q_this_text, .inr (7, [.ref q_this_text_values, .int text_size_])), (q_this_text_values, .inl (kI, n_this_text, .inl text_values_))] [(q_this, .inr (3, [v_this_land, .ref q_this_text, .int r.2.2.1, .int r.1, .int r.2.2.2, .int r.2.1])), (q_this_text, .inr (7, [.ref q_this_text_values, .int text_size_])), (q_this_text_values, .inl (kI, n_this_text, .inl text_values_))] := by
  refine q_enterV cX3_take 1 RX3 (by decide) rfl (Nat.le_of_ble_eq_true rfl) rfl ?_
  intro p e s m args below meth c Q A ls H hx hb hml hown hts hK hN hE hA hP hS hD hl hret
  have hl : lv_has ls 1 [(0, .ref q_this)] := hl
  have h := hf
  rw [g_X3_take] at h
  have J112 : ∀ (t1 : Int32) (next_ : Int32) (number_ : Int32) (place_ : Int32) (token_ : Int32), g_X3_take_112 N n_this_text text_size_ text_values_ t1 next_ number_ place_ token_ = some r → ∀ (H : Heap) (locs : List Loc) (ls : Array Slot), va_P D vwCl [(q_this, .inr (3, [v_this_land, .ref q_this_text, .int place_, .int next_, .int token_, .int number_])), (q_this_text, .inr (7, [.ref q_this_text_values, .int text_size_])), (q_this_text_values, .inl (kI, n_this_text, .inl text_values_))] H → va_D A [(q_this, .inr (3, [v_this_land, .ref q_this_text, .int place_, .int next_, .int token_, .int number_])), (q_this_text, .inr (7, [.ref q_this_text_values, .int text_size_])), (q_this_text_values, .inl (kI, n_this_text, .inl text_values_))] → va_S A s.heap H locs → lv_has ls 1 [(0, .ref q_this)] → W p l e rm_X3_take s m args below meth c H locs 0 0 Q (F0 m 112 ls [.int t1, .ref q_this]) := by
    intro t1 next_ number_ place_ token_ h H locs ls hP hD hS hl
    rw [g_X3_take_112] at h
    refine va_put (D := D) (ci := 3) (v := .int t1) (ty := .int) (C := RX3) (T := TX3) (N := 6) hx hb hts iw_X3_take_X3 tyX3 tyX3_ok nmX3 hown hK hP hD hS 0 rfl rfl 4 (by decide) (hts _ lk_X3_take_0) (fun _ h9 => h9) rfl (by decide +kernel) rfl rfl (Nat.le_of_ble_eq_true rfl) dX3_take_112 (fun H locs hP hD hS => ?_)
    have hP : va_P D vwCl [(q_this, .inr (3, [v_this_land, .ref q_this_text, .int place_, .int next_, .int t1, .int number_])), (q_this_text, .inr (7, [.ref q_this_text_values, .int text_size_])), (q_this_text_values, .inl (kI, n_this_text, .inl text_values_))] H := hP
    have hD : va_D A [(q_this, .inr (3, [v_this_land, .ref q_this_text, .int place_, .int next_, .int t1, .int number_])), (q_this_text, .inr (7, [.ref q_this_text_values, .int text_size_])), (q_this_text_values, .inl (kI, n_this_text, .inl text_values_))] := hD
    refine lv_aload_n hx hb dX3_take_115 rfl (lv_at hl 0 rfl) ?_
    refine lv_aload_n hx hb dX3_take_116 rfl (lv_at hl 0 rfl) ?_
    refine va_ldcS hx hb hown hE.2.1.2.2 dX3_take_117 ?_
    obtain ⟨u119, hu119, h⟩ := q_b h
    refine q_aI (va_runV (As := [.ref (E.1 2)]) (rest := [.ref q_this]) ⟨hx, hb, hml, hown, hts⟩ (c_X3_isWord l D E kI kB kQ q_this q_this_text q_this_text_values v_this_land n_this_text place_ next_ t1 number_ text_size_ text_values_ 2 (by decide) N u119 hu119 H.size) (cwV 1 hts gX3_take_X3_isWord rfl rfl rfl vd_X3_isWord ⟨Nat.le_of_ble_eq_true rfl, Nat.le_of_ble_eq_true rfl⟩) (q_pv hK hN hE hS hA hP hD [0, 1, 2] rfl rfl rfl 0 rfl (ci := 3) rfl) rfl rfl hl.1 rfl (lv_room (Nat.le_of_ble_eq_true rfl)) dX3_take_119 ⟨Nat.zero_le _, Nat.zero_le _⟩) hP hD hS hA [0, 1, 2] [] (Wr := []) rfl rfl rfl (by decide) (fun H locs hP hD hS => ?_)
    have hP : va_P D vwCl [(q_this, .inr (3, [v_this_land, .ref q_this_text, .int place_, .int next_, .int t1, .int number_])), (q_this_text, .inr (7, [.ref q_this_text_values, .int text_size_])), (q_this_text_values, .inl (kI, n_this_text, .inl text_values_))] H := hP
    have hD : va_D A [(q_this, .inr (3, [v_this_land, .ref q_this_text, .int place_, .int next_, .int t1, .int number_])), (q_this_text, .inr (7, [.ref q_this_text_values, .int text_size_])), (q_this_text_values, .inl (kI, n_this_text, .inl text_values_))] := hD
    refine lv_if_eq (tgt := 129) hx hb dX3_take_122 (by decide) (fun c1 => ?_) (fun c1 => ?_)
    · replace h := q_t c1 h
      refine lv_aload_n hx hb dX3_take_129 rfl (lv_at hl 0 rfl) ?_
      refine va_get (D := D) (ci := 3) (C := RX3) (T := TX3) (N := 6) hx hb hts iw_X3_take_X3 hown hK hP 0 rfl rfl 4 (by decide) (hts _ lk_X3_take_0) (fun _ h9 => h9) rfl dX3_take_130 ?_
      refine va_put (D := D) (ci := 3) (v := .int t1) (ty := .int) (C := RX3) (T := TX3) (N := 6) hx hb hts iw_X3_take_X3 tyX3 tyX3_ok nmX3 hown hK hP hD hS 0 rfl rfl 4 (by decide) (hts _ lk_X3_take_0) (fun _ h9 => h9) rfl (by decide +kernel) rfl rfl (Nat.le_of_ble_eq_true rfl) dX3_take_133 (fun H locs hP hD hS => ?_)
      have hP : va_P D vwCl [(q_this, .inr (3, [v_this_land, .ref q_this_text, .int place_, .int next_, .int t1, .int number_])), (q_this_text, .inr (7, [.ref q_this_text_values, .int text_size_])), (q_this_text_values, .inl (kI, n_this_text, .inl text_values_))] H := hP
      have hD : va_D A [(q_this, .inr (3, [v_this_land, .ref q_this_text, .int place_, .int next_, .int t1, .int number_])), (q_this_text, .inr (7, [.ref q_this_text_values, .int text_size_])), (q_this_text_values, .inl (kI, n_this_text, .inl text_values_))] := hD
      refine lv_goto (tgt := 221) hx hb dX3_take_136 (by decide) ?_
      have er := q_inj h
      subst er
      exact hret _ _ _ _ (hP.sub [0, 1, 2] rfl) (hD.sub [0, 1, 2] rfl rfl) hS dX3_take_221
    · replace h := q_f c1 h
      refine lv_iconst (v := 5) hx hb dX3_take_125 (by decide) ?_
      refine lv_goto (tgt := 133) hx hb dX3_take_126 (by decide) ?_
      refine va_put (D := D) (ci := 3) (v := .int 5) (ty := .int) (C := RX3) (T := TX3) (N := 6) hx hb hts iw_X3_take_X3 tyX3 tyX3_ok nmX3 hown hK hP hD hS 0 rfl rfl 4 (by decide) (hts _ lk_X3_take_0) (fun _ h9 => h9) rfl (by decide +kernel) rfl rfl (Nat.le_of_ble_eq_true rfl) dX3_take_133 (fun H locs hP hD hS => ?_)
      have hP : va_P D vwCl [(q_this, .inr (3, [v_this_land, .ref q_this_text, .int place_, .int next_, .int 5, .int number_])), (q_this_text, .inr (7, [.ref q_this_text_values, .int text_size_])), (q_this_text_values, .inl (kI, n_this_text, .inl text_values_))] H := hP
      have hD : va_D A [(q_this, .inr (3, [v_this_land, .ref q_this_text, .int place_, .int next_, .int 5, .int number_])), (q_this_text, .inr (7, [.ref q_this_text_values, .int text_size_])), (q_this_text_values, .inl (kI, n_this_text, .inl text_values_))] := hD
      refine lv_goto (tgt := 221) hx hb dX3_take_136 (by decide) ?_
      have er := q_inj h
      subst er
      exact hret _ _ _ _ (hP.sub [0, 1, 2] rfl) (hD.sub [0, 1, 2] rfl rfl) hS dX3_take_221
  refine lv_aload_n hx hb dX3_take_0 rfl (lv_at hl 0 rfl) ?_
  refine lv_aload_n hx hb dX3_take_1 rfl (lv_at hl 0 rfl) ?_
  refine lv_aload_n hx hb dX3_take_2 rfl (lv_at hl 0 rfl) ?_
  refine va_get (D := D) (ci := 3) (C := RX3) (T := TX3) (N := 6) hx hb hts iw_X3_take_X3 hown hK hP 0 rfl rfl 3 (by decide) (hts _ lk_X3_take_1) (fun _ h9 => h9) rfl dX3_take_3 ?_
  refine lv_bipush (v := 32) hx hb dX3_take_6 (by decide) ?_
  refine lv_bipush (v := 32) hx hb dX3_take_8 (by decide) ?_
  obtain ⟨u10, hu10, h⟩ := q_b h
  refine q_aI (va_runV (As := [.int next_, .int 32, .int 32]) (rest := [.ref q_this]) ⟨hx, hb, hml, hown, hts⟩ (c_X3_runEnd l D E kI kB kQ q_this q_this_text q_this_text_values v_this_land n_this_text place_ next_ token_ number_ text_size_ text_values_ next_ 32 32 N u10 hu10 H.size) (cwV 3 hts gX3_take_X3_runEnd rfl rfl rfl vd_X3_runEnd ⟨Nat.le_of_ble_eq_true rfl, Nat.le_of_ble_eq_true rfl⟩) (q_pv hK hN hE hS hA hP hD [0, 1, 2] rfl rfl rfl 0 rfl (ci := 3) rfl) rfl rfl hl.1 rfl (lv_room (Nat.le_of_ble_eq_true rfl)) dX3_take_10 ⟨Nat.zero_le _, Nat.zero_le _⟩) hP hD hS hA [0, 1, 2] [] (Wr := []) rfl rfl rfl (by decide) (fun H locs hP hD hS => ?_)
  have hP : va_P D vwCl [(q_this, .inr (3, [v_this_land, .ref q_this_text, .int place_, .int next_, .int token_, .int number_])), (q_this_text, .inr (7, [.ref q_this_text_values, .int text_size_])), (q_this_text_values, .inl (kI, n_this_text, .inl text_values_))] H := hP
  have hD : va_D A [(q_this, .inr (3, [v_this_land, .ref q_this_text, .int place_, .int next_, .int token_, .int number_])), (q_this_text, .inr (7, [.ref q_this_text_values, .int text_size_])), (q_this_text_values, .inl (kI, n_this_text, .inl text_values_))] := hD
  refine va_put (D := D) (ci := 3) (v := .int u10) (ty := .int) (C := RX3) (T := TX3) (N := 6) hx hb hts iw_X3_take_X3 tyX3 tyX3_ok nmX3 hown hK hP hD hS 0 rfl rfl 2 (by decide) (hts _ lk_X3_take_2) (fun _ h9 => h9) rfl (by decide +kernel) rfl rfl (Nat.le_of_ble_eq_true rfl) dX3_take_13 (fun H locs hP hD hS => ?_)
  have hP : va_P D vwCl [(q_this, .inr (3, [v_this_land, .ref q_this_text, .int u10, .int next_, .int token_, .int number_])), (q_this_text, .inr (7, [.ref q_this_text_values, .int text_size_])), (q_this_text_values, .inl (kI, n_this_text, .inl text_values_))] H := hP
  have hD : va_D A [(q_this, .inr (3, [v_this_land, .ref q_this_text, .int u10, .int next_, .int token_, .int number_])), (q_this_text, .inr (7, [.ref q_this_text_values, .int text_size_])), (q_this_text_values, .inl (kI, n_this_text, .inl text_values_))] := hD
  refine lv_aload_n hx hb dX3_take_16 rfl (lv_at hl 0 rfl) ?_
  refine lv_aload_n hx hb dX3_take_17 rfl (lv_at hl 0 rfl) ?_
  refine va_get (D := D) (ci := 3) (C := RX3) (T := TX3) (N := 6) hx hb hts iw_X3_take_X3 hown hK hP 0 rfl rfl 2 (by decide) (hts _ lk_X3_take_2) (fun _ h9 => h9) rfl dX3_take_18 ?_
  refine lv_iconst (v := 1) hx hb dX3_take_21 (by decide) ?_
  refine lv_iadd hx hb dX3_take_22 ?_
  refine va_put (D := D) (ci := 3) (v := .int (u10 + 1)) (ty := .int) (C := RX3) (T := TX3) (N := 6) hx hb hts iw_X3_take_X3 tyX3 tyX3_ok nmX3 hown hK hP hD hS 0 rfl rfl 3 (by decide) (hts _ lk_X3_take_1) (fun _ h9 => h9) rfl (by decide +kernel) rfl rfl (Nat.le_of_ble_eq_true rfl) dX3_take_23 (fun H locs hP hD hS => ?_)
  have hP : va_P D vwCl [(q_this, .inr (3, [v_this_land, .ref q_this_text, .int u10, .int (u10 + 1), .int token_, .int number_])), (q_this_text, .inr (7, [.ref q_this_text_values, .int text_size_])), (q_this_text_values, .inl (kI, n_this_text, .inl text_values_))] H := hP
  have hD : va_D A [(q_this, .inr (3, [v_this_land, .ref q_this_text, .int u10, .int (u10 + 1), .int token_, .int number_])), (q_this_text, .inr (7, [.ref q_this_text_values, .int text_size_])), (q_this_text_values, .inl (kI, n_this_text, .inl text_values_))] := hD
  refine lv_aload_n hx hb dX3_take_26 rfl (lv_at hl 0 rfl) ?_
  refine va_get (D := D) (ci := 3) (C := RX3) (T := TX3) (N := 6) hx hb hts iw_X3_take_X3 hown hK hP 0 rfl rfl 2 (by decide) (hts _ lk_X3_take_2) (fun _ h9 => h9) rfl dX3_take_27 ?_
  refine lv_aload_n hx hb dX3_take_30 rfl (lv_at hl 0 rfl) ?_
  refine va_get (D := D) (ci := 3) (C := RX3) (T := TX3) (N := 6) hx hb hts iw_X3_take_X3 hown hK hP 0 rfl rfl 1 (by decide) (hts _ lk_X3_take_3) (fun _ h9 => h9) rfl dX3_take_31 ?_
  obtain ⟨u34, hu34, h⟩ := q_b h
  refine q_aI (va_runV (As := []) (rest := [.int u10]) ⟨hx, hb, hml, hown, hts⟩ (c_X7_size l D E kI kB kQ q_this_text (.ref q_this_text_values) text_size_ N u34 hu34 H.size) (cwV 0 hts gX3_take_X7_size rfl rfl rfl vd_X7_size ⟨Nat.le_of_ble_eq_true rfl, Nat.le_of_ble_eq_true rfl⟩) (q_pv hK hN hE hS hA hP hD [1] rfl rfl rfl 1 rfl (ci := 7) rfl) rfl rfl hl.1 rfl (lv_room (Nat.le_of_ble_eq_true rfl)) dX3_take_34 ⟨Nat.zero_le _, Nat.zero_le _⟩) hP hD hS hA [1] [0, 2] (Wr := [(q_this, .inr (3, [v_this_land, .ref q_this_text, .int u10, .int (u10 + 1), .int token_, .int number_])), (q_this_text_values, .inl (kI, n_this_text, .inl text_values_))]) rfl rfl rfl (by decide) (fun H locs hP hD hS => ?_)
  have hP : va_P D vwCl [(q_this, .inr (3, [v_this_land, .ref q_this_text, .int u10, .int (u10 + 1), .int token_, .int number_])), (q_this_text_values, .inl (kI, n_this_text, .inl text_values_)), (q_this_text, .inr (7, [.ref q_this_text_values, .int text_size_]))] H := hP
  have hD : va_D A [(q_this, .inr (3, [v_this_land, .ref q_this_text, .int u10, .int (u10 + 1), .int token_, .int number_])), (q_this_text_values, .inl (kI, n_this_text, .inl text_values_)), (q_this_text, .inr (7, [.ref q_this_text_values, .int text_size_]))] := hD
  refine lv_icmp_lt (tgt := 56) hx hb dX3_take_37 (by decide) (fun c2 => ?_) (fun c2 => ?_)
  · replace h := q_t c2 h
    refine lv_aload_n hx hb dX3_take_56 rfl (lv_at hl 0 rfl) ?_
    refine lv_bipush (v := 97) hx hb dX3_take_57 (by decide) ?_
    refine lv_bipush (v := 122) hx hb dX3_take_59 (by decide) ?_
    obtain ⟨u61, hu61, h⟩ := q_b h
    refine q_aI (va_runV (As := [.int 97, .int 122]) (rest := []) ⟨hx, hb, hml, hown, hts⟩ (c_X3_isFrom l D E kI kB kQ q_this q_this_text q_this_text_values v_this_land n_this_text u10 (u10 + 1) token_ number_ text_size_ text_values_ 97 122 N u61 hu61 H.size) (cwV 2 hts gX3_take_X3_isFrom rfl rfl rfl vd_X3_isFrom ⟨Nat.le_of_ble_eq_true rfl, Nat.le_of_ble_eq_true rfl⟩) (q_pv hK hN hE hS hA hP hD [0, 2, 1] rfl rfl rfl 0 rfl (ci := 3) rfl) rfl rfl hl.1 rfl (lv_room (Nat.le_of_ble_eq_true rfl)) dX3_take_61 ⟨Nat.zero_le _, Nat.zero_le _⟩) hP hD hS hA [0, 2, 1] [] (Wr := []) rfl rfl rfl (by decide) (fun H locs hP hD hS => ?_)
    have hP : va_P D vwCl [(q_this, .inr (3, [v_this_land, .ref q_this_text, .int u10, .int (u10 + 1), .int token_, .int number_])), (q_this_text, .inr (7, [.ref q_this_text_values, .int text_size_])), (q_this_text_values, .inl (kI, n_this_text, .inl text_values_))] H := hP
    have hD : va_D A [(q_this, .inr (3, [v_this_land, .ref q_this_text, .int u10, .int (u10 + 1), .int token_, .int number_])), (q_this_text, .inr (7, [.ref q_this_text_values, .int text_size_])), (q_this_text_values, .inl (kI, n_this_text, .inl text_values_))] := hD
    refine lv_if_eq (tgt := 139) hx hb dX3_take_64 (by decide) (fun c3 => ?_) (fun c3 => ?_)
    · replace h := q_t c3 h
      refine lv_aload_n hx hb dX3_take_139 rfl (lv_at hl 0 rfl) ?_
      refine lv_bipush (v := 48) hx hb dX3_take_140 (by decide) ?_
      refine lv_bipush (v := 57) hx hb dX3_take_142 (by decide) ?_
      obtain ⟨u144, hu144, h⟩ := q_b h
      refine q_aI (va_runV (As := [.int 48, .int 57]) (rest := []) ⟨hx, hb, hml, hown, hts⟩ (c_X3_isFrom l D E kI kB kQ q_this q_this_text q_this_text_values v_this_land n_this_text u10 (u10 + 1) token_ number_ text_size_ text_values_ 48 57 N u144 hu144 H.size) (cwV 2 hts gX3_take_X3_isFrom rfl rfl rfl vd_X3_isFrom ⟨Nat.le_of_ble_eq_true rfl, Nat.le_of_ble_eq_true rfl⟩) (q_pv hK hN hE hS hA hP hD [0, 1, 2] rfl rfl rfl 0 rfl (ci := 3) rfl) rfl rfl hl.1 rfl (lv_room (Nat.le_of_ble_eq_true rfl)) dX3_take_144 ⟨Nat.zero_le _, Nat.zero_le _⟩) hP hD hS hA [0, 1, 2] [] (Wr := []) rfl rfl rfl (by decide) (fun H locs hP hD hS => ?_)
      have hP : va_P D vwCl [(q_this, .inr (3, [v_this_land, .ref q_this_text, .int u10, .int (u10 + 1), .int token_, .int number_])), (q_this_text, .inr (7, [.ref q_this_text_values, .int text_size_])), (q_this_text_values, .inl (kI, n_this_text, .inl text_values_))] H := hP
      have hD : va_D A [(q_this, .inr (3, [v_this_land, .ref q_this_text, .int u10, .int (u10 + 1), .int token_, .int number_])), (q_this_text, .inr (7, [.ref q_this_text_values, .int text_size_])), (q_this_text_values, .inl (kI, n_this_text, .inl text_values_))] := hD
      refine lv_if_eq (tgt := 200) hx hb dX3_take_147 (by decide) (fun c4 => ?_) (fun c4 => ?_)
      · replace h := q_t c4 h
        refine lv_aload_n hx hb dX3_take_200 rfl (lv_at hl 0 rfl) ?_
        refine lv_aload_n hx hb dX3_take_201 rfl (lv_at hl 0 rfl) ?_
        refine lv_bipush (v := 59) hx hb dX3_take_202 (by decide) ?_
        refine lv_bipush (v := 59) hx hb dX3_take_204 (by decide) ?_
        obtain ⟨u206, hu206, h⟩ := q_b h
        refine q_aI (va_runV (As := [.int 59, .int 59]) (rest := [.ref q_this]) ⟨hx, hb, hml, hown, hts⟩ (c_X3_isFrom l D E kI kB kQ q_this q_this_text q_this_text_values v_this_land n_this_text u10 (u10 + 1) token_ number_ text_size_ text_values_ 59 59 N u206 hu206 H.size) (cwV 2 hts gX3_take_X3_isFrom rfl rfl rfl vd_X3_isFrom ⟨Nat.le_of_ble_eq_true rfl, Nat.le_of_ble_eq_true rfl⟩) (q_pv hK hN hE hS hA hP hD [0, 1, 2] rfl rfl rfl 0 rfl (ci := 3) rfl) rfl rfl hl.1 rfl (lv_room (Nat.le_of_ble_eq_true rfl)) dX3_take_206 ⟨Nat.zero_le _, Nat.zero_le _⟩) hP hD hS hA [0, 1, 2] [] (Wr := []) rfl rfl rfl (by decide) (fun H locs hP hD hS => ?_)
        have hP : va_P D vwCl [(q_this, .inr (3, [v_this_land, .ref q_this_text, .int u10, .int (u10 + 1), .int token_, .int number_])), (q_this_text, .inr (7, [.ref q_this_text_values, .int text_size_])), (q_this_text_values, .inl (kI, n_this_text, .inl text_values_))] H := hP
        have hD : va_D A [(q_this, .inr (3, [v_this_land, .ref q_this_text, .int u10, .int (u10 + 1), .int token_, .int number_])), (q_this_text, .inr (7, [.ref q_this_text_values, .int text_size_])), (q_this_text_values, .inl (kI, n_this_text, .inl text_values_))] := hD
        refine lv_if_eq (tgt := 216) hx hb dX3_take_209 (by decide) (fun c5 => ?_) (fun c5 => ?_)
        · replace h := q_t c5 h
          refine lv_bipush (v := 6) hx hb dX3_take_216 (by decide) ?_
          refine va_put (D := D) (ci := 3) (v := .int 6) (ty := .int) (C := RX3) (T := TX3) (N := 6) hx hb hts iw_X3_take_X3 tyX3 tyX3_ok nmX3 hown hK hP hD hS 0 rfl rfl 4 (by decide) (hts _ lk_X3_take_0) (fun _ h9 => h9) rfl (by decide +kernel) rfl rfl (Nat.le_of_ble_eq_true rfl) dX3_take_218 (fun H locs hP hD hS => ?_)
          have hP : va_P D vwCl [(q_this, .inr (3, [v_this_land, .ref q_this_text, .int u10, .int (u10 + 1), .int 6, .int number_])), (q_this_text, .inr (7, [.ref q_this_text_values, .int text_size_])), (q_this_text_values, .inl (kI, n_this_text, .inl text_values_))] H := hP
          have hD : va_D A [(q_this, .inr (3, [v_this_land, .ref q_this_text, .int u10, .int (u10 + 1), .int 6, .int number_])), (q_this_text, .inr (7, [.ref q_this_text_values, .int text_size_])), (q_this_text_values, .inl (kI, n_this_text, .inl text_values_))] := hD
          have er := q_inj h
          subst er
          exact hret _ _ _ _ (hP.sub [0, 1, 2] rfl) (hD.sub [0, 1, 2] rfl rfl) hS dX3_take_221
        · replace h := q_f c5 h
          refine lv_iconst (v := 2) hx hb dX3_take_212 (by decide) ?_
          refine lv_goto (tgt := 218) hx hb dX3_take_213 (by decide) ?_
          refine va_put (D := D) (ci := 3) (v := .int 2) (ty := .int) (C := RX3) (T := TX3) (N := 6) hx hb hts iw_X3_take_X3 tyX3 tyX3_ok nmX3 hown hK hP hD hS 0 rfl rfl 4 (by decide) (hts _ lk_X3_take_0) (fun _ h9 => h9) rfl (by decide +kernel) rfl rfl (Nat.le_of_ble_eq_true rfl) dX3_take_218 (fun H locs hP hD hS => ?_)
          have hP : va_P D vwCl [(q_this, .inr (3, [v_this_land, .ref q_this_text, .int u10, .int (u10 + 1), .int 2, .int number_])), (q_this_text, .inr (7, [.ref q_this_text_values, .int text_size_])), (q_this_text_values, .inl (kI, n_this_text, .inl text_values_))] H := hP
          have hD : va_D A [(q_this, .inr (3, [v_this_land, .ref q_this_text, .int u10, .int (u10 + 1), .int 2, .int number_])), (q_this_text, .inr (7, [.ref q_this_text_values, .int text_size_])), (q_this_text_values, .inl (kI, n_this_text, .inl text_values_))] := hD
          have er := q_inj h
          subst er
          exact hret _ _ _ _ (hP.sub [0, 1, 2] rfl) (hD.sub [0, 1, 2] rfl rfl) hS dX3_take_221
      · replace h := q_f c4 h
        refine lv_aload_n hx hb dX3_take_150 rfl (lv_at hl 0 rfl) ?_
        refine lv_aload_n hx hb dX3_take_151 rfl (lv_at hl 0 rfl) ?_
        refine lv_aload_n hx hb dX3_take_152 rfl (lv_at hl 0 rfl) ?_
        refine va_get (D := D) (ci := 3) (C := RX3) (T := TX3) (N := 6) hx hb hts iw_X3_take_X3 hown hK hP 0 rfl rfl 2 (by decide) (hts _ lk_X3_take_2) (fun _ h9 => h9) rfl dX3_take_153 ?_
        refine lv_bipush (v := 48) hx hb dX3_take_156 (by decide) ?_
        refine lv_bipush (v := 57) hx hb dX3_take_158 (by decide) ?_
        obtain ⟨u160, hu160, h⟩ := q_b h
        refine q_aI (va_runV (As := [.int u10, .int 48, .int 57]) (rest := [.ref q_this]) ⟨hx, hb, hml, hown, hts⟩ (c_X3_runEnd l D E kI kB kQ q_this q_this_text q_this_text_values v_this_land n_this_text u10 (u10 + 1) token_ number_ text_size_ text_values_ u10 48 57 N u160 hu160 H.size) (cwV 3 hts gX3_take_X3_runEnd rfl rfl rfl vd_X3_runEnd ⟨Nat.le_of_ble_eq_true rfl, Nat.le_of_ble_eq_true rfl⟩) (q_pv hK hN hE hS hA hP hD [0, 1, 2] rfl rfl rfl 0 rfl (ci := 3) rfl) rfl rfl hl.1 rfl (lv_room (Nat.le_of_ble_eq_true rfl)) dX3_take_160 ⟨Nat.zero_le _, Nat.zero_le _⟩) hP hD hS hA [0, 1, 2] [] (Wr := []) rfl rfl rfl (by decide) (fun H locs hP hD hS => ?_)
        have hP : va_P D vwCl [(q_this, .inr (3, [v_this_land, .ref q_this_text, .int u10, .int (u10 + 1), .int token_, .int number_])), (q_this_text, .inr (7, [.ref q_this_text_values, .int text_size_])), (q_this_text_values, .inl (kI, n_this_text, .inl text_values_))] H := hP
        have hD : va_D A [(q_this, .inr (3, [v_this_land, .ref q_this_text, .int u10, .int (u10 + 1), .int token_, .int number_])), (q_this_text, .inr (7, [.ref q_this_text_values, .int text_size_])), (q_this_text_values, .inl (kI, n_this_text, .inl text_values_))] := hD
        refine va_put (D := D) (ci := 3) (v := .int u160) (ty := .int) (C := RX3) (T := TX3) (N := 6) hx hb hts iw_X3_take_X3 tyX3 tyX3_ok nmX3 hown hK hP hD hS 0 rfl rfl 3 (by decide) (hts _ lk_X3_take_1) (fun _ h9 => h9) rfl (by decide +kernel) rfl rfl (Nat.le_of_ble_eq_true rfl) dX3_take_163 (fun H locs hP hD hS => ?_)
        have hP : va_P D vwCl [(q_this, .inr (3, [v_this_land, .ref q_this_text, .int u10, .int u160, .int token_, .int number_])), (q_this_text, .inr (7, [.ref q_this_text_values, .int text_size_])), (q_this_text_values, .inl (kI, n_this_text, .inl text_values_))] H := hP
        have hD : va_D A [(q_this, .inr (3, [v_this_land, .ref q_this_text, .int u10, .int u160, .int token_, .int number_])), (q_this_text, .inr (7, [.ref q_this_text_values, .int text_size_])), (q_this_text_values, .inl (kI, n_this_text, .inl text_values_))] := hD
        refine lv_aload_n hx hb dX3_take_166 rfl (lv_at hl 0 rfl) ?_
        refine lv_aload_n hx hb dX3_take_167 rfl (lv_at hl 0 rfl) ?_
        refine va_get (D := D) (ci := 3) (C := RX3) (T := TX3) (N := 6) hx hb hts iw_X3_take_X3 hown hK hP 0 rfl rfl 3 (by decide) (hts _ lk_X3_take_1) (fun _ h9 => h9) rfl dX3_take_168 ?_
        refine lv_aload_n hx hb dX3_take_171 rfl (lv_at hl 0 rfl) ?_
        refine va_get (D := D) (ci := 3) (C := RX3) (T := TX3) (N := 6) hx hb hts iw_X3_take_X3 hown hK hP 0 rfl rfl 2 (by decide) (hts _ lk_X3_take_2) (fun _ h9 => h9) rfl dX3_take_172 ?_
        refine lv_isub hx hb dX3_take_175 ?_
        refine lv_iconst (v := 2) hx hb dX3_take_176 (by decide) ?_
        refine lv_icmp_gt (tgt := 184) hx hb dX3_take_177 (by decide) (fun c6 => ?_) (fun c6 => ?_)
        · replace h := q_t c6 h
          refine lv_bipush (v := 6) hx hb dX3_take_184 (by decide) ?_
          refine va_put (D := D) (ci := 3) (v := .int 6) (ty := .int) (C := RX3) (T := TX3) (N := 6) hx hb hts iw_X3_take_X3 tyX3 tyX3_ok nmX3 hown hK hP hD hS 0 rfl rfl 4 (by decide) (hts _ lk_X3_take_0) (fun _ h9 => h9) rfl (by decide +kernel) rfl rfl (Nat.le_of_ble_eq_true rfl) dX3_take_186 (fun H locs hP hD hS => ?_)
          have hP : va_P D vwCl [(q_this, .inr (3, [v_this_land, .ref q_this_text, .int u10, .int u160, .int 6, .int number_])), (q_this_text, .inr (7, [.ref q_this_text_values, .int text_size_])), (q_this_text_values, .inl (kI, n_this_text, .inl text_values_))] H := hP
          have hD : va_D A [(q_this, .inr (3, [v_this_land, .ref q_this_text, .int u10, .int u160, .int 6, .int number_])), (q_this_text, .inr (7, [.ref q_this_text_values, .int text_size_])), (q_this_text_values, .inl (kI, n_this_text, .inl text_values_))] := hD
          refine lv_aload_n hx hb dX3_take_189 rfl (lv_at hl 0 rfl) ?_
          refine lv_aload_n hx hb dX3_take_190 rfl (lv_at hl 0 rfl) ?_
          obtain ⟨u191, hu191, h⟩ := q_b h
          refine q_aI (va_runV (As := []) (rest := [.ref q_this]) ⟨hx, hb, hml, hown, hts⟩ (c_X3_value l D E kI kB kQ q_this q_this_text q_this_text_values v_this_land n_this_text u10 u160 6 number_ text_size_ text_values_ N u191 hu191 H.size) (cwV 0 hts gX3_take_X3_value rfl rfl rfl vd_X3_value ⟨Nat.le_of_ble_eq_true rfl, Nat.le_of_ble_eq_true rfl⟩) (q_pv hK hN hE hS hA hP hD [0, 1, 2] rfl rfl rfl 0 rfl (ci := 3) rfl) rfl rfl hl.1 rfl (lv_room (Nat.le_of_ble_eq_true rfl)) dX3_take_191 ⟨Nat.zero_le _, Nat.zero_le _⟩) hP hD hS hA [0, 1, 2] [] (Wr := []) rfl rfl rfl (by decide) (fun H locs hP hD hS => ?_)
          have hP : va_P D vwCl [(q_this, .inr (3, [v_this_land, .ref q_this_text, .int u10, .int u160, .int 6, .int number_])), (q_this_text, .inr (7, [.ref q_this_text_values, .int text_size_])), (q_this_text_values, .inl (kI, n_this_text, .inl text_values_))] H := hP
          have hD : va_D A [(q_this, .inr (3, [v_this_land, .ref q_this_text, .int u10, .int u160, .int 6, .int number_])), (q_this_text, .inr (7, [.ref q_this_text_values, .int text_size_])), (q_this_text_values, .inl (kI, n_this_text, .inl text_values_))] := hD
          refine va_put (D := D) (ci := 3) (v := .int u191) (ty := .int) (C := RX3) (T := TX3) (N := 6) hx hb hts iw_X3_take_X3 tyX3 tyX3_ok nmX3 hown hK hP hD hS 0 rfl rfl 5 (by decide) (hts _ lk_X3_take_4) (fun _ h9 => h9) rfl (by decide +kernel) rfl rfl (Nat.le_of_ble_eq_true rfl) dX3_take_194 (fun H locs hP hD hS => ?_)
          have hP : va_P D vwCl [(q_this, .inr (3, [v_this_land, .ref q_this_text, .int u10, .int u160, .int 6, .int u191])), (q_this_text, .inr (7, [.ref q_this_text_values, .int text_size_])), (q_this_text_values, .inl (kI, n_this_text, .inl text_values_))] H := hP
          have hD : va_D A [(q_this, .inr (3, [v_this_land, .ref q_this_text, .int u10, .int u160, .int 6, .int u191])), (q_this_text, .inr (7, [.ref q_this_text_values, .int text_size_])), (q_this_text_values, .inl (kI, n_this_text, .inl text_values_))] := hD
          refine lv_goto (tgt := 221) hx hb dX3_take_197 (by decide) ?_
          have er := q_inj h
          subst er
          exact hret _ _ _ _ (hP.sub [0, 1, 2] rfl) (hD.sub [0, 1, 2] rfl rfl) hS dX3_take_221
        · replace h := q_f c6 h
          refine lv_iconst (v := 1) hx hb dX3_take_180 (by decide) ?_
          refine lv_goto (tgt := 186) hx hb dX3_take_181 (by decide) ?_
          refine va_put (D := D) (ci := 3) (v := .int 1) (ty := .int) (C := RX3) (T := TX3) (N := 6) hx hb hts iw_X3_take_X3 tyX3 tyX3_ok nmX3 hown hK hP hD hS 0 rfl rfl 4 (by decide) (hts _ lk_X3_take_0) (fun _ h9 => h9) rfl (by decide +kernel) rfl rfl (Nat.le_of_ble_eq_true rfl) dX3_take_186 (fun H locs hP hD hS => ?_)
          have hP : va_P D vwCl [(q_this, .inr (3, [v_this_land, .ref q_this_text, .int u10, .int u160, .int 1, .int number_])), (q_this_text, .inr (7, [.ref q_this_text_values, .int text_size_])), (q_this_text_values, .inl (kI, n_this_text, .inl text_values_))] H := hP
          have hD : va_D A [(q_this, .inr (3, [v_this_land, .ref q_this_text, .int u10, .int u160, .int 1, .int number_])), (q_this_text, .inr (7, [.ref q_this_text_values, .int text_size_])), (q_this_text_values, .inl (kI, n_this_text, .inl text_values_))] := hD
          refine lv_aload_n hx hb dX3_take_189 rfl (lv_at hl 0 rfl) ?_
          refine lv_aload_n hx hb dX3_take_190 rfl (lv_at hl 0 rfl) ?_
          obtain ⟨u191, hu191, h⟩ := q_b h
          refine q_aI (va_runV (As := []) (rest := [.ref q_this]) ⟨hx, hb, hml, hown, hts⟩ (c_X3_value l D E kI kB kQ q_this q_this_text q_this_text_values v_this_land n_this_text u10 u160 1 number_ text_size_ text_values_ N u191 hu191 H.size) (cwV 0 hts gX3_take_X3_value rfl rfl rfl vd_X3_value ⟨Nat.le_of_ble_eq_true rfl, Nat.le_of_ble_eq_true rfl⟩) (q_pv hK hN hE hS hA hP hD [0, 1, 2] rfl rfl rfl 0 rfl (ci := 3) rfl) rfl rfl hl.1 rfl (lv_room (Nat.le_of_ble_eq_true rfl)) dX3_take_191 ⟨Nat.zero_le _, Nat.zero_le _⟩) hP hD hS hA [0, 1, 2] [] (Wr := []) rfl rfl rfl (by decide) (fun H locs hP hD hS => ?_)
          have hP : va_P D vwCl [(q_this, .inr (3, [v_this_land, .ref q_this_text, .int u10, .int u160, .int 1, .int number_])), (q_this_text, .inr (7, [.ref q_this_text_values, .int text_size_])), (q_this_text_values, .inl (kI, n_this_text, .inl text_values_))] H := hP
          have hD : va_D A [(q_this, .inr (3, [v_this_land, .ref q_this_text, .int u10, .int u160, .int 1, .int number_])), (q_this_text, .inr (7, [.ref q_this_text_values, .int text_size_])), (q_this_text_values, .inl (kI, n_this_text, .inl text_values_))] := hD
          refine va_put (D := D) (ci := 3) (v := .int u191) (ty := .int) (C := RX3) (T := TX3) (N := 6) hx hb hts iw_X3_take_X3 tyX3 tyX3_ok nmX3 hown hK hP hD hS 0 rfl rfl 5 (by decide) (hts _ lk_X3_take_4) (fun _ h9 => h9) rfl (by decide +kernel) rfl rfl (Nat.le_of_ble_eq_true rfl) dX3_take_194 (fun H locs hP hD hS => ?_)
          have hP : va_P D vwCl [(q_this, .inr (3, [v_this_land, .ref q_this_text, .int u10, .int u160, .int 1, .int u191])), (q_this_text, .inr (7, [.ref q_this_text_values, .int text_size_])), (q_this_text_values, .inl (kI, n_this_text, .inl text_values_))] H := hP
          have hD : va_D A [(q_this, .inr (3, [v_this_land, .ref q_this_text, .int u10, .int u160, .int 1, .int u191])), (q_this_text, .inr (7, [.ref q_this_text_values, .int text_size_])), (q_this_text_values, .inl (kI, n_this_text, .inl text_values_))] := hD
          refine lv_goto (tgt := 221) hx hb dX3_take_197 (by decide) ?_
          have er := q_inj h
          subst er
          exact hret _ _ _ _ (hP.sub [0, 1, 2] rfl) (hD.sub [0, 1, 2] rfl rfl) hS dX3_take_221
    · replace h := q_f c3 h
      refine lv_aload_n hx hb dX3_take_67 rfl (lv_at hl 0 rfl) ?_
      refine lv_aload_n hx hb dX3_take_68 rfl (lv_at hl 0 rfl) ?_
      refine lv_aload_n hx hb dX3_take_69 rfl (lv_at hl 0 rfl) ?_
      refine va_get (D := D) (ci := 3) (C := RX3) (T := TX3) (N := 6) hx hb hts iw_X3_take_X3 hown hK hP 0 rfl rfl 2 (by decide) (hts _ lk_X3_take_2) (fun _ h9 => h9) rfl dX3_take_70 ?_
      refine lv_bipush (v := 97) hx hb dX3_take_73 (by decide) ?_
      refine lv_bipush (v := 122) hx hb dX3_take_75 (by decide) ?_
      obtain ⟨u77, hu77, h⟩ := q_b h
      refine q_aI (va_runV (As := [.int u10, .int 97, .int 122]) (rest := [.ref q_this]) ⟨hx, hb, hml, hown, hts⟩ (c_X3_runEnd l D E kI kB kQ q_this q_this_text q_this_text_values v_this_land n_this_text u10 (u10 + 1) token_ number_ text_size_ text_values_ u10 97 122 N u77 hu77 H.size) (cwV 3 hts gX3_take_X3_runEnd rfl rfl rfl vd_X3_runEnd ⟨Nat.le_of_ble_eq_true rfl, Nat.le_of_ble_eq_true rfl⟩) (q_pv hK hN hE hS hA hP hD [0, 1, 2] rfl rfl rfl 0 rfl (ci := 3) rfl) rfl rfl hl.1 rfl (lv_room (Nat.le_of_ble_eq_true rfl)) dX3_take_77 ⟨Nat.zero_le _, Nat.zero_le _⟩) hP hD hS hA [0, 1, 2] [] (Wr := []) rfl rfl rfl (by decide) (fun H locs hP hD hS => ?_)
      have hP : va_P D vwCl [(q_this, .inr (3, [v_this_land, .ref q_this_text, .int u10, .int (u10 + 1), .int token_, .int number_])), (q_this_text, .inr (7, [.ref q_this_text_values, .int text_size_])), (q_this_text_values, .inl (kI, n_this_text, .inl text_values_))] H := hP
      have hD : va_D A [(q_this, .inr (3, [v_this_land, .ref q_this_text, .int u10, .int (u10 + 1), .int token_, .int number_])), (q_this_text, .inr (7, [.ref q_this_text_values, .int text_size_])), (q_this_text_values, .inl (kI, n_this_text, .inl text_values_))] := hD
      refine va_put (D := D) (ci := 3) (v := .int u77) (ty := .int) (C := RX3) (T := TX3) (N := 6) hx hb hts iw_X3_take_X3 tyX3 tyX3_ok nmX3 hown hK hP hD hS 0 rfl rfl 3 (by decide) (hts _ lk_X3_take_1) (fun _ h9 => h9) rfl (by decide +kernel) rfl rfl (Nat.le_of_ble_eq_true rfl) dX3_take_80 (fun H locs hP hD hS => ?_)
      have hP : va_P D vwCl [(q_this, .inr (3, [v_this_land, .ref q_this_text, .int u10, .int u77, .int token_, .int number_])), (q_this_text, .inr (7, [.ref q_this_text_values, .int text_size_])), (q_this_text_values, .inl (kI, n_this_text, .inl text_values_))] H := hP
      have hD : va_D A [(q_this, .inr (3, [v_this_land, .ref q_this_text, .int u10, .int u77, .int token_, .int number_])), (q_this_text, .inr (7, [.ref q_this_text_values, .int text_size_])), (q_this_text_values, .inl (kI, n_this_text, .inl text_values_))] := hD
      refine lv_aload_n hx hb dX3_take_83 rfl (lv_at hl 0 rfl) ?_
      refine lv_aload_n hx hb dX3_take_84 rfl (lv_at hl 0 rfl) ?_
      refine va_ldcS hx hb hown hE.2.1.1 dX3_take_85 ?_
      obtain ⟨u87, hu87, h⟩ := q_b h
      refine q_aI (va_runV (As := [.ref (E.1 0)]) (rest := [.ref q_this]) ⟨hx, hb, hml, hown, hts⟩ (c_X3_isWord l D E kI kB kQ q_this q_this_text q_this_text_values v_this_land n_this_text u10 u77 token_ number_ text_size_ text_values_ 0 (by decide) N u87 hu87 H.size) (cwV 1 hts gX3_take_X3_isWord rfl rfl rfl vd_X3_isWord ⟨Nat.le_of_ble_eq_true rfl, Nat.le_of_ble_eq_true rfl⟩) (q_pv hK hN hE hS hA hP hD [0, 1, 2] rfl rfl rfl 0 rfl (ci := 3) rfl) rfl rfl hl.1 rfl (lv_room (Nat.le_of_ble_eq_true rfl)) dX3_take_87 ⟨Nat.zero_le _, Nat.zero_le _⟩) hP hD hS hA [0, 1, 2] [] (Wr := []) rfl rfl rfl (by decide) (fun H locs hP hD hS => ?_)
      have hP : va_P D vwCl [(q_this, .inr (3, [v_this_land, .ref q_this_text, .int u10, .int u77, .int token_, .int number_])), (q_this_text, .inr (7, [.ref q_this_text_values, .int text_size_])), (q_this_text_values, .inl (kI, n_this_text, .inl text_values_))] H := hP
      have hD : va_D A [(q_this, .inr (3, [v_this_land, .ref q_this_text, .int u10, .int u77, .int token_, .int number_])), (q_this_text, .inr (7, [.ref q_this_text_values, .int text_size_])), (q_this_text_values, .inl (kI, n_this_text, .inl text_values_))] := hD
      refine lv_if_eq (tgt := 97) hx hb dX3_take_90 (by decide) (fun c7 => ?_) (fun c7 => ?_)
      · replace h := q_t c7 h
        refine lv_aload_n hx hb dX3_take_97 rfl (lv_at hl 0 rfl) ?_
        refine va_ldcS hx hb hown hE.2.1.2.1 dX3_take_98 ?_
        obtain ⟨u100, hu100, h⟩ := q_b h
        refine q_aI (va_runV (As := [.ref (E.1 1)]) (rest := [.ref q_this]) ⟨hx, hb, hml, hown, hts⟩ (c_X3_isWord l D E kI kB kQ q_this q_this_text q_this_text_values v_this_land n_this_text u10 u77 token_ number_ text_size_ text_values_ 1 (by decide) N u100 hu100 H.size) (cwV 1 hts gX3_take_X3_isWord rfl rfl rfl vd_X3_isWord ⟨Nat.le_of_ble_eq_true rfl, Nat.le_of_ble_eq_true rfl⟩) (q_pv hK hN hE hS hA hP hD [0, 1, 2] rfl rfl rfl 0 rfl (ci := 3) rfl) rfl rfl hl.1 rfl (lv_room (Nat.le_of_ble_eq_true rfl)) dX3_take_100 ⟨Nat.zero_le _, Nat.zero_le _⟩) hP hD hS hA [0, 1, 2] [] (Wr := []) rfl rfl rfl (by decide) (fun H locs hP hD hS => ?_)
        have hP : va_P D vwCl [(q_this, .inr (3, [v_this_land, .ref q_this_text, .int u10, .int u77, .int token_, .int number_])), (q_this_text, .inr (7, [.ref q_this_text_values, .int text_size_])), (q_this_text_values, .inl (kI, n_this_text, .inl text_values_))] H := hP
        have hD : va_D A [(q_this, .inr (3, [v_this_land, .ref q_this_text, .int u10, .int u77, .int token_, .int number_])), (q_this_text, .inr (7, [.ref q_this_text_values, .int text_size_])), (q_this_text_values, .inl (kI, n_this_text, .inl text_values_))] := hD
        refine lv_if_eq (tgt := 110) hx hb dX3_take_103 (by decide) (fun c8 => ?_) (fun c8 => ?_)
        · replace h := q_t c8 h
          refine lv_bipush (v := 6) hx hb dX3_take_110 (by decide) ?_
          exact J112 6 u77 number_ u10 token_ h _ _ _ (hP.sub [0, 1, 2] rfl) (hD.sub [0, 1, 2] rfl rfl) hS (lv_sub hl [0] rfl)
        · replace h := q_f c8 h
          refine lv_iconst (v := 4) hx hb dX3_take_106 (by decide) ?_
          refine lv_goto (tgt := 112) hx hb dX3_take_107 (by decide) ?_
          exact J112 4 u77 number_ u10 token_ h _ _ _ (hP.sub [0, 1, 2] rfl) (hD.sub [0, 1, 2] rfl rfl) hS (lv_sub hl [0] rfl)
      · replace h := q_f c7 h
        refine lv_iconst (v := 3) hx hb dX3_take_93 (by decide) ?_
        refine lv_goto (tgt := 112) hx hb dX3_take_94 (by decide) ?_
        exact J112 3 u77 number_ u10 token_ h _ _ _ (hP.sub [0, 1, 2] rfl) (hD.sub [0, 1, 2] rfl rfl) hS (lv_sub hl [0] rfl)
  · replace h := q_f c2 h
    refine lv_aload_n hx hb dX3_take_40 rfl (lv_at hl 0 rfl) ?_
    refine lv_iconst (v := 0) hx hb dX3_take_41 (by decide) ?_
    refine va_put (D := D) (ci := 3) (v := .int 0) (ty := .int) (C := RX3) (T := TX3) (N := 6) hx hb hts iw_X3_take_X3 tyX3 tyX3_ok nmX3 hown hK hP hD hS 0 rfl rfl 4 (by decide) (hts _ lk_X3_take_0) (fun _ h9 => h9) rfl (by decide +kernel) rfl rfl (Nat.le_of_ble_eq_true rfl) dX3_take_42 (fun H locs hP hD hS => ?_)
    have hP : va_P D vwCl [(q_this, .inr (3, [v_this_land, .ref q_this_text, .int u10, .int (u10 + 1), .int 0, .int number_])), (q_this_text_values, .inl (kI, n_this_text, .inl text_values_)), (q_this_text, .inr (7, [.ref q_this_text_values, .int text_size_]))] H := hP
    have hD : va_D A [(q_this, .inr (3, [v_this_land, .ref q_this_text, .int u10, .int (u10 + 1), .int 0, .int number_])), (q_this_text_values, .inl (kI, n_this_text, .inl text_values_)), (q_this_text, .inr (7, [.ref q_this_text_values, .int text_size_]))] := hD
    refine lv_aload_n hx hb dX3_take_45 rfl (lv_at hl 0 rfl) ?_
    refine lv_aload_n hx hb dX3_take_46 rfl (lv_at hl 0 rfl) ?_
    refine va_get (D := D) (ci := 3) (C := RX3) (T := TX3) (N := 6) hx hb hts iw_X3_take_X3 hown hK hP 0 rfl rfl 2 (by decide) (hts _ lk_X3_take_2) (fun _ h9 => h9) rfl dX3_take_47 ?_
    refine va_put (D := D) (ci := 3) (v := .int u10) (ty := .int) (C := RX3) (T := TX3) (N := 6) hx hb hts iw_X3_take_X3 tyX3 tyX3_ok nmX3 hown hK hP hD hS 0 rfl rfl 3 (by decide) (hts _ lk_X3_take_1) (fun _ h9 => h9) rfl (by decide +kernel) rfl rfl (Nat.le_of_ble_eq_true rfl) dX3_take_50 (fun H locs hP hD hS => ?_)
    have hP : va_P D vwCl [(q_this, .inr (3, [v_this_land, .ref q_this_text, .int u10, .int u10, .int 0, .int number_])), (q_this_text_values, .inl (kI, n_this_text, .inl text_values_)), (q_this_text, .inr (7, [.ref q_this_text_values, .int text_size_]))] H := hP
    have hD : va_D A [(q_this, .inr (3, [v_this_land, .ref q_this_text, .int u10, .int u10, .int 0, .int number_])), (q_this_text_values, .inl (kI, n_this_text, .inl text_values_)), (q_this_text, .inr (7, [.ref q_this_text_values, .int text_size_]))] := hD
    refine lv_goto (tgt := 221) hx hb dX3_take_53 (by decide) ?_
    have er := q_inj h
    subst er
    exact hret _ _ _ _ (hP.sub [0, 2, 1] rfl) (hD.sub [0, 2, 1] rfl rfl) hS dX3_take_221
abbrev rm_X2_gos : Room := { frames := 1, cells := 0, slots := 0, locals := 20 }
theorem lk_X2_gos_0 : Cond.fieldLink RX2 23 "OnlyPrimes$Land" "hours" "LOnlyPrimes$Slots;" ∈ wsX2_gos := List.mem_of_getElem? (i := 1) (by decide +kernel)
theorem iw_X2_gos_X2 : ∀ w ∈ wsX20, w ∈ wsX2_gos := by decide +kernel
theorem nd_X2_gos : yX2_gos.cls ≠ "java/lang/invoke/MethodHandle" ∧ yX2_gos.cls ≠ "java/lang/invoke/VarHandle" ∧ (parseMethodDescriptor yX2_gos.desc).map (fun d => d.parameters.length) = some 0 := by decide +kernel
theorem vd_X2_gos : yX2_gos.cls = RX2 ∧ yX2_gos.cls ≠ "java/lang/invoke/MethodHandle" ∧ yX2_gos.cls ≠ "java/lang/invoke/VarHandle" ∧ (parseMethodDescriptor yX2_gos.desc).map (fun d => d.parameters.length) = some 0 := by decide +kernel
set_option maxHeartbeats 4000000 in
set_option maxRecDepth 100000 in
theorem c_X2_gos (l : Launch) (D : va_G) (E : q_En) (kI kB kQ : ClassId) (q_this : Nat) (q_this_hours : Nat) (v_this_starts : Value) (v_this_homes : Value) (v_this_froms : Value) (v_this_tos : Value) (v_this_bands : Value) (v_this_hours_values : Value) (ways_ : Int32) (hours_size_ : Int32) (N : Nat) (r : Int32) (hf : g_X2_gos hours_size_ = some r) : CtI l D E yX2_gos wsX2_gos rm_X2_gos (q_tys kI kB kQ) [.ref q_this] [(q_this, .inr (2, [.int ways_, v_this_starts, v_this_homes, .ref q_this_hours, v_this_froms, v_this_tos, v_this_bands])), (q_this_hours, .inr (7, [v_this_hours_values, .int hours_size_]))] [(q_this, .inr (2, [.int ways_, v_this_starts, v_this_homes, .ref q_this_hours, v_this_froms, v_this_tos, v_this_bands])), (q_this_hours, .inr (7, [v_this_hours_values, .int hours_size_]))] r := by
  refine q_enterI cX2_gos 1 RX2 (by decide) rfl (Nat.le_of_ble_eq_true rfl) rfl ?_
  intro p e s m args below meth c Q A ls H hx hb hml hown hts hK hN hE hA hP hS hD hl hret
  have hl : lv_has ls 1 [(0, .ref q_this)] := hl
  have h := hf
  rw [g_X2_gos] at h
  refine lv_aload_n hx hb dX2_gos_0 rfl (lv_at hl 0 rfl) ?_
  refine va_get (D := D) (ci := 2) (C := RX2) (T := TX2) (N := 7) hx hb hts iw_X2_gos_X2 hown hK hP 0 rfl rfl 3 (by decide) (hts _ lk_X2_gos_0) (fun _ h9 => h9) rfl dX2_gos_1 ?_
  obtain ⟨u4, hu4, h⟩ := q_b h
  refine q_aI (va_runV (As := []) (rest := []) ⟨hx, hb, hml, hown, hts⟩ (c_X7_size l D E kI kB kQ q_this_hours v_this_hours_values hours_size_ N u4 hu4 H.size) (cwV 0 hts gX2_gos_X7_size rfl rfl rfl vd_X7_size ⟨Nat.le_of_ble_eq_true rfl, Nat.le_of_ble_eq_true rfl⟩) (q_pv hK hN hE hS hA hP hD [1] rfl rfl rfl 1 rfl (ci := 7) rfl) rfl rfl hl.1 rfl (lv_room (Nat.le_of_ble_eq_true rfl)) dX2_gos_4 ⟨Nat.zero_le _, Nat.zero_le _⟩) hP hD hS hA [1] [0] (Wr := [(q_this, .inr (2, [.int ways_, v_this_starts, v_this_homes, .ref q_this_hours, v_this_froms, v_this_tos, v_this_bands]))]) rfl rfl rfl (by decide) (fun H locs hP hD hS => ?_)
  have hP : va_P D vwCl [(q_this, .inr (2, [.int ways_, v_this_starts, v_this_homes, .ref q_this_hours, v_this_froms, v_this_tos, v_this_bands])), (q_this_hours, .inr (7, [v_this_hours_values, .int hours_size_]))] H := hP
  have hD : va_D A [(q_this, .inr (2, [.int ways_, v_this_starts, v_this_homes, .ref q_this_hours, v_this_froms, v_this_tos, v_this_bands])), (q_this_hours, .inr (7, [v_this_hours_values, .int hours_size_]))] := hD
  have er := q_inj h
  subst er
  exact hret _ _ _ _ (hP.sub [0, 1] rfl) (hD.sub [0, 1] rfl rfl) hS dX2_gos_7
abbrev rm_X2_lastHour : Room := { frames := 2, cells := 0, slots := 0, locals := 40 }
theorem lk_X2_lastHour_0 : Cond.fieldLink RX2 23 "OnlyPrimes$Land" "hours" "LOnlyPrimes$Slots;" ∈ wsX2_lastHour := List.mem_of_getElem? (i := 1) (by decide +kernel)
theorem iw_X2_lastHour_X2 : ∀ w ∈ wsX20, w ∈ wsX2_lastHour := by decide +kernel
theorem nd_X2_lastHour : yX2_lastHour.cls ≠ "java/lang/invoke/MethodHandle" ∧ yX2_lastHour.cls ≠ "java/lang/invoke/VarHandle" ∧ (parseMethodDescriptor yX2_lastHour.desc).map (fun d => d.parameters.length) = some 0 := by decide +kernel
theorem vd_X2_lastHour : yX2_lastHour.cls = RX2 ∧ yX2_lastHour.cls ≠ "java/lang/invoke/MethodHandle" ∧ yX2_lastHour.cls ≠ "java/lang/invoke/VarHandle" ∧ (parseMethodDescriptor yX2_lastHour.desc).map (fun d => d.parameters.length) = some 0 := by decide +kernel
set_option maxHeartbeats 4000000 in
set_option maxRecDepth 100000 in
theorem c_X2_lastHour (l : Launch) (D : va_G) (E : q_En) (kI kB kQ : ClassId) (q_this : Nat) (q_this_hours : Nat) (q_this_hours_values : Nat) (v_this_starts : Value) (v_this_homes : Value) (v_this_froms : Value) (v_this_tos : Value) (v_this_bands : Value) (ways_ : Int32) (hours_size_ : Int32) (hours_values_ : Nat → Int32) (N : Nat) (r : Int32) (hf : g_X2_lastHour hours_size_ hours_values_ = some r) : CtI l D E yX2_lastHour wsX2_lastHour rm_X2_lastHour (q_tys kI kB kQ) [.ref q_this] [(q_this, .inr (2, [.int ways_, v_this_starts, v_this_homes, .ref q_this_hours, v_this_froms, v_this_tos, v_this_bands])), (q_this_hours, .inr (7, [.ref q_this_hours_values, .int hours_size_])), (q_this_hours_values, .inl (kI, 24, .inl hours_values_))] [(q_this, .inr (2, [.int ways_, v_this_starts, v_this_homes, .ref q_this_hours, v_this_froms, v_this_tos, v_this_bands])), (q_this_hours, .inr (7, [.ref q_this_hours_values, .int hours_size_])), (q_this_hours_values, .inl (kI, 24, .inl hours_values_))] r := by
  refine q_enterI cX2_lastHour 1 RX2 (by decide) rfl (Nat.le_of_ble_eq_true rfl) rfl ?_
  intro p e s m args below meth c Q A ls H hx hb hml hown hts hK hN hE hA hP hS hD hl hret
  have hl : lv_has ls 1 [(0, .ref q_this)] := hl
  have h := hf
  rw [g_X2_lastHour] at h
  refine lv_aload_n hx hb dX2_lastHour_0 rfl (lv_at hl 0 rfl) ?_
  refine va_get (D := D) (ci := 2) (C := RX2) (T := TX2) (N := 7) hx hb hts iw_X2_lastHour_X2 hown hK hP 0 rfl rfl 3 (by decide) (hts _ lk_X2_lastHour_0) (fun _ h9 => h9) rfl dX2_lastHour_1 ?_
  refine lv_aload_n hx hb dX2_lastHour_4 rfl (lv_at hl 0 rfl) ?_
  obtain ⟨u5, hu5, h⟩ := q_b h
  refine q_aI (va_runV (As := []) (rest := [.ref q_this_hours]) ⟨hx, hb, hml, hown, hts⟩ (c_X2_gos l D E kI kB kQ q_this q_this_hours v_this_starts v_this_homes v_this_froms v_this_tos v_this_bands (.ref q_this_hours_values) ways_ hours_size_ N u5 hu5 H.size) (cwV 0 hts gX2_lastHour_X2_gos rfl rfl rfl vd_X2_gos ⟨Nat.le_of_ble_eq_true rfl, Nat.le_of_ble_eq_true rfl⟩) (q_pv hK hN hE hS hA hP hD [0, 1] rfl rfl rfl 0 rfl (ci := 2) rfl) rfl rfl hl.1 rfl (lv_room (Nat.le_of_ble_eq_true rfl)) dX2_lastHour_5 ⟨Nat.zero_le _, Nat.zero_le _⟩) hP hD hS hA [0, 1] [2] (Wr := [(q_this_hours_values, .inl (kI, 24, .inl hours_values_))]) rfl rfl rfl (by decide) (fun H locs hP hD hS => ?_)
  have hP : va_P D vwCl [(q_this_hours_values, .inl (kI, 24, .inl hours_values_)), (q_this, .inr (2, [.int ways_, v_this_starts, v_this_homes, .ref q_this_hours, v_this_froms, v_this_tos, v_this_bands])), (q_this_hours, .inr (7, [.ref q_this_hours_values, .int hours_size_]))] H := hP
  have hD : va_D A [(q_this_hours_values, .inl (kI, 24, .inl hours_values_)), (q_this, .inr (2, [.int ways_, v_this_starts, v_this_homes, .ref q_this_hours, v_this_froms, v_this_tos, v_this_bands])), (q_this_hours, .inr (7, [.ref q_this_hours_values, .int hours_size_]))] := hD
  refine lv_iconst (v := 1) hx hb dX2_lastHour_8 (by decide) ?_
  refine lv_isub hx hb dX2_lastHour_9 ?_
  obtain ⟨u10, hu10, h⟩ := q_b h
  refine q_aI (va_runV (As := [.int (u5 - 1)]) (rest := []) ⟨hx, hb, hml, hown, hts⟩ (c_X7_get l D E kI kB kQ q_this_hours q_this_hours_values 24 hours_size_ hours_values_ (u5 - 1) N u10 hu10 H.size) (cwV 1 hts gX2_lastHour_X7_get rfl rfl rfl vd_X7_get ⟨Nat.le_of_ble_eq_true rfl, Nat.le_of_ble_eq_true rfl⟩) (q_pv hK hN hE hS hA hP hD [2, 0] rfl rfl rfl 2 rfl (ci := 7) rfl) rfl rfl hl.1 rfl (lv_room (Nat.le_of_ble_eq_true rfl)) dX2_lastHour_10 ⟨Nat.zero_le _, Nat.zero_le _⟩) hP hD hS hA [2, 0] [1] (Wr := [(q_this, .inr (2, [.int ways_, v_this_starts, v_this_homes, .ref q_this_hours, v_this_froms, v_this_tos, v_this_bands]))]) rfl rfl rfl (by decide) (fun H locs hP hD hS => ?_)
  have hP : va_P D vwCl [(q_this, .inr (2, [.int ways_, v_this_starts, v_this_homes, .ref q_this_hours, v_this_froms, v_this_tos, v_this_bands])), (q_this_hours, .inr (7, [.ref q_this_hours_values, .int hours_size_])), (q_this_hours_values, .inl (kI, 24, .inl hours_values_))] H := hP
  have hD : va_D A [(q_this, .inr (2, [.int ways_, v_this_starts, v_this_homes, .ref q_this_hours, v_this_froms, v_this_tos, v_this_bands])), (q_this_hours, .inr (7, [.ref q_this_hours_values, .int hours_size_])), (q_this_hours_values, .inl (kI, 24, .inl hours_values_))] := hD
  have er := q_inj h
  subst er
  exact hret _ _ _ _ (hP.sub [0, 1, 2] rfl) (hD.sub [0, 1, 2] rfl rfl) hS dX2_lastHour_13
abbrev rm_X3_takeNumber : Room := { frames := 6, cells := 0, slots := 0, locals := 127 }
theorem lk_X3_takeNumber_0 : Cond.fieldLink RX3 41 "OnlyPrimes$Reader" "token" "I" ∈ wsX3_takeNumber := List.mem_of_getElem? (i := 1) (by decide +kernel)
theorem iw_X3_takeNumber_X3 : ∀ w ∈ wsX30, w ∈ wsX3_takeNumber := by decide +kernel
theorem lk_X3_takeNumber_1 : Cond.fieldLink RX3 61 "OnlyPrimes$Reader" "number" "I" ∈ wsX3_takeNumber := List.mem_of_getElem? (i := 2) (by decide +kernel)
theorem lk_X3_takeNumber_2 : Cond.initialized RX9 ∈ wsX3_takeNumber := List.mem_of_getElem? (i := 27) (by decide +kernel)
theorem lk_X3_takeNumber_3 : Cond.static yX9_isWithin ∈ wsX3_takeNumber := List.mem_of_getElem? (i := 26) (by decide +kernel)
theorem nd_X3_takeNumber : yX3_takeNumber.cls ≠ "java/lang/invoke/MethodHandle" ∧ yX3_takeNumber.cls ≠ "java/lang/invoke/VarHandle" ∧ (parseMethodDescriptor yX3_takeNumber.desc).map (fun d => d.parameters.length) = some 2 := by decide +kernel
theorem vd_X3_takeNumber : yX3_takeNumber.cls = RX3 ∧ yX3_takeNumber.cls ≠ "java/lang/invoke/MethodHandle" ∧ yX3_takeNumber.cls ≠ "java/lang/invoke/VarHandle" ∧ (parseMethodDescriptor yX3_takeNumber.desc).map (fun d => d.parameters.length) = some 2 := by decide +kernel
set_option maxHeartbeats 4000000 in
set_option maxRecDepth 100000 in
theorem c_X3_takeNumber (l : Launch) (D : va_G) (E : q_En) (kI kB kQ : ClassId) (q_this : Nat) (q_this_text : Nat) (q_this_text_values : Nat) (v_this_land : Value) (n_this_text : Nat) (place_ : Int32) (next_ : Int32) (token_ : Int32) (number_ : Int32) (text_size_ : Int32) (text_values_ : Nat → Int32) (x1 : Int32) (x2 : Int32) (N : Nat) (r : Int32 × Int32 × Int32 × Int32 × Int32) (hf : g_X3_takeNumber N n_this_text next_ token_ number_ text_size_ text_values_ x1 x2 = some r) : CtI l D E yX3_takeNumber wsX3_takeNumber rm_X3_takeNumber (q_tys kI kB kQ) [.ref q_this, .int x1, .int x2] [(q_this, .inr (3, [v_this_land, .ref q_this_text, .int place_, .int next_, .int token_, .int number_])), (q_this_text, .inr (7, [.ref q_this_text_values, .int text_size_])), (q_this_text_values, .inl (kI, n_this_text, .inl text_values_))] [(q_this, .inr (3, [v_this_land, .ref q_this_text, .int r.2.2.2.1, .int r.2.1, .int r.2.2.2.2, .int r.2.2.1])), (q_this_text, .inr (7, [.ref q_this_text_values, .int text_size_])), (q_this_text_values, .inl (kI, n_this_text, .inl text_values_))] r.1 := by
  refine q_enterZ cX3_takeNumber 3 RX3 (by decide) rfl (Nat.le_of_ble_eq_true rfl) rfl ?_
  intro p e s m args below meth c Q A ls H hx hb hml hown hts hK hN hE hA hP hS hD hl hret
  have hl : lv_has ls 3 [(0, .ref q_this), (1, .int x1), (2, .int x2)] := hl
  have h := hf
  rw [g_X3_takeNumber] at h
  refine lv_aload_n hx hb dX3_takeNumber_0 rfl (lv_at hl 0 rfl) ?_
  obtain ⟨u1, hu1, h⟩ := q_b h
  refine q_aV (va_runV (As := []) (rest := []) ⟨hx, hb, hml, hown, hts⟩ (c_X3_take l D E kI kB kQ q_this q_this_text q_this_text_values v_this_land n_this_text place_ next_ token_ number_ text_size_ text_values_ N u1 hu1 H.size) (cwV 0 hts gX3_takeNumber_X3_take rfl rfl rfl vd_X3_take ⟨Nat.le_of_ble_eq_true rfl, Nat.le_of_ble_eq_true rfl⟩) (q_pv hK hN hE hS hA hP hD [0, 1, 2] rfl rfl rfl 0 rfl (ci := 3) rfl) rfl rfl hl.1 rfl (lv_room (Nat.le_of_ble_eq_true rfl)) dX3_takeNumber_1 ⟨Nat.zero_le _, Nat.zero_le _⟩) hP hD hS hA [0, 1, 2] [] (Wr := []) rfl rfl rfl (by decide) (fun H locs hP hD hS => ?_)
  have hP : va_P D vwCl [(q_this, .inr (3, [v_this_land, .ref q_this_text, .int u1.2.2.1, .int u1.1, .int u1.2.2.2, .int u1.2.1])), (q_this_text, .inr (7, [.ref q_this_text_values, .int text_size_])), (q_this_text_values, .inl (kI, n_this_text, .inl text_values_))] H := hP
  have hD : va_D A [(q_this, .inr (3, [v_this_land, .ref q_this_text, .int u1.2.2.1, .int u1.1, .int u1.2.2.2, .int u1.2.1])), (q_this_text, .inr (7, [.ref q_this_text_values, .int text_size_])), (q_this_text_values, .inl (kI, n_this_text, .inl text_values_))] := hD
  refine lv_aload_n hx hb dX3_takeNumber_4 rfl (lv_at hl 0 rfl) ?_
  refine va_get (D := D) (ci := 3) (C := RX3) (T := TX3) (N := 6) hx hb hts iw_X3_takeNumber_X3 hown hK hP 0 rfl rfl 4 (by decide) (hts _ lk_X3_takeNumber_0) (fun _ h9 => h9) rfl dX3_takeNumber_5 ?_
  refine lv_iconst (v := 1) hx hb dX3_takeNumber_8 (by decide) ?_
  refine lv_icmp_ne (tgt := 28) hx hb dX3_takeNumber_9 (by decide) (fun c1 => ?_) (fun c1 => ?_)
  · replace h := q_f c1 h
    refine lv_iconst (v := 0) hx hb dX3_takeNumber_28 (by decide) ?_
    have er := q_inj h
    subst er
    exact hret _ _ _ _ nar0 (hP.sub [0, 1, 2] rfl) (hD.sub [0, 1, 2] rfl rfl) hS dX3_takeNumber_29
  · replace h := q_t c1 h
    refine lv_aload_n hx hb dX3_takeNumber_12 rfl (lv_at hl 0 rfl) ?_
    refine va_get (D := D) (ci := 3) (C := RX3) (T := TX3) (N := 6) hx hb hts iw_X3_takeNumber_X3 hown hK hP 0 rfl rfl 5 (by decide) (hts _ lk_X3_takeNumber_1) (fun _ h9 => h9) rfl dX3_takeNumber_13 ?_
    refine lv_iload_n hx hb dX3_takeNumber_16 rfl (lv_at hl 1 rfl) ?_
    refine lv_iload_n hx hb dX3_takeNumber_17 rfl (lv_at hl 2 rfl) ?_
    obtain ⟨u18, hu18, h⟩ := q_b h
    refine q_aI (va_runSN (As := [.int u1.2.1, .int x1, .int x2]) (rest := []) ⟨hx, hb, hml, hown, hts⟩ (c_X9_isWithin l D E kI kB kQ u1.2.1 x1 x2 N u18 hu18 H.size) ⟨(va_cnB 3 hts gX3_takeNumber_X9_isWithin_n101 rfl rfl rfl hN.2.2.2.2.1 (hts _ lk_X3_takeNumber_2) nd_X9_isWithin ⟨Nat.le_of_ble_eq_true rfl, Nat.le_of_ble_eq_true rfl⟩), hts _ lk_X3_takeNumber_3, trivial⟩ (q_ps hK hN hE hS hA hP hD [] rfl rfl rfl) rfl rfl hl.1 rfl (lv_room (Nat.le_of_ble_eq_true rfl)) dX3_takeNumber_18 ⟨Nat.zero_le _, Nat.zero_le _⟩) hP hD hS hA [] [0, 1, 2] (Wr := [(q_this, .inr (3, [v_this_land, .ref q_this_text, .int u1.2.2.1, .int u1.1, .int u1.2.2.2, .int u1.2.1])), (q_this_text, .inr (7, [.ref q_this_text_values, .int text_size_])), (q_this_text_values, .inl (kI, n_this_text, .inl text_values_))]) rfl rfl rfl (by decide) (fun H locs hP hD hS => ?_)
    have hP : va_P D vwCl [(q_this, .inr (3, [v_this_land, .ref q_this_text, .int u1.2.2.1, .int u1.1, .int u1.2.2.2, .int u1.2.1])), (q_this_text, .inr (7, [.ref q_this_text_values, .int text_size_])), (q_this_text_values, .inl (kI, n_this_text, .inl text_values_))] H := hP
    have hD : va_D A [(q_this, .inr (3, [v_this_land, .ref q_this_text, .int u1.2.2.1, .int u1.1, .int u1.2.2.2, .int u1.2.1])), (q_this_text, .inr (7, [.ref q_this_text_values, .int text_size_])), (q_this_text_values, .inl (kI, n_this_text, .inl text_values_))] := hD
    refine lv_if_eq (tgt := 28) hx hb dX3_takeNumber_21 (by decide) (fun c2 => ?_) (fun c2 => ?_)
    · replace h := q_t c2 h
      refine lv_iconst (v := 0) hx hb dX3_takeNumber_28 (by decide) ?_
      have er := q_inj h
      subst er
      exact hret _ _ _ _ nar0 (hP.sub [0, 1, 2] rfl) (hD.sub [0, 1, 2] rfl rfl) hS dX3_takeNumber_29
    · replace h := q_f c2 h
      refine lv_iconst (v := 1) hx hb dX3_takeNumber_24 (by decide) ?_
      refine lv_goto (tgt := 29) hx hb dX3_takeNumber_25 (by decide) ?_
      have er := q_inj h
      subst er
      exact hret _ _ _ _ nar1 (hP.sub [0, 1, 2] rfl) (hD.sub [0, 1, 2] rfl rfl) hS dX3_takeNumber_29
abbrev rm_X2_isPerson : Room := { frames := 2, cells := 0, slots := 0, locals := 40 }
theorem lk_X2_isPerson_0 : Cond.initialized RX9 ∈ wsX2_isPerson := List.mem_of_getElem? (i := 14) (by decide +kernel)
theorem lk_X2_isPerson_1 : Cond.static yX9_isWithin ∈ wsX2_isPerson := List.mem_of_getElem? (i := 13) (by decide +kernel)
theorem nd_X2_isPerson : yX2_isPerson.cls ≠ "java/lang/invoke/MethodHandle" ∧ yX2_isPerson.cls ≠ "java/lang/invoke/VarHandle" ∧ (parseMethodDescriptor yX2_isPerson.desc).map (fun d => d.parameters.length) = some 1 := by decide +kernel
theorem vd_X2_isPerson : yX2_isPerson.cls = RX2 ∧ yX2_isPerson.cls ≠ "java/lang/invoke/MethodHandle" ∧ yX2_isPerson.cls ≠ "java/lang/invoke/VarHandle" ∧ (parseMethodDescriptor yX2_isPerson.desc).map (fun d => d.parameters.length) = some 1 := by decide +kernel
set_option maxHeartbeats 4000000 in
set_option maxRecDepth 100000 in
theorem c_X2_isPerson (l : Launch) (D : va_G) (E : q_En) (kI kB kQ : ClassId) (q_this : Nat) (q_this_starts : Nat) (v_this_homes : Value) (v_this_hours : Value) (v_this_froms : Value) (v_this_tos : Value) (v_this_bands : Value) (v_this_starts_values : Value) (ways_ : Int32) (starts_size_ : Int32) (x1 : Int32) (N : Nat) (r : Int32) (hf : g_X2_isPerson starts_size_ x1 = some r) : CtI l D E yX2_isPerson wsX2_isPerson rm_X2_isPerson (q_tys kI kB kQ) [.ref q_this, .int x1] [(q_this, .inr (2, [.int ways_, .ref q_this_starts, v_this_homes, v_this_hours, v_this_froms, v_this_tos, v_this_bands])), (q_this_starts, .inr (7, [v_this_starts_values, .int starts_size_]))] [(q_this, .inr (2, [.int ways_, .ref q_this_starts, v_this_homes, v_this_hours, v_this_froms, v_this_tos, v_this_bands])), (q_this_starts, .inr (7, [v_this_starts_values, .int starts_size_]))] r := by
  refine q_enterZ cX2_isPerson 2 RX2 (by decide) rfl (Nat.le_of_ble_eq_true rfl) rfl ?_
  intro p e s m args below meth c Q A ls H hx hb hml hown hts hK hN hE hA hP hS hD hl hret
  have hl : lv_has ls 2 [(0, .ref q_this), (1, .int x1)] := hl
  have h := hf
  rw [g_X2_isPerson] at h
  refine lv_iload_n hx hb dX2_isPerson_0 rfl (lv_at hl 1 rfl) ?_
  refine lv_iconst (v := 0) hx hb dX2_isPerson_1 (by decide) ?_
  refine lv_aload_n hx hb dX2_isPerson_2 rfl (lv_at hl 0 rfl) ?_
  obtain ⟨u3, hu3, h⟩ := q_b h
  refine q_aI (va_runV (As := []) (rest := [.int 0, .int x1]) ⟨hx, hb, hml, hown, hts⟩ (c_X2_people l D E kI kB kQ q_this q_this_starts v_this_homes v_this_hours v_this_froms v_this_tos v_this_bands v_this_starts_values ways_ starts_size_ N u3 hu3 H.size) (cwV 0 hts gX2_isPerson_X2_people rfl rfl rfl vd_X2_people ⟨Nat.le_of_ble_eq_true rfl, Nat.le_of_ble_eq_true rfl⟩) (q_pv hK hN hE hS hA hP hD [0, 1] rfl rfl rfl 0 rfl (ci := 2) rfl) rfl rfl hl.1 rfl (lv_room (Nat.le_of_ble_eq_true rfl)) dX2_isPerson_3 ⟨Nat.zero_le _, Nat.zero_le _⟩) hP hD hS hA [0, 1] [] (Wr := []) rfl rfl rfl (by decide) (fun H locs hP hD hS => ?_)
  have hP : va_P D vwCl [(q_this, .inr (2, [.int ways_, .ref q_this_starts, v_this_homes, v_this_hours, v_this_froms, v_this_tos, v_this_bands])), (q_this_starts, .inr (7, [v_this_starts_values, .int starts_size_]))] H := hP
  have hD : va_D A [(q_this, .inr (2, [.int ways_, .ref q_this_starts, v_this_homes, v_this_hours, v_this_froms, v_this_tos, v_this_bands])), (q_this_starts, .inr (7, [v_this_starts_values, .int starts_size_]))] := hD
  refine lv_iconst (v := 1) hx hb dX2_isPerson_6 (by decide) ?_
  refine lv_isub hx hb dX2_isPerson_7 ?_
  obtain ⟨u8, hu8, h⟩ := q_b h
  refine q_aI (va_runSN (As := [.int x1, .int 0, .int (u3 - 1)]) (rest := []) ⟨hx, hb, hml, hown, hts⟩ (c_X9_isWithin l D E kI kB kQ x1 0 (u3 - 1) N u8 hu8 H.size) ⟨(va_cnB 3 hts gX2_isPerson_X9_isWithin_n64 rfl rfl rfl hN.2.2.2.1 (hts _ lk_X2_isPerson_0) nd_X9_isWithin ⟨Nat.le_of_ble_eq_true rfl, Nat.le_of_ble_eq_true rfl⟩), hts _ lk_X2_isPerson_1, trivial⟩ (q_ps hK hN hE hS hA hP hD [] rfl rfl rfl) rfl rfl hl.1 rfl (lv_room (Nat.le_of_ble_eq_true rfl)) dX2_isPerson_8 ⟨Nat.zero_le _, Nat.zero_le _⟩) hP hD hS hA [] [0, 1] (Wr := [(q_this, .inr (2, [.int ways_, .ref q_this_starts, v_this_homes, v_this_hours, v_this_froms, v_this_tos, v_this_bands])), (q_this_starts, .inr (7, [v_this_starts_values, .int starts_size_]))]) rfl rfl rfl (by decide) (fun H locs hP hD hS => ?_)
  have hP : va_P D vwCl [(q_this, .inr (2, [.int ways_, .ref q_this_starts, v_this_homes, v_this_hours, v_this_froms, v_this_tos, v_this_bands])), (q_this_starts, .inr (7, [v_this_starts_values, .int starts_size_]))] H := hP
  have hD : va_D A [(q_this, .inr (2, [.int ways_, .ref q_this_starts, v_this_homes, v_this_hours, v_this_froms, v_this_tos, v_this_bands])), (q_this_starts, .inr (7, [v_this_starts_values, .int starts_size_]))] := hD
  obtain ⟨hg1, h⟩ := q_g h
  have er := q_inj h
  subst er
  exact hret _ _ _ _ (zb_nar hg1) (hP.sub [0, 1] rfl) (hD.sub [0, 1] rfl rfl) hS dX2_isPerson_11
abbrev rm_X3_takeBand : Room := { frames := 6, cells := 0, slots := 0, locals := 127 }
theorem lk_X3_takeBand_0 : Cond.fieldLink RX3 41 "OnlyPrimes$Reader" "token" "I" ∈ wsX3_takeBand := List.mem_of_getElem? (i := 1) (by decide +kernel)
theorem iw_X3_takeBand_X3 : ∀ w ∈ wsX30, w ∈ wsX3_takeBand := by decide +kernel
theorem lk_X3_takeBand_1 : Cond.fieldLink RX3 12 "OnlyPrimes$Reader" "land" "LOnlyPrimes$Land;" ∈ wsX3_takeBand := List.mem_of_getElem? (i := 2) (by decide +kernel)
theorem lk_X3_takeBand_2 : Cond.fieldLink RX3 61 "OnlyPrimes$Reader" "number" "I" ∈ wsX3_takeBand := List.mem_of_getElem? (i := 3) (by decide +kernel)
theorem nd_X3_takeBand : yX3_takeBand.cls ≠ "java/lang/invoke/MethodHandle" ∧ yX3_takeBand.cls ≠ "java/lang/invoke/VarHandle" ∧ (parseMethodDescriptor yX3_takeBand.desc).map (fun d => d.parameters.length) = some 0 := by decide +kernel
theorem vd_X3_takeBand : yX3_takeBand.cls = RX3 ∧ yX3_takeBand.cls ≠ "java/lang/invoke/MethodHandle" ∧ yX3_takeBand.cls ≠ "java/lang/invoke/VarHandle" ∧ (parseMethodDescriptor yX3_takeBand.desc).map (fun d => d.parameters.length) = some 0 := by decide +kernel
set_option maxHeartbeats 4000000 in
set_option maxRecDepth 100000 in
theorem c_X3_takeBand (l : Launch) (D : va_G) (E : q_En) (kI kB kQ : ClassId) (q_this : Nat) (q_this_land : Nat) (q_this_land_starts : Nat) (q_this_text : Nat) (q_this_text_values : Nat) (v_this_land_homes : Value) (v_this_land_hours : Value) (v_this_land_froms : Value) (v_this_land_tos : Value) (v_this_land_bands : Value) (v_this_land_starts_values : Value) (n_this_text : Nat) (place_ : Int32) (next_ : Int32) (token_ : Int32) (number_ : Int32) (land_ways_ : Int32) (land_starts_size_ : Int32) (text_size_ : Int32) (text_values_ : Nat → Int32) (N : Nat) (r : Int32 × Int32 × Int32 × Int32 × Int32) (hf : g_X3_takeBand N n_this_text place_ next_ token_ number_ land_starts_size_ text_size_ text_values_ = some r) : CtI l D E yX3_takeBand wsX3_takeBand rm_X3_takeBand (q_tys kI kB kQ) [.ref q_this] [(q_this, .inr (3, [.ref q_this_land, .ref q_this_text, .int place_, .int next_, .int token_, .int number_])), (q_this_land, .inr (2, [.int land_ways_, .ref q_this_land_starts, v_this_land_homes, v_this_land_hours, v_this_land_froms, v_this_land_tos, v_this_land_bands])), (q_this_land_starts, .inr (7, [v_this_land_starts_values, .int land_starts_size_])), (q_this_text, .inr (7, [.ref q_this_text_values, .int text_size_])), (q_this_text_values, .inl (kI, n_this_text, .inl text_values_))] [(q_this, .inr (3, [.ref q_this_land, .ref q_this_text, .int r.2.2.2.1, .int r.2.1, .int r.2.2.2.2, .int r.2.2.1])), (q_this_land, .inr (2, [.int land_ways_, .ref q_this_land_starts, v_this_land_homes, v_this_land_hours, v_this_land_froms, v_this_land_tos, v_this_land_bands])), (q_this_land_starts, .inr (7, [v_this_land_starts_values, .int land_starts_size_])), (q_this_text, .inr (7, [.ref q_this_text_values, .int text_size_])), (q_this_text_values, .inl (kI, n_this_text, .inl text_values_))] r.1 := by
  refine q_enterI cX3_takeBand 3 RX3 (by decide) rfl (Nat.le_of_ble_eq_true rfl) rfl ?_
  intro p e s m args below meth c Q A ls H hx hb hml hown hts hK hN hE hA hP hS hD hl hret
  have hl : lv_has ls 3 [(0, .ref q_this)] := hl
  have h := hf
  rw [g_X3_takeBand] at h
  have J4 : ∀ (n4 : Nat) (x1 : Int32) (x2 : Int32) (next_ : Int32) (number_ : Int32) (place_ : Int32) (token_ : Int32), g_X3_takeBand_4 N n_this_text land_starts_size_ text_size_ text_values_ n4 x1 x2 next_ number_ place_ token_ = some r → ∀ (H : Heap) (locs : List Loc) (ls : Array Slot), va_P D vwCl [(q_this, .inr (3, [.ref q_this_land, .ref q_this_text, .int place_, .int next_, .int token_, .int number_])), (q_this_land, .inr (2, [.int land_ways_, .ref q_this_land_starts, v_this_land_homes, v_this_land_hours, v_this_land_froms, v_this_land_tos, v_this_land_bands])), (q_this_land_starts, .inr (7, [v_this_land_starts_values, .int land_starts_size_])), (q_this_text, .inr (7, [.ref q_this_text_values, .int text_size_])), (q_this_text_values, .inl (kI, n_this_text, .inl text_values_))] H → va_D A [(q_this, .inr (3, [.ref q_this_land, .ref q_this_text, .int place_, .int next_, .int token_, .int number_])), (q_this_land, .inr (2, [.int land_ways_, .ref q_this_land_starts, v_this_land_homes, v_this_land_hours, v_this_land_froms, v_this_land_tos, v_this_land_bands])), (q_this_land_starts, .inr (7, [v_this_land_starts_values, .int land_starts_size_])), (q_this_text, .inr (7, [.ref q_this_text_values, .int text_size_])), (q_this_text_values, .inl (kI, n_this_text, .inl text_values_))] → va_S A s.heap H locs → lv_has ls 3 [(0, .ref q_this), (1, .int x1), (2, .int x2)] → W p l e rm_X3_takeBand s m args below meth c H locs 0 0 Q (F0 m 4 ls []) := by
    intro n4
    induction n4 with
    | zero => intro x1 x2 next_ number_ place_ token_ h; exact absurd h (by rw [g_X3_takeBand_4]; exact fun q => nomatch q)
    | succ n4 ih4 =>
      intro x1 x2 next_ number_ place_ token_ h H locs ls hP hD hS hl
      rw [g_X3_takeBand_4] at h
      refine lv_iload_n hx hb dX3_takeBand_4 rfl (lv_at hl 2 rfl) ?_
      refine lv_iconst (v := 5) hx hb dX3_takeBand_5 (by decide) ?_
      refine lv_icmp_gt (tgt := 74) hx hb dX3_takeBand_6 (by decide) (fun c1 => ?_) (fun c1 => ?_)
      · replace h := q_t c1 h
        refine lv_iconst (v := 0) hx hb dX3_takeBand_74 (by decide) ?_
        have er := q_inj h
        subst er
        exact hret _ _ _ _ (hP.sub [0, 1, 2, 3, 4] rfl) (hD.sub [0, 1, 2, 3, 4] rfl rfl) hS dX3_takeBand_75
      · replace h := q_f c1 h
        refine lv_aload_n hx hb dX3_takeBand_9 rfl (lv_at hl 0 rfl) ?_
        obtain ⟨u10, hu10, h⟩ := q_b h
        refine q_aV (va_runV (As := []) (rest := []) ⟨hx, hb, hml, hown, hts⟩ (c_X3_take l D E kI kB kQ q_this q_this_text q_this_text_values (.ref q_this_land) n_this_text place_ next_ token_ number_ text_size_ text_values_ N u10 hu10 H.size) (cwV 0 hts gX3_takeBand_X3_take rfl rfl rfl vd_X3_take ⟨Nat.le_of_ble_eq_true rfl, Nat.le_of_ble_eq_true rfl⟩) (q_pv hK hN hE hS hA hP hD [0, 3, 4] rfl rfl rfl 0 rfl (ci := 3) rfl) rfl rfl hl.1 rfl (lv_room (Nat.le_of_ble_eq_true rfl)) dX3_takeBand_10 ⟨Nat.zero_le _, Nat.zero_le _⟩) hP hD hS hA [0, 3, 4] [1, 2] (Wr := [(q_this_land, .inr (2, [.int land_ways_, .ref q_this_land_starts, v_this_land_homes, v_this_land_hours, v_this_land_froms, v_this_land_tos, v_this_land_bands])), (q_this_land_starts, .inr (7, [v_this_land_starts_values, .int land_starts_size_]))]) rfl rfl rfl (by decide) (fun H locs hP hD hS => ?_)
        have hP : va_P D vwCl [(q_this_land, .inr (2, [.int land_ways_, .ref q_this_land_starts, v_this_land_homes, v_this_land_hours, v_this_land_froms, v_this_land_tos, v_this_land_bands])), (q_this_land_starts, .inr (7, [v_this_land_starts_values, .int land_starts_size_])), (q_this, .inr (3, [.ref q_this_land, .ref q_this_text, .int u10.2.2.1, .int u10.1, .int u10.2.2.2, .int u10.2.1])), (q_this_text, .inr (7, [.ref q_this_text_values, .int text_size_])), (q_this_text_values, .inl (kI, n_this_text, .inl text_values_))] H := hP
        have hD : va_D A [(q_this_land, .inr (2, [.int land_ways_, .ref q_this_land_starts, v_this_land_homes, v_this_land_hours, v_this_land_froms, v_this_land_tos, v_this_land_bands])), (q_this_land_starts, .inr (7, [v_this_land_starts_values, .int land_starts_size_])), (q_this, .inr (3, [.ref q_this_land, .ref q_this_text, .int u10.2.2.1, .int u10.1, .int u10.2.2.2, .int u10.2.1])), (q_this_text, .inr (7, [.ref q_this_text_values, .int text_size_])), (q_this_text_values, .inl (kI, n_this_text, .inl text_values_))] := hD
        refine lv_aload_n hx hb dX3_takeBand_13 rfl (lv_at hl 0 rfl) ?_
        refine va_get (D := D) (ci := 3) (C := RX3) (T := TX3) (N := 6) hx hb hts iw_X3_takeBand_X3 hown hK hP 2 rfl rfl 4 (by decide) (hts _ lk_X3_takeBand_0) (fun _ h9 => h9) rfl dX3_takeBand_14 ?_
        refine lv_iconst (v := 2) hx hb dX3_takeBand_17 (by decide) ?_
        refine lv_icmp_ne (tgt := 23) hx hb dX3_takeBand_18 (by decide) (fun c2 => ?_) (fun c2 => ?_)
        · replace h := q_f c2 h
          refine lv_aload_n hx hb dX3_takeBand_23 rfl (lv_at hl 0 rfl) ?_
          refine va_get (D := D) (ci := 3) (C := RX3) (T := TX3) (N := 6) hx hb hts iw_X3_takeBand_X3 hown hK hP 2 rfl rfl 4 (by decide) (hts _ lk_X3_takeBand_0) (fun _ h9 => h9) rfl dX3_takeBand_24 ?_
          refine lv_iconst (v := 1) hx hb dX3_takeBand_27 (by decide) ?_
          refine lv_icmp_ne (tgt := 57) hx hb dX3_takeBand_28 (by decide) (fun c3 => ?_) (fun c3 => ?_)
          · replace h := q_f c3 h
            refine lv_iconst (v := 0) hx hb dX3_takeBand_57 (by decide) ?_
            have er := q_inj h
            subst er
            exact hret _ _ _ _ (hP.sub [2, 0, 1, 3, 4] rfl) (hD.sub [2, 0, 1, 3, 4] rfl rfl) hS dX3_takeBand_58
          · replace h := q_t c3 h
            refine lv_aload_n hx hb dX3_takeBand_31 rfl (lv_at hl 0 rfl) ?_
            refine va_get (D := D) (ci := 3) (C := RX3) (T := TX3) (N := 6) hx hb hts iw_X3_takeBand_X3 hown hK hP 2 rfl rfl 0 (by decide) (hts _ lk_X3_takeBand_1) (fun _ h9 => h9) rfl dX3_takeBand_32 ?_
            refine lv_aload_n hx hb dX3_takeBand_35 rfl (lv_at hl 0 rfl) ?_
            refine va_get (D := D) (ci := 3) (C := RX3) (T := TX3) (N := 6) hx hb hts iw_X3_takeBand_X3 hown hK hP 2 rfl rfl 5 (by decide) (hts _ lk_X3_takeBand_2) (fun _ h9 => h9) rfl dX3_takeBand_36 ?_
            obtain ⟨u39, hu39, h⟩ := q_b h
            refine q_aI (va_runV (As := [.int u10.2.1]) (rest := []) ⟨hx, hb, hml, hown, hts⟩ (c_X2_isPerson l D E kI kB kQ q_this_land q_this_land_starts v_this_land_homes v_this_land_hours v_this_land_froms v_this_land_tos v_this_land_bands v_this_land_starts_values land_ways_ land_starts_size_ u10.2.1 N u39 hu39 H.size) (cwV 1 hts gX3_takeBand_X2_isPerson rfl rfl rfl vd_X2_isPerson ⟨Nat.le_of_ble_eq_true rfl, Nat.le_of_ble_eq_true rfl⟩) (q_pv hK hN hE hS hA hP hD [0, 1] rfl rfl rfl 0 rfl (ci := 2) rfl) rfl rfl hl.1 rfl (lv_room (Nat.le_of_ble_eq_true rfl)) dX3_takeBand_39 ⟨Nat.zero_le _, Nat.zero_le _⟩) hP hD hS hA [0, 1] [2, 3, 4] (Wr := [(q_this, .inr (3, [.ref q_this_land, .ref q_this_text, .int u10.2.2.1, .int u10.1, .int u10.2.2.2, .int u10.2.1])), (q_this_text, .inr (7, [.ref q_this_text_values, .int text_size_])), (q_this_text_values, .inl (kI, n_this_text, .inl text_values_))]) rfl rfl rfl (by decide) (fun H locs hP hD hS => ?_)
            have hP : va_P D vwCl [(q_this, .inr (3, [.ref q_this_land, .ref q_this_text, .int u10.2.2.1, .int u10.1, .int u10.2.2.2, .int u10.2.1])), (q_this_text, .inr (7, [.ref q_this_text_values, .int text_size_])), (q_this_text_values, .inl (kI, n_this_text, .inl text_values_)), (q_this_land, .inr (2, [.int land_ways_, .ref q_this_land_starts, v_this_land_homes, v_this_land_hours, v_this_land_froms, v_this_land_tos, v_this_land_bands])), (q_this_land_starts, .inr (7, [v_this_land_starts_values, .int land_starts_size_]))] H := hP
            have hD : va_D A [(q_this, .inr (3, [.ref q_this_land, .ref q_this_text, .int u10.2.2.1, .int u10.1, .int u10.2.2.2, .int u10.2.1])), (q_this_text, .inr (7, [.ref q_this_text_values, .int text_size_])), (q_this_text_values, .inl (kI, n_this_text, .inl text_values_)), (q_this_land, .inr (2, [.int land_ways_, .ref q_this_land_starts, v_this_land_homes, v_this_land_hours, v_this_land_froms, v_this_land_tos, v_this_land_bands])), (q_this_land_starts, .inr (7, [v_this_land_starts_values, .int land_starts_size_]))] := hD
            refine lv_if_eq (tgt := 57) hx hb dX3_takeBand_42 (by decide) (fun c4 => ?_) (fun c4 => ?_)
            · replace h := q_t c4 h
              refine lv_iconst (v := 0) hx hb dX3_takeBand_57 (by decide) ?_
              have er := q_inj h
              subst er
              exact hret _ _ _ _ (hP.sub [0, 3, 4, 1, 2] rfl) (hD.sub [0, 3, 4, 1, 2] rfl rfl) hS dX3_takeBand_58
            · replace h := q_f c4 h
              refine lv_iload_n hx hb dX3_takeBand_45 rfl (lv_at hl 1 rfl) ?_
              refine lv_aload_n hx hb dX3_takeBand_46 rfl (lv_at hl 0 rfl) ?_
              refine va_get (D := D) (ci := 3) (C := RX3) (T := TX3) (N := 6) hx hb hts iw_X3_takeBand_X3 hown hK hP 0 rfl rfl 5 (by decide) (hts _ lk_X3_takeBand_2) (fun _ h9 => h9) rfl dX3_takeBand_47 ?_
              refine lv_ishr hx hb dX3_takeBand_50 ?_
              refine lv_iconst (v := 1) hx hb dX3_takeBand_51 (by decide) ?_
              refine lv_iand hx hb dX3_takeBand_52 ?_
              refine lv_iconst (v := 1) hx hb dX3_takeBand_53 (by decide) ?_
              refine lv_icmp_ne (tgt := 59) hx hb dX3_takeBand_54 (by decide) (fun c5 => ?_) (fun c5 => ?_)
              · replace h := q_f c5 h
                refine lv_iload_n hx hb dX3_takeBand_59 rfl (lv_at hl 1 rfl) ?_
                refine lv_iconst (v := 1) hx hb dX3_takeBand_60 (by decide) ?_
                refine lv_aload_n hx hb dX3_takeBand_61 rfl (lv_at hl 0 rfl) ?_
                refine va_get (D := D) (ci := 3) (C := RX3) (T := TX3) (N := 6) hx hb hts iw_X3_takeBand_X3 hown hK hP 0 rfl rfl 5 (by decide) (hts _ lk_X3_takeBand_2) (fun _ h9 => h9) rfl dX3_takeBand_62 ?_
                refine lv_ishl hx hb dX3_takeBand_65 ?_
                refine lv_ior hx hb dX3_takeBand_66 ?_
                refine lv_istore_n (lv' := [(1, .int (x1 ||| (1 <<< (u10.2.1 &&& 31)))), (0, .ref q_this), (2, .int x2)]) hx hb dX3_takeBand_67 rfl hl (by decide) rfl (fun ls hl => ?_)
                refine lv_iinc (v := (x2 + 1)) (lv' := [(2, .int (x2 + 1)), (1, .int (x1 ||| (1 <<< (u10.2.1 &&& 31)))), (0, .ref q_this)]) hx hb dX3_takeBand_68 hl (k := 2) rfl rfl (by decide) rfl (fun ls hl => ?_)
                refine lv_goto (tgt := 4) hx hb dX3_takeBand_71 (by decide) ?_
                exact ih4 (x1 ||| (1 <<< (u10.2.1 &&& 31))) (x2 + 1) u10.1 u10.2.1 u10.2.2.1 u10.2.2.2 h _ _ _ (hP.sub [0, 3, 4, 1, 2] rfl) (hD.sub [0, 3, 4, 1, 2] rfl rfl) hS (lv_sub hl [2, 1, 0] rfl)
              · replace h := q_t c5 h
                refine lv_iconst (v := 0) hx hb dX3_takeBand_57 (by decide) ?_
                have er := q_inj h
                subst er
                exact hret _ _ _ _ (hP.sub [0, 3, 4, 1, 2] rfl) (hD.sub [0, 3, 4, 1, 2] rfl rfl) hS dX3_takeBand_58
        · replace h := q_t c2 h
          refine lv_iload_n hx hb dX3_takeBand_21 rfl (lv_at hl 1 rfl) ?_
          have er := q_inj h
          subst er
          exact hret _ _ _ _ (hP.sub [2, 0, 1, 3, 4] rfl) (hD.sub [2, 0, 1, 3, 4] rfl rfl) hS dX3_takeBand_22
  refine lv_iconst (v := 0) hx hb dX3_takeBand_0 (by decide) ?_
  refine lv_istore_n (lv' := [(1, .int 0), (0, .ref q_this)]) hx hb dX3_takeBand_1 rfl hl (by decide) rfl (fun ls hl => ?_)
  refine lv_iconst (v := 0) hx hb dX3_takeBand_2 (by decide) ?_
  refine lv_istore_n (lv' := [(2, .int 0), (1, .int 0), (0, .ref q_this)]) hx hb dX3_takeBand_3 rfl hl (by decide) rfl (fun ls hl => ?_)
  exact J4 N 0 0 next_ number_ place_ token_ h _ _ _ (hP.sub [0, 1, 2, 3, 4] rfl) (hD.sub [0, 1, 2, 3, 4] rfl rfl) hS (lv_sub hl [2, 1, 0] rfl)
abbrev rm_X2_addGo : Room := { frames := 1, cells := 0, slots := 0, locals := 21 }
theorem lk_X2_addGo_0 : Cond.fieldLink RX2 23 "OnlyPrimes$Land" "hours" "LOnlyPrimes$Slots;" ∈ wsX2_addGo := List.mem_of_getElem? (i := 1) (by decide +kernel)
theorem iw_X2_addGo_X2 : ∀ w ∈ wsX20, w ∈ wsX2_addGo := by decide +kernel
theorem lk_X2_addGo_1 : Cond.fieldLink RX2 26 "OnlyPrimes$Land" "froms" "LOnlyPrimes$Slots;" ∈ wsX2_addGo := List.mem_of_getElem? (i := 2) (by decide +kernel)
theorem lk_X2_addGo_2 : Cond.fieldLink RX2 29 "OnlyPrimes$Land" "tos" "LOnlyPrimes$Slots;" ∈ wsX2_addGo := List.mem_of_getElem? (i := 3) (by decide +kernel)
theorem lk_X2_addGo_3 : Cond.fieldLink RX2 32 "OnlyPrimes$Land" "bands" "LOnlyPrimes$Slots;" ∈ wsX2_addGo := List.mem_of_getElem? (i := 4) (by decide +kernel)
theorem nd_X2_addGo : yX2_addGo.cls ≠ "java/lang/invoke/MethodHandle" ∧ yX2_addGo.cls ≠ "java/lang/invoke/VarHandle" ∧ (parseMethodDescriptor yX2_addGo.desc).map (fun d => d.parameters.length) = some 4 := by decide +kernel
theorem vd_X2_addGo : yX2_addGo.cls = RX2 ∧ yX2_addGo.cls ≠ "java/lang/invoke/MethodHandle" ∧ yX2_addGo.cls ≠ "java/lang/invoke/VarHandle" ∧ (parseMethodDescriptor yX2_addGo.desc).map (fun d => d.parameters.length) = some 4 := by decide +kernel
set_option maxHeartbeats 4000000 in
set_option maxRecDepth 100000 in
theorem c_X2_addGo (l : Launch) (D : va_G) (E : q_En) (kI kB kQ : ClassId) (q_this : Nat) (q_this_bands : Nat) (q_this_bands_values : Nat) (q_this_froms : Nat) (q_this_froms_values : Nat) (q_this_hours : Nat) (q_this_hours_values : Nat) (q_this_tos : Nat) (q_this_tos_values : Nat) (v_this_starts : Value) (v_this_homes : Value) (ways_ : Int32) (bands_size_ : Int32) (bands_values_ : Nat → Int32) (froms_size_ : Int32) (froms_values_ : Nat → Int32) (hours_size_ : Int32) (hours_values_ : Nat → Int32) (tos_size_ : Int32) (tos_values_ : Nat → Int32) (x1 : Int32) (x2 : Int32) (x3 : Int32) (x4 : Int32) (N : Nat) (r : Int32 × (Nat → Int32) × Int32 × (Nat → Int32) × Int32 × (Nat → Int32) × Int32 × (Nat → Int32)) (hf : g_X2_addGo bands_size_ bands_values_ froms_size_ froms_values_ hours_size_ hours_values_ tos_size_ tos_values_ x1 x2 x3 x4 = some r) : CtV l D E yX2_addGo wsX2_addGo rm_X2_addGo (q_tys kI kB kQ) [.ref q_this, .int x1, .int x2, .int x3, .int x4] [(q_this, .inr (2, [.int ways_, v_this_starts, v_this_homes, .ref q_this_hours, .ref q_this_froms, .ref q_this_tos, .ref q_this_bands])), (q_this_bands, .inr (7, [.ref q_this_bands_values, .int bands_size_])), (q_this_bands_values, .inl (kI, 24, .inl bands_values_)), (q_this_froms, .inr (7, [.ref q_this_froms_values, .int froms_size_])), (q_this_froms_values, .inl (kI, 24, .inl froms_values_)), (q_this_hours, .inr (7, [.ref q_this_hours_values, .int hours_size_])), (q_this_hours_values, .inl (kI, 24, .inl hours_values_)), (q_this_tos, .inr (7, [.ref q_this_tos_values, .int tos_size_])), (q_this_tos_values, .inl (kI, 24, .inl tos_values_))] [(q_this, .inr (2, [.int ways_, v_this_starts, v_this_homes, .ref q_this_hours, .ref q_this_froms, .ref q_this_tos, .ref q_this_bands])), (q_this_bands, .inr (7, [.ref q_this_bands_values, .int r.1])), (q_this_bands_values, .inl (kI, 24, .inl r.2.1)), (q_this_froms, .inr (7, [.ref q_this_froms_values, .int r.2.2.1])), (q_this_froms_values, .inl (kI, 24, .inl r.2.2.2.1)), (q_this_hours, .inr (7, [.ref q_this_hours_values, .int r.2.2.2.2.1])), (q_this_hours_values, .inl (kI, 24, .inl r.2.2.2.2.2.1)), (q_this_tos, .inr (7, [.ref q_this_tos_values, .int r.2.2.2.2.2.2.1])), (q_this_tos_values, .inl (kI, 24, .inl r.2.2.2.2.2.2.2))] := by
  refine q_enterV cX2_addGo 5 RX2 (by decide) rfl (Nat.le_of_ble_eq_true rfl) rfl ?_
  intro p e s m args below meth c Q A ls H hx hb hml hown hts hK hN hE hA hP hS hD hl hret
  have hl : lv_has ls 5 [(0, .ref q_this), (1, .int x1), (2, .int x2), (3, .int x3), (4, .int x4)] := hl
  have h := hf
  rw [g_X2_addGo] at h
  refine lv_aload_n hx hb dX2_addGo_0 rfl (lv_at hl 0 rfl) ?_
  refine va_get (D := D) (ci := 2) (C := RX2) (T := TX2) (N := 7) hx hb hts iw_X2_addGo_X2 hown hK hP 0 rfl rfl 3 (by decide) (hts _ lk_X2_addGo_0) (fun _ h9 => h9) rfl dX2_addGo_1 ?_
  refine lv_iload_n hx hb dX2_addGo_4 rfl (lv_at hl 1 rfl) ?_
  obtain ⟨u5, hu5, h⟩ := q_b h
  refine q_aV (va_runV (As := [.int x1]) (rest := []) ⟨hx, hb, hml, hown, hts⟩ (c_X7_add l D E kI kB kQ q_this_hours q_this_hours_values 24 hours_size_ hours_values_ x1 N u5 hu5 H.size) (cwV 1 hts gX2_addGo_X7_add rfl rfl rfl vd_X7_add ⟨Nat.le_of_ble_eq_true rfl, Nat.le_of_ble_eq_true rfl⟩) (q_pv hK hN hE hS hA hP hD [5, 6] rfl rfl rfl 5 rfl (ci := 7) rfl) rfl rfl hl.1 rfl (lv_room (Nat.le_of_ble_eq_true rfl)) dX2_addGo_5 ⟨Nat.zero_le _, Nat.zero_le _⟩) hP hD hS hA [5, 6] [0, 1, 2, 3, 4, 7, 8] (Wr := [(q_this, .inr (2, [.int ways_, v_this_starts, v_this_homes, .ref q_this_hours, .ref q_this_froms, .ref q_this_tos, .ref q_this_bands])), (q_this_bands, .inr (7, [.ref q_this_bands_values, .int bands_size_])), (q_this_bands_values, .inl (kI, 24, .inl bands_values_)), (q_this_froms, .inr (7, [.ref q_this_froms_values, .int froms_size_])), (q_this_froms_values, .inl (kI, 24, .inl froms_values_)), (q_this_tos, .inr (7, [.ref q_this_tos_values, .int tos_size_])), (q_this_tos_values, .inl (kI, 24, .inl tos_values_))]) rfl rfl rfl (by decide) (fun H locs hP hD hS => ?_)
  have hP : va_P D vwCl [(q_this, .inr (2, [.int ways_, v_this_starts, v_this_homes, .ref q_this_hours, .ref q_this_froms, .ref q_this_tos, .ref q_this_bands])), (q_this_bands, .inr (7, [.ref q_this_bands_values, .int bands_size_])), (q_this_bands_values, .inl (kI, 24, .inl bands_values_)), (q_this_froms, .inr (7, [.ref q_this_froms_values, .int froms_size_])), (q_this_froms_values, .inl (kI, 24, .inl froms_values_)), (q_this_tos, .inr (7, [.ref q_this_tos_values, .int tos_size_])), (q_this_tos_values, .inl (kI, 24, .inl tos_values_)), (q_this_hours, .inr (7, [.ref q_this_hours_values, .int u5.1])), (q_this_hours_values, .inl (kI, 24, .inl u5.2))] H := hP
  have hD : va_D A [(q_this, .inr (2, [.int ways_, v_this_starts, v_this_homes, .ref q_this_hours, .ref q_this_froms, .ref q_this_tos, .ref q_this_bands])), (q_this_bands, .inr (7, [.ref q_this_bands_values, .int bands_size_])), (q_this_bands_values, .inl (kI, 24, .inl bands_values_)), (q_this_froms, .inr (7, [.ref q_this_froms_values, .int froms_size_])), (q_this_froms_values, .inl (kI, 24, .inl froms_values_)), (q_this_tos, .inr (7, [.ref q_this_tos_values, .int tos_size_])), (q_this_tos_values, .inl (kI, 24, .inl tos_values_)), (q_this_hours, .inr (7, [.ref q_this_hours_values, .int u5.1])), (q_this_hours_values, .inl (kI, 24, .inl u5.2))] := hD
  refine lv_aload_n hx hb dX2_addGo_8 rfl (lv_at hl 0 rfl) ?_
  refine va_get (D := D) (ci := 2) (C := RX2) (T := TX2) (N := 7) hx hb hts iw_X2_addGo_X2 hown hK hP 0 rfl rfl 4 (by decide) (hts _ lk_X2_addGo_1) (fun _ h9 => h9) rfl dX2_addGo_9 ?_
  refine lv_iload_n hx hb dX2_addGo_12 rfl (lv_at hl 2 rfl) ?_
  obtain ⟨u13, hu13, h⟩ := q_b h
  refine q_aV (va_runV (As := [.int x2]) (rest := []) ⟨hx, hb, hml, hown, hts⟩ (c_X7_add l D E kI kB kQ q_this_froms q_this_froms_values 24 froms_size_ froms_values_ x2 N u13 hu13 H.size) (cwV 1 hts gX2_addGo_X7_add rfl rfl rfl vd_X7_add ⟨Nat.le_of_ble_eq_true rfl, Nat.le_of_ble_eq_true rfl⟩) (q_pv hK hN hE hS hA hP hD [3, 4] rfl rfl rfl 3 rfl (ci := 7) rfl) rfl rfl hl.1 rfl (lv_room (Nat.le_of_ble_eq_true rfl)) dX2_addGo_13 ⟨Nat.zero_le _, Nat.zero_le _⟩) hP hD hS hA [3, 4] [0, 1, 2, 5, 6, 7, 8] (Wr := [(q_this, .inr (2, [.int ways_, v_this_starts, v_this_homes, .ref q_this_hours, .ref q_this_froms, .ref q_this_tos, .ref q_this_bands])), (q_this_bands, .inr (7, [.ref q_this_bands_values, .int bands_size_])), (q_this_bands_values, .inl (kI, 24, .inl bands_values_)), (q_this_tos, .inr (7, [.ref q_this_tos_values, .int tos_size_])), (q_this_tos_values, .inl (kI, 24, .inl tos_values_)), (q_this_hours, .inr (7, [.ref q_this_hours_values, .int u5.1])), (q_this_hours_values, .inl (kI, 24, .inl u5.2))]) rfl rfl rfl (by decide) (fun H locs hP hD hS => ?_)
  have hP : va_P D vwCl [(q_this, .inr (2, [.int ways_, v_this_starts, v_this_homes, .ref q_this_hours, .ref q_this_froms, .ref q_this_tos, .ref q_this_bands])), (q_this_bands, .inr (7, [.ref q_this_bands_values, .int bands_size_])), (q_this_bands_values, .inl (kI, 24, .inl bands_values_)), (q_this_tos, .inr (7, [.ref q_this_tos_values, .int tos_size_])), (q_this_tos_values, .inl (kI, 24, .inl tos_values_)), (q_this_hours, .inr (7, [.ref q_this_hours_values, .int u5.1])), (q_this_hours_values, .inl (kI, 24, .inl u5.2)), (q_this_froms, .inr (7, [.ref q_this_froms_values, .int u13.1])), (q_this_froms_values, .inl (kI, 24, .inl u13.2))] H := hP
  have hD : va_D A [(q_this, .inr (2, [.int ways_, v_this_starts, v_this_homes, .ref q_this_hours, .ref q_this_froms, .ref q_this_tos, .ref q_this_bands])), (q_this_bands, .inr (7, [.ref q_this_bands_values, .int bands_size_])), (q_this_bands_values, .inl (kI, 24, .inl bands_values_)), (q_this_tos, .inr (7, [.ref q_this_tos_values, .int tos_size_])), (q_this_tos_values, .inl (kI, 24, .inl tos_values_)), (q_this_hours, .inr (7, [.ref q_this_hours_values, .int u5.1])), (q_this_hours_values, .inl (kI, 24, .inl u5.2)), (q_this_froms, .inr (7, [.ref q_this_froms_values, .int u13.1])), (q_this_froms_values, .inl (kI, 24, .inl u13.2))] := hD
  refine lv_aload_n hx hb dX2_addGo_16 rfl (lv_at hl 0 rfl) ?_
  refine va_get (D := D) (ci := 2) (C := RX2) (T := TX2) (N := 7) hx hb hts iw_X2_addGo_X2 hown hK hP 0 rfl rfl 5 (by decide) (hts _ lk_X2_addGo_2) (fun _ h9 => h9) rfl dX2_addGo_17 ?_
  refine lv_iload_n hx hb dX2_addGo_20 rfl (lv_at hl 3 rfl) ?_
  obtain ⟨u21, hu21, h⟩ := q_b h
  refine q_aV (va_runV (As := [.int x3]) (rest := []) ⟨hx, hb, hml, hown, hts⟩ (c_X7_add l D E kI kB kQ q_this_tos q_this_tos_values 24 tos_size_ tos_values_ x3 N u21 hu21 H.size) (cwV 1 hts gX2_addGo_X7_add rfl rfl rfl vd_X7_add ⟨Nat.le_of_ble_eq_true rfl, Nat.le_of_ble_eq_true rfl⟩) (q_pv hK hN hE hS hA hP hD [3, 4] rfl rfl rfl 3 rfl (ci := 7) rfl) rfl rfl hl.1 rfl (lv_room (Nat.le_of_ble_eq_true rfl)) dX2_addGo_21 ⟨Nat.zero_le _, Nat.zero_le _⟩) hP hD hS hA [3, 4] [0, 1, 2, 5, 6, 7, 8] (Wr := [(q_this, .inr (2, [.int ways_, v_this_starts, v_this_homes, .ref q_this_hours, .ref q_this_froms, .ref q_this_tos, .ref q_this_bands])), (q_this_bands, .inr (7, [.ref q_this_bands_values, .int bands_size_])), (q_this_bands_values, .inl (kI, 24, .inl bands_values_)), (q_this_hours, .inr (7, [.ref q_this_hours_values, .int u5.1])), (q_this_hours_values, .inl (kI, 24, .inl u5.2)), (q_this_froms, .inr (7, [.ref q_this_froms_values, .int u13.1])), (q_this_froms_values, .inl (kI, 24, .inl u13.2))]) rfl rfl rfl (by decide) (fun H locs hP hD hS => ?_)
  have hP : va_P D vwCl [(q_this, .inr (2, [.int ways_, v_this_starts, v_this_homes, .ref q_this_hours, .ref q_this_froms, .ref q_this_tos, .ref q_this_bands])), (q_this_bands, .inr (7, [.ref q_this_bands_values, .int bands_size_])), (q_this_bands_values, .inl (kI, 24, .inl bands_values_)), (q_this_hours, .inr (7, [.ref q_this_hours_values, .int u5.1])), (q_this_hours_values, .inl (kI, 24, .inl u5.2)), (q_this_froms, .inr (7, [.ref q_this_froms_values, .int u13.1])), (q_this_froms_values, .inl (kI, 24, .inl u13.2)), (q_this_tos, .inr (7, [.ref q_this_tos_values, .int u21.1])), (q_this_tos_values, .inl (kI, 24, .inl u21.2))] H := hP
  have hD : va_D A [(q_this, .inr (2, [.int ways_, v_this_starts, v_this_homes, .ref q_this_hours, .ref q_this_froms, .ref q_this_tos, .ref q_this_bands])), (q_this_bands, .inr (7, [.ref q_this_bands_values, .int bands_size_])), (q_this_bands_values, .inl (kI, 24, .inl bands_values_)), (q_this_hours, .inr (7, [.ref q_this_hours_values, .int u5.1])), (q_this_hours_values, .inl (kI, 24, .inl u5.2)), (q_this_froms, .inr (7, [.ref q_this_froms_values, .int u13.1])), (q_this_froms_values, .inl (kI, 24, .inl u13.2)), (q_this_tos, .inr (7, [.ref q_this_tos_values, .int u21.1])), (q_this_tos_values, .inl (kI, 24, .inl u21.2))] := hD
  refine lv_aload_n hx hb dX2_addGo_24 rfl (lv_at hl 0 rfl) ?_
  refine va_get (D := D) (ci := 2) (C := RX2) (T := TX2) (N := 7) hx hb hts iw_X2_addGo_X2 hown hK hP 0 rfl rfl 6 (by decide) (hts _ lk_X2_addGo_3) (fun _ h9 => h9) rfl dX2_addGo_25 ?_
  refine lv_iload hx hb dX2_addGo_28 (lv_at hl 4 rfl) ?_
  obtain ⟨u30, hu30, h⟩ := q_b h
  refine q_aV (va_runV (As := [.int x4]) (rest := []) ⟨hx, hb, hml, hown, hts⟩ (c_X7_add l D E kI kB kQ q_this_bands q_this_bands_values 24 bands_size_ bands_values_ x4 N u30 hu30 H.size) (cwV 1 hts gX2_addGo_X7_add rfl rfl rfl vd_X7_add ⟨Nat.le_of_ble_eq_true rfl, Nat.le_of_ble_eq_true rfl⟩) (q_pv hK hN hE hS hA hP hD [1, 2] rfl rfl rfl 1 rfl (ci := 7) rfl) rfl rfl hl.1 rfl (lv_room (Nat.le_of_ble_eq_true rfl)) dX2_addGo_30 ⟨Nat.zero_le _, Nat.zero_le _⟩) hP hD hS hA [1, 2] [0, 3, 4, 5, 6, 7, 8] (Wr := [(q_this, .inr (2, [.int ways_, v_this_starts, v_this_homes, .ref q_this_hours, .ref q_this_froms, .ref q_this_tos, .ref q_this_bands])), (q_this_hours, .inr (7, [.ref q_this_hours_values, .int u5.1])), (q_this_hours_values, .inl (kI, 24, .inl u5.2)), (q_this_froms, .inr (7, [.ref q_this_froms_values, .int u13.1])), (q_this_froms_values, .inl (kI, 24, .inl u13.2)), (q_this_tos, .inr (7, [.ref q_this_tos_values, .int u21.1])), (q_this_tos_values, .inl (kI, 24, .inl u21.2))]) rfl rfl rfl (by decide) (fun H locs hP hD hS => ?_)
  have hP : va_P D vwCl [(q_this, .inr (2, [.int ways_, v_this_starts, v_this_homes, .ref q_this_hours, .ref q_this_froms, .ref q_this_tos, .ref q_this_bands])), (q_this_hours, .inr (7, [.ref q_this_hours_values, .int u5.1])), (q_this_hours_values, .inl (kI, 24, .inl u5.2)), (q_this_froms, .inr (7, [.ref q_this_froms_values, .int u13.1])), (q_this_froms_values, .inl (kI, 24, .inl u13.2)), (q_this_tos, .inr (7, [.ref q_this_tos_values, .int u21.1])), (q_this_tos_values, .inl (kI, 24, .inl u21.2)), (q_this_bands, .inr (7, [.ref q_this_bands_values, .int u30.1])), (q_this_bands_values, .inl (kI, 24, .inl u30.2))] H := hP
  have hD : va_D A [(q_this, .inr (2, [.int ways_, v_this_starts, v_this_homes, .ref q_this_hours, .ref q_this_froms, .ref q_this_tos, .ref q_this_bands])), (q_this_hours, .inr (7, [.ref q_this_hours_values, .int u5.1])), (q_this_hours_values, .inl (kI, 24, .inl u5.2)), (q_this_froms, .inr (7, [.ref q_this_froms_values, .int u13.1])), (q_this_froms_values, .inl (kI, 24, .inl u13.2)), (q_this_tos, .inr (7, [.ref q_this_tos_values, .int u21.1])), (q_this_tos_values, .inl (kI, 24, .inl u21.2)), (q_this_bands, .inr (7, [.ref q_this_bands_values, .int u30.1])), (q_this_bands_values, .inl (kI, 24, .inl u30.2))] := hD
  have er := q_inj h
  subst er
  exact hret _ _ _ _ (hP.sub [0, 7, 8, 3, 4, 1, 2, 5, 6] rfl) (hD.sub [0, 7, 8, 3, 4, 1, 2, 5, 6] rfl rfl) hS dX2_addGo_33
abbrev rm_X3_takeGo : Room := { frames := 7, cells := 0, slots := 0, locals := 149 }
theorem lk_X3_takeGo_0 : Cond.fieldLink RX3 12 "OnlyPrimes$Reader" "land" "LOnlyPrimes$Land;" ∈ wsX3_takeGo := List.mem_of_getElem? (i := 1) (by decide +kernel)
theorem iw_X3_takeGo_X3 : ∀ w ∈ wsX30, w ∈ wsX3_takeGo := by decide +kernel
theorem lk_X3_takeGo_1 : Cond.fieldLink RX3 84 "OnlyPrimes$Land" "hours" "LOnlyPrimes$Slots;" ∈ wsX3_takeGo := List.mem_of_getElem? (i := 2) (by decide +kernel)
theorem iw_X3_takeGo_X2 : ∀ w ∈ wsX20, w ∈ wsX3_takeGo := by decide +kernel
theorem lk_X3_takeGo_2 : Cond.fieldLink RX3 61 "OnlyPrimes$Reader" "number" "I" ∈ wsX3_takeGo := List.mem_of_getElem? (i := 3) (by decide +kernel)
theorem nd_X3_takeGo : yX3_takeGo.cls ≠ "java/lang/invoke/MethodHandle" ∧ yX3_takeGo.cls ≠ "java/lang/invoke/VarHandle" ∧ (parseMethodDescriptor yX3_takeGo.desc).map (fun d => d.parameters.length) = some 0 := by decide +kernel
theorem vd_X3_takeGo : yX3_takeGo.cls = RX3 ∧ yX3_takeGo.cls ≠ "java/lang/invoke/MethodHandle" ∧ yX3_takeGo.cls ≠ "java/lang/invoke/VarHandle" ∧ (parseMethodDescriptor yX3_takeGo.desc).map (fun d => d.parameters.length) = some 0 := by decide +kernel
set_option maxHeartbeats 4000000 in
set_option maxRecDepth 100000 in
theorem c_X3_takeGo (l : Launch) (D : va_G) (E : q_En) (kI kB kQ : ClassId) (q_this : Nat) (q_this_land : Nat) (q_this_land_bands : Nat) (q_this_land_bands_values : Nat) (q_this_land_froms : Nat) (q_this_land_froms_values : Nat) (q_this_land_hours : Nat) (q_this_land_hours_values : Nat) (q_this_land_starts : Nat) (q_this_land_tos : Nat) (q_this_land_tos_values : Nat) (q_this_text : Nat) (q_this_text_values : Nat) (v_this_land_homes : Value) (v_this_land_starts_values : Value) (n_this_text : Nat) (place_ : Int32) (next_ : Int32) (token_ : Int32) (number_ : Int32) (land_ways_ : Int32) (land_bands_size_ : Int32) (land_bands_values_ : Nat → Int32) (land_froms_size_ : Int32) (land_froms_values_ : Nat → Int32) (land_hours_size_ : Int32) (land_hours_values_ : Nat → Int32) (land_starts_size_ : Int32) (land_tos_size_ : Int32) (land_tos_values_ : Nat → Int32) (text_size_ : Int32) (text_values_ : Nat → Int32) (N : Nat) (r : Int32 × Int32 × Int32 × Int32 × Int32 × Int32 × (Nat → Int32) × Int32 × (Nat → Int32) × Int32 × (Nat → Int32) × Int32 × (Nat → Int32)) (hf : g_X3_takeGo N n_this_text place_ next_ token_ number_ land_bands_size_ land_bands_values_ land_froms_size_ land_froms_values_ land_hours_size_ land_hours_values_ land_starts_size_ land_tos_size_ land_tos_values_ text_size_ text_values_ = some r) : CtI l D E yX3_takeGo wsX3_takeGo rm_X3_takeGo (q_tys kI kB kQ) [.ref q_this] [(q_this, .inr (3, [.ref q_this_land, .ref q_this_text, .int place_, .int next_, .int token_, .int number_])), (q_this_land, .inr (2, [.int land_ways_, .ref q_this_land_starts, v_this_land_homes, .ref q_this_land_hours, .ref q_this_land_froms, .ref q_this_land_tos, .ref q_this_land_bands])), (q_this_land_bands, .inr (7, [.ref q_this_land_bands_values, .int land_bands_size_])), (q_this_land_bands_values, .inl (kI, 24, .inl land_bands_values_)), (q_this_land_froms, .inr (7, [.ref q_this_land_froms_values, .int land_froms_size_])), (q_this_land_froms_values, .inl (kI, 24, .inl land_froms_values_)), (q_this_land_hours, .inr (7, [.ref q_this_land_hours_values, .int land_hours_size_])), (q_this_land_hours_values, .inl (kI, 24, .inl land_hours_values_)), (q_this_land_starts, .inr (7, [v_this_land_starts_values, .int land_starts_size_])), (q_this_land_tos, .inr (7, [.ref q_this_land_tos_values, .int land_tos_size_])), (q_this_land_tos_values, .inl (kI, 24, .inl land_tos_values_)), (q_this_text, .inr (7, [.ref q_this_text_values, .int text_size_])), (q_this_text_values, .inl (kI, n_this_text, .inl text_values_))] [(q_this, .inr (3, [.ref q_this_land, .ref q_this_text, .int r.2.2.2.1, .int r.2.1, .int r.2.2.2.2.1, .int r.2.2.1])), (q_this_land, .inr (2, [.int land_ways_, .ref q_this_land_starts, v_this_land_homes, .ref q_this_land_hours, .ref q_this_land_froms, .ref q_this_land_tos, .ref q_this_land_bands])), (q_this_land_bands, .inr (7, [.ref q_this_land_bands_values, .int r.2.2.2.2.2.1])), (q_this_land_bands_values, .inl (kI, 24, .inl r.2.2.2.2.2.2.1)), (q_this_land_froms, .inr (7, [.ref q_this_land_froms_values, .int r.2.2.2.2.2.2.2.1])), (q_this_land_froms_values, .inl (kI, 24, .inl r.2.2.2.2.2.2.2.2.1)), (q_this_land_hours, .inr (7, [.ref q_this_land_hours_values, .int r.2.2.2.2.2.2.2.2.2.1])), (q_this_land_hours_values, .inl (kI, 24, .inl r.2.2.2.2.2.2.2.2.2.2.1)), (q_this_land_starts, .inr (7, [v_this_land_starts_values, .int land_starts_size_])), (q_this_land_tos, .inr (7, [.ref q_this_land_tos_values, .int r.2.2.2.2.2.2.2.2.2.2.2.1])), (q_this_land_tos_values, .inl (kI, 24, .inl r.2.2.2.2.2.2.2.2.2.2.2.2)), (q_this_text, .inr (7, [.ref q_this_text_values, .int text_size_])), (q_this_text_values, .inl (kI, n_this_text, .inl text_values_))] r.1 := by
  refine q_enterZ cX3_takeGo 5 RX3 (by decide) rfl (Nat.le_of_ble_eq_true rfl) rfl ?_
  intro p e s m args below meth c Q A ls H hx hb hml hown hts hK hN hE hA hP hS hD hl hret
  have hl : lv_has ls 5 [(0, .ref q_this)] := hl
  have h := hf
  rw [g_X3_takeGo] at h
  refine lv_aload_n hx hb dX3_takeGo_0 rfl (lv_at hl 0 rfl) ?_
  refine va_get (D := D) (ci := 3) (C := RX3) (T := TX3) (N := 6) hx hb hts iw_X3_takeGo_X3 hown hK hP 0 rfl rfl 0 (by decide) (hts _ lk_X3_takeGo_0) (fun _ h9 => h9) rfl dX3_takeGo_1 ?_
  refine va_get (D := D) (ci := 2) (C := RX2) (T := TX2) (N := 7) hx hb hts iw_X3_takeGo_X2 hown hK hP 1 rfl rfl 3 (by decide) (hts _ lk_X3_takeGo_1) (fun _ h9 => h9) rfl dX3_takeGo_4 ?_
  obtain ⟨u7, hu7, h⟩ := q_b h
  refine q_aI (va_runV (As := []) (rest := []) ⟨hx, hb, hml, hown, hts⟩ (c_X7_isFull l D E kI kB kQ q_this_land_hours q_this_land_hours_values 24 land_hours_size_ land_hours_values_ N u7 hu7 H.size) (cwV 0 hts gX3_takeGo_X7_isFull rfl rfl rfl vd_X7_isFull ⟨Nat.le_of_ble_eq_true rfl, Nat.le_of_ble_eq_true rfl⟩) (q_pv hK hN hE hS hA hP hD [6, 7] rfl rfl rfl 6 rfl (ci := 7) rfl) rfl rfl hl.1 rfl (lv_room (Nat.le_of_ble_eq_true rfl)) dX3_takeGo_7 ⟨Nat.zero_le _, Nat.zero_le _⟩) hP hD hS hA [6, 7] [0, 1, 2, 3, 4, 5, 8, 9, 10, 11, 12] (Wr := [(q_this, .inr (3, [.ref q_this_land, .ref q_this_text, .int place_, .int next_, .int token_, .int number_])), (q_this_land, .inr (2, [.int land_ways_, .ref q_this_land_starts, v_this_land_homes, .ref q_this_land_hours, .ref q_this_land_froms, .ref q_this_land_tos, .ref q_this_land_bands])), (q_this_land_bands, .inr (7, [.ref q_this_land_bands_values, .int land_bands_size_])), (q_this_land_bands_values, .inl (kI, 24, .inl land_bands_values_)), (q_this_land_froms, .inr (7, [.ref q_this_land_froms_values, .int land_froms_size_])), (q_this_land_froms_values, .inl (kI, 24, .inl land_froms_values_)), (q_this_land_starts, .inr (7, [v_this_land_starts_values, .int land_starts_size_])), (q_this_land_tos, .inr (7, [.ref q_this_land_tos_values, .int land_tos_size_])), (q_this_land_tos_values, .inl (kI, 24, .inl land_tos_values_)), (q_this_text, .inr (7, [.ref q_this_text_values, .int text_size_])), (q_this_text_values, .inl (kI, n_this_text, .inl text_values_))]) rfl rfl rfl (by decide) (fun H locs hP hD hS => ?_)
  have hP : va_P D vwCl [(q_this, .inr (3, [.ref q_this_land, .ref q_this_text, .int place_, .int next_, .int token_, .int number_])), (q_this_land, .inr (2, [.int land_ways_, .ref q_this_land_starts, v_this_land_homes, .ref q_this_land_hours, .ref q_this_land_froms, .ref q_this_land_tos, .ref q_this_land_bands])), (q_this_land_bands, .inr (7, [.ref q_this_land_bands_values, .int land_bands_size_])), (q_this_land_bands_values, .inl (kI, 24, .inl land_bands_values_)), (q_this_land_froms, .inr (7, [.ref q_this_land_froms_values, .int land_froms_size_])), (q_this_land_froms_values, .inl (kI, 24, .inl land_froms_values_)), (q_this_land_starts, .inr (7, [v_this_land_starts_values, .int land_starts_size_])), (q_this_land_tos, .inr (7, [.ref q_this_land_tos_values, .int land_tos_size_])), (q_this_land_tos_values, .inl (kI, 24, .inl land_tos_values_)), (q_this_text, .inr (7, [.ref q_this_text_values, .int text_size_])), (q_this_text_values, .inl (kI, n_this_text, .inl text_values_)), (q_this_land_hours, .inr (7, [.ref q_this_land_hours_values, .int land_hours_size_])), (q_this_land_hours_values, .inl (kI, 24, .inl land_hours_values_))] H := hP
  have hD : va_D A [(q_this, .inr (3, [.ref q_this_land, .ref q_this_text, .int place_, .int next_, .int token_, .int number_])), (q_this_land, .inr (2, [.int land_ways_, .ref q_this_land_starts, v_this_land_homes, .ref q_this_land_hours, .ref q_this_land_froms, .ref q_this_land_tos, .ref q_this_land_bands])), (q_this_land_bands, .inr (7, [.ref q_this_land_bands_values, .int land_bands_size_])), (q_this_land_bands_values, .inl (kI, 24, .inl land_bands_values_)), (q_this_land_froms, .inr (7, [.ref q_this_land_froms_values, .int land_froms_size_])), (q_this_land_froms_values, .inl (kI, 24, .inl land_froms_values_)), (q_this_land_starts, .inr (7, [v_this_land_starts_values, .int land_starts_size_])), (q_this_land_tos, .inr (7, [.ref q_this_land_tos_values, .int land_tos_size_])), (q_this_land_tos_values, .inl (kI, 24, .inl land_tos_values_)), (q_this_text, .inr (7, [.ref q_this_text_values, .int text_size_])), (q_this_text_values, .inl (kI, n_this_text, .inl text_values_)), (q_this_land_hours, .inr (7, [.ref q_this_land_hours_values, .int land_hours_size_])), (q_this_land_hours_values, .inl (kI, 24, .inl land_hours_values_))] := hD
  refine lv_if_ne (tgt := 29) hx hb dX3_takeGo_10 (by decide) (fun c1 => ?_) (fun c1 => ?_)
  · replace h := q_f c1 h
    refine lv_iconst (v := 0) hx hb dX3_takeGo_29 (by decide) ?_
    have er := q_inj h
    subst er
    exact hret _ _ _ _ nar0 (hP.sub [0, 1, 2, 3, 4, 5, 11, 12, 6, 7, 8, 9, 10] rfl) (hD.sub [0, 1, 2, 3, 4, 5, 11, 12, 6, 7, 8, 9, 10] rfl rfl) hS dX3_takeGo_30
  · replace h := q_t c1 h
    refine lv_aload_n hx hb dX3_takeGo_13 rfl (lv_at hl 0 rfl) ?_
    refine lv_aload_n hx hb dX3_takeGo_14 rfl (lv_at hl 0 rfl) ?_
    refine va_get (D := D) (ci := 3) (C := RX3) (T := TX3) (N := 6) hx hb hts iw_X3_takeGo_X3 hown hK hP 0 rfl rfl 0 (by decide) (hts _ lk_X3_takeGo_0) (fun _ h9 => h9) rfl dX3_takeGo_15 ?_
    obtain ⟨u18, hu18, h⟩ := q_b h
    refine q_aI (va_runV (As := []) (rest := [.ref q_this]) ⟨hx, hb, hml, hown, hts⟩ (c_X2_lastHour l D E kI kB kQ q_this_land q_this_land_hours q_this_land_hours_values (.ref q_this_land_starts) v_this_land_homes (.ref q_this_land_froms) (.ref q_this_land_tos) (.ref q_this_land_bands) land_ways_ land_hours_size_ land_hours_values_ N u18 hu18 H.size) (cwV 0 hts gX3_takeGo_X2_lastHour rfl rfl rfl vd_X2_lastHour ⟨Nat.le_of_ble_eq_true rfl, Nat.le_of_ble_eq_true rfl⟩) (q_pv hK hN hE hS hA hP hD [1, 11, 12] rfl rfl rfl 1 rfl (ci := 2) rfl) rfl rfl hl.1 rfl (lv_room (Nat.le_of_ble_eq_true rfl)) dX3_takeGo_18 ⟨Nat.zero_le _, Nat.zero_le _⟩) hP hD hS hA [1, 11, 12] [0, 2, 3, 4, 5, 6, 7, 8, 9, 10] (Wr := [(q_this, .inr (3, [.ref q_this_land, .ref q_this_text, .int place_, .int next_, .int token_, .int number_])), (q_this_land_bands, .inr (7, [.ref q_this_land_bands_values, .int land_bands_size_])), (q_this_land_bands_values, .inl (kI, 24, .inl land_bands_values_)), (q_this_land_froms, .inr (7, [.ref q_this_land_froms_values, .int land_froms_size_])), (q_this_land_froms_values, .inl (kI, 24, .inl land_froms_values_)), (q_this_land_starts, .inr (7, [v_this_land_starts_values, .int land_starts_size_])), (q_this_land_tos, .inr (7, [.ref q_this_land_tos_values, .int land_tos_size_])), (q_this_land_tos_values, .inl (kI, 24, .inl land_tos_values_)), (q_this_text, .inr (7, [.ref q_this_text_values, .int text_size_])), (q_this_text_values, .inl (kI, n_this_text, .inl text_values_))]) rfl rfl rfl (by decide) (fun H locs hP hD hS => ?_)
    have hP : va_P D vwCl [(q_this, .inr (3, [.ref q_this_land, .ref q_this_text, .int place_, .int next_, .int token_, .int number_])), (q_this_land_bands, .inr (7, [.ref q_this_land_bands_values, .int land_bands_size_])), (q_this_land_bands_values, .inl (kI, 24, .inl land_bands_values_)), (q_this_land_froms, .inr (7, [.ref q_this_land_froms_values, .int land_froms_size_])), (q_this_land_froms_values, .inl (kI, 24, .inl land_froms_values_)), (q_this_land_starts, .inr (7, [v_this_land_starts_values, .int land_starts_size_])), (q_this_land_tos, .inr (7, [.ref q_this_land_tos_values, .int land_tos_size_])), (q_this_land_tos_values, .inl (kI, 24, .inl land_tos_values_)), (q_this_text, .inr (7, [.ref q_this_text_values, .int text_size_])), (q_this_text_values, .inl (kI, n_this_text, .inl text_values_)), (q_this_land, .inr (2, [.int land_ways_, .ref q_this_land_starts, v_this_land_homes, .ref q_this_land_hours, .ref q_this_land_froms, .ref q_this_land_tos, .ref q_this_land_bands])), (q_this_land_hours, .inr (7, [.ref q_this_land_hours_values, .int land_hours_size_])), (q_this_land_hours_values, .inl (kI, 24, .inl land_hours_values_))] H := hP
    have hD : va_D A [(q_this, .inr (3, [.ref q_this_land, .ref q_this_text, .int place_, .int next_, .int token_, .int number_])), (q_this_land_bands, .inr (7, [.ref q_this_land_bands_values, .int land_bands_size_])), (q_this_land_bands_values, .inl (kI, 24, .inl land_bands_values_)), (q_this_land_froms, .inr (7, [.ref q_this_land_froms_values, .int land_froms_size_])), (q_this_land_froms_values, .inl (kI, 24, .inl land_froms_values_)), (q_this_land_starts, .inr (7, [v_this_land_starts_values, .int land_starts_size_])), (q_this_land_tos, .inr (7, [.ref q_this_land_tos_values, .int land_tos_size_])), (q_this_land_tos_values, .inl (kI, 24, .inl land_tos_values_)), (q_this_text, .inr (7, [.ref q_this_text_values, .int text_size_])), (q_this_text_values, .inl (kI, n_this_text, .inl text_values_)), (q_this_land, .inr (2, [.int land_ways_, .ref q_this_land_starts, v_this_land_homes, .ref q_this_land_hours, .ref q_this_land_froms, .ref q_this_land_tos, .ref q_this_land_bands])), (q_this_land_hours, .inr (7, [.ref q_this_land_hours_values, .int land_hours_size_])), (q_this_land_hours_values, .inl (kI, 24, .inl land_hours_values_))] := hD
    refine lv_bipush (v := 23) hx hb dX3_takeGo_21 (by decide) ?_
    obtain ⟨u23, hu23, h⟩ := q_b h
    refine q_aI (va_runV (As := [.int u18, .int 23]) (rest := []) ⟨hx, hb, hml, hown, hts⟩ (c_X3_takeNumber l D E kI kB kQ q_this q_this_text q_this_text_values (.ref q_this_land) n_this_text place_ next_ token_ number_ text_size_ text_values_ u18 23 N u23 hu23 H.size) (cwV 2 hts gX3_takeGo_X3_takeNumber rfl rfl rfl vd_X3_takeNumber ⟨Nat.le_of_ble_eq_true rfl, Nat.le_of_ble_eq_true rfl⟩) (q_pv hK hN hE hS hA hP hD [0, 8, 9] rfl rfl rfl 0 rfl (ci := 3) rfl) rfl rfl hl.1 rfl (lv_room (Nat.le_of_ble_eq_true rfl)) dX3_takeGo_23 ⟨Nat.zero_le _, Nat.zero_le _⟩) hP hD hS hA [0, 8, 9] [1, 2, 3, 4, 5, 6, 7, 10, 11, 12] (Wr := [(q_this_land_bands, .inr (7, [.ref q_this_land_bands_values, .int land_bands_size_])), (q_this_land_bands_values, .inl (kI, 24, .inl land_bands_values_)), (q_this_land_froms, .inr (7, [.ref q_this_land_froms_values, .int land_froms_size_])), (q_this_land_froms_values, .inl (kI, 24, .inl land_froms_values_)), (q_this_land_starts, .inr (7, [v_this_land_starts_values, .int land_starts_size_])), (q_this_land_tos, .inr (7, [.ref q_this_land_tos_values, .int land_tos_size_])), (q_this_land_tos_values, .inl (kI, 24, .inl land_tos_values_)), (q_this_land, .inr (2, [.int land_ways_, .ref q_this_land_starts, v_this_land_homes, .ref q_this_land_hours, .ref q_this_land_froms, .ref q_this_land_tos, .ref q_this_land_bands])), (q_this_land_hours, .inr (7, [.ref q_this_land_hours_values, .int land_hours_size_])), (q_this_land_hours_values, .inl (kI, 24, .inl land_hours_values_))]) rfl rfl rfl (by decide) (fun H locs hP hD hS => ?_)
    have hP : va_P D vwCl [(q_this_land_bands, .inr (7, [.ref q_this_land_bands_values, .int land_bands_size_])), (q_this_land_bands_values, .inl (kI, 24, .inl land_bands_values_)), (q_this_land_froms, .inr (7, [.ref q_this_land_froms_values, .int land_froms_size_])), (q_this_land_froms_values, .inl (kI, 24, .inl land_froms_values_)), (q_this_land_starts, .inr (7, [v_this_land_starts_values, .int land_starts_size_])), (q_this_land_tos, .inr (7, [.ref q_this_land_tos_values, .int land_tos_size_])), (q_this_land_tos_values, .inl (kI, 24, .inl land_tos_values_)), (q_this_land, .inr (2, [.int land_ways_, .ref q_this_land_starts, v_this_land_homes, .ref q_this_land_hours, .ref q_this_land_froms, .ref q_this_land_tos, .ref q_this_land_bands])), (q_this_land_hours, .inr (7, [.ref q_this_land_hours_values, .int land_hours_size_])), (q_this_land_hours_values, .inl (kI, 24, .inl land_hours_values_)), (q_this, .inr (3, [.ref q_this_land, .ref q_this_text, .int u23.2.2.2.1, .int u23.2.1, .int u23.2.2.2.2, .int u23.2.2.1])), (q_this_text, .inr (7, [.ref q_this_text_values, .int text_size_])), (q_this_text_values, .inl (kI, n_this_text, .inl text_values_))] H := hP
    have hD : va_D A [(q_this_land_bands, .inr (7, [.ref q_this_land_bands_values, .int land_bands_size_])), (q_this_land_bands_values, .inl (kI, 24, .inl land_bands_values_)), (q_this_land_froms, .inr (7, [.ref q_this_land_froms_values, .int land_froms_size_])), (q_this_land_froms_values, .inl (kI, 24, .inl land_froms_values_)), (q_this_land_starts, .inr (7, [v_this_land_starts_values, .int land_starts_size_])), (q_this_land_tos, .inr (7, [.ref q_this_land_tos_values, .int land_tos_size_])), (q_this_land_tos_values, .inl (kI, 24, .inl land_tos_values_)), (q_this_land, .inr (2, [.int land_ways_, .ref q_this_land_starts, v_this_land_homes, .ref q_this_land_hours, .ref q_this_land_froms, .ref q_this_land_tos, .ref q_this_land_bands])), (q_this_land_hours, .inr (7, [.ref q_this_land_hours_values, .int land_hours_size_])), (q_this_land_hours_values, .inl (kI, 24, .inl land_hours_values_)), (q_this, .inr (3, [.ref q_this_land, .ref q_this_text, .int u23.2.2.2.1, .int u23.2.1, .int u23.2.2.2.2, .int u23.2.2.1])), (q_this_text, .inr (7, [.ref q_this_text_values, .int text_size_])), (q_this_text_values, .inl (kI, n_this_text, .inl text_values_))] := hD
    refine lv_if_ne (tgt := 31) hx hb dX3_takeGo_26 (by decide) (fun c2 => ?_) (fun c2 => ?_)
    · replace h := q_f c2 h
      refine lv_aload_n hx hb dX3_takeGo_31 rfl (lv_at hl 0 rfl) ?_
      refine va_get (D := D) (ci := 3) (C := RX3) (T := TX3) (N := 6) hx hb hts iw_X3_takeGo_X3 hown hK hP 10 rfl rfl 5 (by decide) (hts _ lk_X3_takeGo_2) (fun _ h9 => h9) rfl dX3_takeGo_32 ?_
      refine lv_istore_n (lv' := [(1, .int u23.2.2.1), (0, .ref q_this)]) hx hb dX3_takeGo_35 rfl hl (by decide) rfl (fun ls hl => ?_)
      refine lv_aload_n hx hb dX3_takeGo_36 rfl (lv_at hl 1 rfl) ?_
      refine lv_iconst (v := 0) hx hb dX3_takeGo_37 (by decide) ?_
      refine lv_iconst (v := 3) hx hb dX3_takeGo_38 (by decide) ?_
      obtain ⟨u39, hu39, h⟩ := q_b h
      refine q_aI (va_runV (As := [.int 0, .int 3]) (rest := []) ⟨hx, hb, hml, hown, hts⟩ (c_X3_takeNumber l D E kI kB kQ q_this q_this_text q_this_text_values (.ref q_this_land) n_this_text u23.2.2.2.1 u23.2.1 u23.2.2.2.2 u23.2.2.1 text_size_ text_values_ 0 3 N u39 hu39 H.size) (cwV 2 hts gX3_takeGo_X3_takeNumber rfl rfl rfl vd_X3_takeNumber ⟨Nat.le_of_ble_eq_true rfl, Nat.le_of_ble_eq_true rfl⟩) (q_pv hK hN hE hS hA hP hD [10, 11, 12] rfl rfl rfl 10 rfl (ci := 3) rfl) rfl rfl hl.1 rfl (lv_room (Nat.le_of_ble_eq_true rfl)) dX3_takeGo_39 ⟨Nat.zero_le _, Nat.zero_le _⟩) hP hD hS hA [10, 11, 12] [0, 1, 2, 3, 4, 5, 6, 7, 8, 9] (Wr := [(q_this_land_bands, .inr (7, [.ref q_this_land_bands_values, .int land_bands_size_])), (q_this_land_bands_values, .inl (kI, 24, .inl land_bands_values_)), (q_this_land_froms, .inr (7, [.ref q_this_land_froms_values, .int land_froms_size_])), (q_this_land_froms_values, .inl (kI, 24, .inl land_froms_values_)), (q_this_land_starts, .inr (7, [v_this_land_starts_values, .int land_starts_size_])), (q_this_land_tos, .inr (7, [.ref q_this_land_tos_values, .int land_tos_size_])), (q_this_land_tos_values, .inl (kI, 24, .inl land_tos_values_)), (q_this_land, .inr (2, [.int land_ways_, .ref q_this_land_starts, v_this_land_homes, .ref q_this_land_hours, .ref q_this_land_froms, .ref q_this_land_tos, .ref q_this_land_bands])), (q_this_land_hours, .inr (7, [.ref q_this_land_hours_values, .int land_hours_size_])), (q_this_land_hours_values, .inl (kI, 24, .inl land_hours_values_))]) rfl rfl rfl (by decide) (fun H locs hP hD hS => ?_)
      have hP : va_P D vwCl [(q_this_land_bands, .inr (7, [.ref q_this_land_bands_values, .int land_bands_size_])), (q_this_land_bands_values, .inl (kI, 24, .inl land_bands_values_)), (q_this_land_froms, .inr (7, [.ref q_this_land_froms_values, .int land_froms_size_])), (q_this_land_froms_values, .inl (kI, 24, .inl land_froms_values_)), (q_this_land_starts, .inr (7, [v_this_land_starts_values, .int land_starts_size_])), (q_this_land_tos, .inr (7, [.ref q_this_land_tos_values, .int land_tos_size_])), (q_this_land_tos_values, .inl (kI, 24, .inl land_tos_values_)), (q_this_land, .inr (2, [.int land_ways_, .ref q_this_land_starts, v_this_land_homes, .ref q_this_land_hours, .ref q_this_land_froms, .ref q_this_land_tos, .ref q_this_land_bands])), (q_this_land_hours, .inr (7, [.ref q_this_land_hours_values, .int land_hours_size_])), (q_this_land_hours_values, .inl (kI, 24, .inl land_hours_values_)), (q_this, .inr (3, [.ref q_this_land, .ref q_this_text, .int u39.2.2.2.1, .int u39.2.1, .int u39.2.2.2.2, .int u39.2.2.1])), (q_this_text, .inr (7, [.ref q_this_text_values, .int text_size_])), (q_this_text_values, .inl (kI, n_this_text, .inl text_values_))] H := hP
      have hD : va_D A [(q_this_land_bands, .inr (7, [.ref q_this_land_bands_values, .int land_bands_size_])), (q_this_land_bands_values, .inl (kI, 24, .inl land_bands_values_)), (q_this_land_froms, .inr (7, [.ref q_this_land_froms_values, .int land_froms_size_])), (q_this_land_froms_values, .inl (kI, 24, .inl land_froms_values_)), (q_this_land_starts, .inr (7, [v_this_land_starts_values, .int land_starts_size_])), (q_this_land_tos, .inr (7, [.ref q_this_land_tos_values, .int land_tos_size_])), (q_this_land_tos_values, .inl (kI, 24, .inl land_tos_values_)), (q_this_land, .inr (2, [.int land_ways_, .ref q_this_land_starts, v_this_land_homes, .ref q_this_land_hours, .ref q_this_land_froms, .ref q_this_land_tos, .ref q_this_land_bands])), (q_this_land_hours, .inr (7, [.ref q_this_land_hours_values, .int land_hours_size_])), (q_this_land_hours_values, .inl (kI, 24, .inl land_hours_values_)), (q_this, .inr (3, [.ref q_this_land, .ref q_this_text, .int u39.2.2.2.1, .int u39.2.1, .int u39.2.2.2.2, .int u39.2.2.1])), (q_this_text, .inr (7, [.ref q_this_text_values, .int text_size_])), (q_this_text_values, .inl (kI, n_this_text, .inl text_values_))] := hD
      refine lv_if_ne (tgt := 47) hx hb dX3_takeGo_42 (by decide) (fun c3 => ?_) (fun c3 => ?_)
      · replace h := q_f c3 h
        refine lv_aload_n hx hb dX3_takeGo_47 rfl (lv_at hl 1 rfl) ?_
        refine va_get (D := D) (ci := 3) (C := RX3) (T := TX3) (N := 6) hx hb hts iw_X3_takeGo_X3 hown hK hP 10 rfl rfl 5 (by decide) (hts _ lk_X3_takeGo_2) (fun _ h9 => h9) rfl dX3_takeGo_48 ?_
        refine lv_istore_n (lv' := [(2, .int u39.2.2.1), (1, .int u23.2.2.1), (0, .ref q_this)]) hx hb dX3_takeGo_51 rfl hl (by decide) rfl (fun ls hl => ?_)
        refine lv_aload_n hx hb dX3_takeGo_52 rfl (lv_at hl 2 rfl) ?_
        refine lv_iconst (v := 0) hx hb dX3_takeGo_53 (by decide) ?_
        refine lv_iconst (v := 3) hx hb dX3_takeGo_54 (by decide) ?_
        obtain ⟨u55, hu55, h⟩ := q_b h
        refine q_aI (va_runV (As := [.int 0, .int 3]) (rest := []) ⟨hx, hb, hml, hown, hts⟩ (c_X3_takeNumber l D E kI kB kQ q_this q_this_text q_this_text_values (.ref q_this_land) n_this_text u39.2.2.2.1 u39.2.1 u39.2.2.2.2 u39.2.2.1 text_size_ text_values_ 0 3 N u55 hu55 H.size) (cwV 2 hts gX3_takeGo_X3_takeNumber rfl rfl rfl vd_X3_takeNumber ⟨Nat.le_of_ble_eq_true rfl, Nat.le_of_ble_eq_true rfl⟩) (q_pv hK hN hE hS hA hP hD [10, 11, 12] rfl rfl rfl 10 rfl (ci := 3) rfl) rfl rfl hl.1 rfl (lv_room (Nat.le_of_ble_eq_true rfl)) dX3_takeGo_55 ⟨Nat.zero_le _, Nat.zero_le _⟩) hP hD hS hA [10, 11, 12] [0, 1, 2, 3, 4, 5, 6, 7, 8, 9] (Wr := [(q_this_land_bands, .inr (7, [.ref q_this_land_bands_values, .int land_bands_size_])), (q_this_land_bands_values, .inl (kI, 24, .inl land_bands_values_)), (q_this_land_froms, .inr (7, [.ref q_this_land_froms_values, .int land_froms_size_])), (q_this_land_froms_values, .inl (kI, 24, .inl land_froms_values_)), (q_this_land_starts, .inr (7, [v_this_land_starts_values, .int land_starts_size_])), (q_this_land_tos, .inr (7, [.ref q_this_land_tos_values, .int land_tos_size_])), (q_this_land_tos_values, .inl (kI, 24, .inl land_tos_values_)), (q_this_land, .inr (2, [.int land_ways_, .ref q_this_land_starts, v_this_land_homes, .ref q_this_land_hours, .ref q_this_land_froms, .ref q_this_land_tos, .ref q_this_land_bands])), (q_this_land_hours, .inr (7, [.ref q_this_land_hours_values, .int land_hours_size_])), (q_this_land_hours_values, .inl (kI, 24, .inl land_hours_values_))]) rfl rfl rfl (by decide) (fun H locs hP hD hS => ?_)
        have hP : va_P D vwCl [(q_this_land_bands, .inr (7, [.ref q_this_land_bands_values, .int land_bands_size_])), (q_this_land_bands_values, .inl (kI, 24, .inl land_bands_values_)), (q_this_land_froms, .inr (7, [.ref q_this_land_froms_values, .int land_froms_size_])), (q_this_land_froms_values, .inl (kI, 24, .inl land_froms_values_)), (q_this_land_starts, .inr (7, [v_this_land_starts_values, .int land_starts_size_])), (q_this_land_tos, .inr (7, [.ref q_this_land_tos_values, .int land_tos_size_])), (q_this_land_tos_values, .inl (kI, 24, .inl land_tos_values_)), (q_this_land, .inr (2, [.int land_ways_, .ref q_this_land_starts, v_this_land_homes, .ref q_this_land_hours, .ref q_this_land_froms, .ref q_this_land_tos, .ref q_this_land_bands])), (q_this_land_hours, .inr (7, [.ref q_this_land_hours_values, .int land_hours_size_])), (q_this_land_hours_values, .inl (kI, 24, .inl land_hours_values_)), (q_this, .inr (3, [.ref q_this_land, .ref q_this_text, .int u55.2.2.2.1, .int u55.2.1, .int u55.2.2.2.2, .int u55.2.2.1])), (q_this_text, .inr (7, [.ref q_this_text_values, .int text_size_])), (q_this_text_values, .inl (kI, n_this_text, .inl text_values_))] H := hP
        have hD : va_D A [(q_this_land_bands, .inr (7, [.ref q_this_land_bands_values, .int land_bands_size_])), (q_this_land_bands_values, .inl (kI, 24, .inl land_bands_values_)), (q_this_land_froms, .inr (7, [.ref q_this_land_froms_values, .int land_froms_size_])), (q_this_land_froms_values, .inl (kI, 24, .inl land_froms_values_)), (q_this_land_starts, .inr (7, [v_this_land_starts_values, .int land_starts_size_])), (q_this_land_tos, .inr (7, [.ref q_this_land_tos_values, .int land_tos_size_])), (q_this_land_tos_values, .inl (kI, 24, .inl land_tos_values_)), (q_this_land, .inr (2, [.int land_ways_, .ref q_this_land_starts, v_this_land_homes, .ref q_this_land_hours, .ref q_this_land_froms, .ref q_this_land_tos, .ref q_this_land_bands])), (q_this_land_hours, .inr (7, [.ref q_this_land_hours_values, .int land_hours_size_])), (q_this_land_hours_values, .inl (kI, 24, .inl land_hours_values_)), (q_this, .inr (3, [.ref q_this_land, .ref q_this_text, .int u55.2.2.2.1, .int u55.2.1, .int u55.2.2.2.2, .int u55.2.2.1])), (q_this_text, .inr (7, [.ref q_this_text_values, .int text_size_])), (q_this_text_values, .inl (kI, n_this_text, .inl text_values_))] := hD
        refine lv_if_ne (tgt := 63) hx hb dX3_takeGo_58 (by decide) (fun c4 => ?_) (fun c4 => ?_)
        · replace h := q_f c4 h
          refine lv_aload_n hx hb dX3_takeGo_63 rfl (lv_at hl 2 rfl) ?_
          refine va_get (D := D) (ci := 3) (C := RX3) (T := TX3) (N := 6) hx hb hts iw_X3_takeGo_X3 hown hK hP 10 rfl rfl 5 (by decide) (hts _ lk_X3_takeGo_2) (fun _ h9 => h9) rfl dX3_takeGo_64 ?_
          refine lv_istore_n (lv' := [(3, .int u55.2.2.1), (2, .int u39.2.2.1), (1, .int u23.2.2.1), (0, .ref q_this)]) hx hb dX3_takeGo_67 rfl hl (by decide) rfl (fun ls hl => ?_)
          refine lv_aload_n hx hb dX3_takeGo_68 rfl (lv_at hl 3 rfl) ?_
          obtain ⟨u69, hu69, h⟩ := q_b h
          refine q_aI (va_runV (As := []) (rest := []) ⟨hx, hb, hml, hown, hts⟩ (c_X3_takeBand l D E kI kB kQ q_this q_this_land q_this_land_starts q_this_text q_this_text_values v_this_land_homes (.ref q_this_land_hours) (.ref q_this_land_froms) (.ref q_this_land_tos) (.ref q_this_land_bands) v_this_land_starts_values n_this_text u55.2.2.2.1 u55.2.1 u55.2.2.2.2 u55.2.2.1 land_ways_ land_starts_size_ text_size_ text_values_ N u69 hu69 H.size) (cwV 0 hts gX3_takeGo_X3_takeBand rfl rfl rfl vd_X3_takeBand ⟨Nat.le_of_ble_eq_true rfl, Nat.le_of_ble_eq_true rfl⟩) (q_pv hK hN hE hS hA hP hD [10, 7, 4, 11, 12] rfl rfl rfl 10 rfl (ci := 3) rfl) rfl rfl hl.1 rfl (lv_room (Nat.le_of_ble_eq_true rfl)) dX3_takeGo_69 ⟨Nat.zero_le _, Nat.zero_le _⟩) hP hD hS hA [10, 7, 4, 11, 12] [0, 1, 2, 3, 5, 6, 8, 9] (Wr := [(q_this_land_bands, .inr (7, [.ref q_this_land_bands_values, .int land_bands_size_])), (q_this_land_bands_values, .inl (kI, 24, .inl land_bands_values_)), (q_this_land_froms, .inr (7, [.ref q_this_land_froms_values, .int land_froms_size_])), (q_this_land_froms_values, .inl (kI, 24, .inl land_froms_values_)), (q_this_land_tos, .inr (7, [.ref q_this_land_tos_values, .int land_tos_size_])), (q_this_land_tos_values, .inl (kI, 24, .inl land_tos_values_)), (q_this_land_hours, .inr (7, [.ref q_this_land_hours_values, .int land_hours_size_])), (q_this_land_hours_values, .inl (kI, 24, .inl land_hours_values_))]) rfl rfl rfl (by decide) (fun H locs hP hD hS => ?_)
          have hP : va_P D vwCl [(q_this_land_bands, .inr (7, [.ref q_this_land_bands_values, .int land_bands_size_])), (q_this_land_bands_values, .inl (kI, 24, .inl land_bands_values_)), (q_this_land_froms, .inr (7, [.ref q_this_land_froms_values, .int land_froms_size_])), (q_this_land_froms_values, .inl (kI, 24, .inl land_froms_values_)), (q_this_land_tos, .inr (7, [.ref q_this_land_tos_values, .int land_tos_size_])), (q_this_land_tos_values, .inl (kI, 24, .inl land_tos_values_)), (q_this_land_hours, .inr (7, [.ref q_this_land_hours_values, .int land_hours_size_])), (q_this_land_hours_values, .inl (kI, 24, .inl land_hours_values_)), (q_this, .inr (3, [.ref q_this_land, .ref q_this_text, .int u69.2.2.2.1, .int u69.2.1, .int u69.2.2.2.2, .int u69.2.2.1])), (q_this_land, .inr (2, [.int land_ways_, .ref q_this_land_starts, v_this_land_homes, .ref q_this_land_hours, .ref q_this_land_froms, .ref q_this_land_tos, .ref q_this_land_bands])), (q_this_land_starts, .inr (7, [v_this_land_starts_values, .int land_starts_size_])), (q_this_text, .inr (7, [.ref q_this_text_values, .int text_size_])), (q_this_text_values, .inl (kI, n_this_text, .inl text_values_))] H := hP
          have hD : va_D A [(q_this_land_bands, .inr (7, [.ref q_this_land_bands_values, .int land_bands_size_])), (q_this_land_bands_values, .inl (kI, 24, .inl land_bands_values_)), (q_this_land_froms, .inr (7, [.ref q_this_land_froms_values, .int land_froms_size_])), (q_this_land_froms_values, .inl (kI, 24, .inl land_froms_values_)), (q_this_land_tos, .inr (7, [.ref q_this_land_tos_values, .int land_tos_size_])), (q_this_land_tos_values, .inl (kI, 24, .inl land_tos_values_)), (q_this_land_hours, .inr (7, [.ref q_this_land_hours_values, .int land_hours_size_])), (q_this_land_hours_values, .inl (kI, 24, .inl land_hours_values_)), (q_this, .inr (3, [.ref q_this_land, .ref q_this_text, .int u69.2.2.2.1, .int u69.2.1, .int u69.2.2.2.2, .int u69.2.2.1])), (q_this_land, .inr (2, [.int land_ways_, .ref q_this_land_starts, v_this_land_homes, .ref q_this_land_hours, .ref q_this_land_froms, .ref q_this_land_tos, .ref q_this_land_bands])), (q_this_land_starts, .inr (7, [v_this_land_starts_values, .int land_starts_size_])), (q_this_text, .inr (7, [.ref q_this_text_values, .int text_size_])), (q_this_text_values, .inl (kI, n_this_text, .inl text_values_))] := hD
          refine lv_istore (lv' := [(4, .int u69.1), (3, .int u55.2.2.1), (2, .int u39.2.2.1), (1, .int u23.2.2.1), (0, .ref q_this)]) hx hb dX3_takeGo_72 hl (by decide) rfl (fun ls hl => ?_)
          refine lv_iload hx hb dX3_takeGo_74 (lv_at hl 0 rfl) ?_
          refine lv_if_ne (tgt := 81) hx hb dX3_takeGo_76 (by decide) (fun c5 => ?_) (fun c5 => ?_)
          · replace h := q_f c5 h
            refine lv_aload_n hx hb dX3_takeGo_81 rfl (lv_at hl 4 rfl) ?_
            refine va_get (D := D) (ci := 3) (C := RX3) (T := TX3) (N := 6) hx hb hts iw_X3_takeGo_X3 hown hK hP 8 rfl rfl 0 (by decide) (hts _ lk_X3_takeGo_0) (fun _ h9 => h9) rfl dX3_takeGo_82 ?_
            refine lv_iload_n hx hb dX3_takeGo_85 rfl (lv_at hl 3 rfl) ?_
            refine lv_iload_n hx hb dX3_takeGo_86 rfl (lv_at hl 2 rfl) ?_
            refine lv_iload_n hx hb dX3_takeGo_87 rfl (lv_at hl 1 rfl) ?_
            refine lv_iload hx hb dX3_takeGo_88 (lv_at hl 0 rfl) ?_
            obtain ⟨u90, hu90, h⟩ := q_b h
            refine q_aV (va_runV (As := [.int u23.2.2.1, .int u39.2.2.1, .int u55.2.2.1, .int u69.1]) (rest := []) ⟨hx, hb, hml, hown, hts⟩ (c_X2_addGo l D E kI kB kQ q_this_land q_this_land_bands q_this_land_bands_values q_this_land_froms q_this_land_froms_values q_this_land_hours q_this_land_hours_values q_this_land_tos q_this_land_tos_values (.ref q_this_land_starts) v_this_land_homes land_ways_ land_bands_size_ land_bands_values_ land_froms_size_ land_froms_values_ land_hours_size_ land_hours_values_ land_tos_size_ land_tos_values_ u23.2.2.1 u39.2.2.1 u55.2.2.1 u69.1 N u90 hu90 H.size) (cwV 4 hts gX3_takeGo_X2_addGo rfl rfl rfl vd_X2_addGo ⟨Nat.le_of_ble_eq_true rfl, Nat.le_of_ble_eq_true rfl⟩) (q_pv hK hN hE hS hA hP hD [9, 0, 1, 2, 3, 6, 7, 4, 5] rfl rfl rfl 9 rfl (ci := 2) rfl) rfl rfl hl.1 rfl (lv_room (Nat.le_of_ble_eq_true rfl)) dX3_takeGo_90 ⟨Nat.zero_le _, Nat.zero_le _⟩) hP hD hS hA [9, 0, 1, 2, 3, 6, 7, 4, 5] [8, 10, 11, 12] (Wr := [(q_this, .inr (3, [.ref q_this_land, .ref q_this_text, .int u69.2.2.2.1, .int u69.2.1, .int u69.2.2.2.2, .int u69.2.2.1])), (q_this_land_starts, .inr (7, [v_this_land_starts_values, .int land_starts_size_])), (q_this_text, .inr (7, [.ref q_this_text_values, .int text_size_])), (q_this_text_values, .inl (kI, n_this_text, .inl text_values_))]) rfl rfl rfl (by decide) (fun H locs hP hD hS => ?_)
            have hP : va_P D vwCl [(q_this, .inr (3, [.ref q_this_land, .ref q_this_text, .int u69.2.2.2.1, .int u69.2.1, .int u69.2.2.2.2, .int u69.2.2.1])), (q_this_land_starts, .inr (7, [v_this_land_starts_values, .int land_starts_size_])), (q_this_text, .inr (7, [.ref q_this_text_values, .int text_size_])), (q_this_text_values, .inl (kI, n_this_text, .inl text_values_)), (q_this_land, .inr (2, [.int land_ways_, .ref q_this_land_starts, v_this_land_homes, .ref q_this_land_hours, .ref q_this_land_froms, .ref q_this_land_tos, .ref q_this_land_bands])), (q_this_land_bands, .inr (7, [.ref q_this_land_bands_values, .int u90.1])), (q_this_land_bands_values, .inl (kI, 24, .inl u90.2.1)), (q_this_land_froms, .inr (7, [.ref q_this_land_froms_values, .int u90.2.2.1])), (q_this_land_froms_values, .inl (kI, 24, .inl u90.2.2.2.1)), (q_this_land_hours, .inr (7, [.ref q_this_land_hours_values, .int u90.2.2.2.2.1])), (q_this_land_hours_values, .inl (kI, 24, .inl u90.2.2.2.2.2.1)), (q_this_land_tos, .inr (7, [.ref q_this_land_tos_values, .int u90.2.2.2.2.2.2.1])), (q_this_land_tos_values, .inl (kI, 24, .inl u90.2.2.2.2.2.2.2))] H := hP
            have hD : va_D A [(q_this, .inr (3, [.ref q_this_land, .ref q_this_text, .int u69.2.2.2.1, .int u69.2.1, .int u69.2.2.2.2, .int u69.2.2.1])), (q_this_land_starts, .inr (7, [v_this_land_starts_values, .int land_starts_size_])), (q_this_text, .inr (7, [.ref q_this_text_values, .int text_size_])), (q_this_text_values, .inl (kI, n_this_text, .inl text_values_)), (q_this_land, .inr (2, [.int land_ways_, .ref q_this_land_starts, v_this_land_homes, .ref q_this_land_hours, .ref q_this_land_froms, .ref q_this_land_tos, .ref q_this_land_bands])), (q_this_land_bands, .inr (7, [.ref q_this_land_bands_values, .int u90.1])), (q_this_land_bands_values, .inl (kI, 24, .inl u90.2.1)), (q_this_land_froms, .inr (7, [.ref q_this_land_froms_values, .int u90.2.2.1])), (q_this_land_froms_values, .inl (kI, 24, .inl u90.2.2.2.1)), (q_this_land_hours, .inr (7, [.ref q_this_land_hours_values, .int u90.2.2.2.2.1])), (q_this_land_hours_values, .inl (kI, 24, .inl u90.2.2.2.2.2.1)), (q_this_land_tos, .inr (7, [.ref q_this_land_tos_values, .int u90.2.2.2.2.2.2.1])), (q_this_land_tos_values, .inl (kI, 24, .inl u90.2.2.2.2.2.2.2))] := hD
            refine lv_iconst (v := 1) hx hb dX3_takeGo_93 (by decide) ?_
            have er := q_inj h
            subst er
            exact hret _ _ _ _ nar1 (hP.sub [0, 4, 5, 6, 7, 8, 9, 10, 1, 11, 12, 2, 3] rfl) (hD.sub [0, 4, 5, 6, 7, 8, 9, 10, 1, 11, 12, 2, 3] rfl rfl) hS dX3_takeGo_94
          · replace h := q_t c5 h
            refine lv_iconst (v := 0) hx hb dX3_takeGo_79 (by decide) ?_
            have er := q_inj h
            subst er
            exact hret _ _ _ _ nar0 (hP.sub [8, 9, 0, 1, 2, 3, 6, 7, 10, 4, 5, 11, 12] rfl) (hD.sub [8, 9, 0, 1, 2, 3, 6, 7, 10, 4, 5, 11, 12] rfl rfl) hS dX3_takeGo_80
        · replace h := q_t c4 h
          refine lv_iconst (v := 0) hx hb dX3_takeGo_61 (by decide) ?_
          have er := q_inj h
          subst er
          exact hret _ _ _ _ nar0 (hP.sub [10, 7, 0, 1, 2, 3, 8, 9, 4, 5, 6, 11, 12] rfl) (hD.sub [10, 7, 0, 1, 2, 3, 8, 9, 4, 5, 6, 11, 12] rfl rfl) hS dX3_takeGo_62
      · replace h := q_t c3 h
        refine lv_iconst (v := 0) hx hb dX3_takeGo_45 (by decide) ?_
        have er := q_inj h
        subst er
        exact hret _ _ _ _ nar0 (hP.sub [10, 7, 0, 1, 2, 3, 8, 9, 4, 5, 6, 11, 12] rfl) (hD.sub [10, 7, 0, 1, 2, 3, 8, 9, 4, 5, 6, 11, 12] rfl rfl) hS dX3_takeGo_46
    · replace h := q_t c2 h
      refine lv_iconst (v := 0) hx hb dX3_takeGo_29 (by decide) ?_
      have er := q_inj h
      subst er
      exact hret _ _ _ _ nar0 (hP.sub [10, 7, 0, 1, 2, 3, 8, 9, 4, 5, 6, 11, 12] rfl) (hD.sub [10, 7, 0, 1, 2, 3, 8, 9, 4, 5, 6, 11, 12] rfl rfl) hS dX3_takeGo_30
abbrev rm_X3_takeStop : Room := { frames := 6, cells := 0, slots := 0, locals := 127 }
theorem lk_X3_takeStop_0 : Cond.fieldLink RX3 41 "OnlyPrimes$Reader" "token" "I" ∈ wsX3_takeStop := List.mem_of_getElem? (i := 1) (by decide +kernel)
theorem iw_X3_takeStop_X3 : ∀ w ∈ wsX30, w ∈ wsX3_takeStop := by decide +kernel
theorem nd_X3_takeStop : yX3_takeStop.cls ≠ "java/lang/invoke/MethodHandle" ∧ yX3_takeStop.cls ≠ "java/lang/invoke/VarHandle" ∧ (parseMethodDescriptor yX3_takeStop.desc).map (fun d => d.parameters.length) = some 0 := by decide +kernel
theorem vd_X3_takeStop : yX3_takeStop.cls = RX3 ∧ yX3_takeStop.cls ≠ "java/lang/invoke/MethodHandle" ∧ yX3_takeStop.cls ≠ "java/lang/invoke/VarHandle" ∧ (parseMethodDescriptor yX3_takeStop.desc).map (fun d => d.parameters.length) = some 0 := by decide +kernel
set_option maxHeartbeats 4000000 in
set_option maxRecDepth 100000 in
theorem c_X3_takeStop (l : Launch) (D : va_G) (E : q_En) (kI kB kQ : ClassId) (q_this : Nat) (q_this_text : Nat) (q_this_text_values : Nat) (v_this_land : Value) (n_this_text : Nat) (place_ : Int32) (next_ : Int32) (token_ : Int32) (number_ : Int32) (text_size_ : Int32) (text_values_ : Nat → Int32) (N : Nat) (r : Int32 × Int32 × Int32 × Int32 × Int32) (hf : g_X3_takeStop N n_this_text next_ token_ number_ text_size_ text_values_ = some r) : CtI l D E yX3_takeStop wsX3_takeStop rm_X3_takeStop (q_tys kI kB kQ) [.ref q_this] [(q_this, .inr (3, [v_this_land, .ref q_this_text, .int place_, .int next_, .int token_, .int number_])), (q_this_text, .inr (7, [.ref q_this_text_values, .int text_size_])), (q_this_text_values, .inl (kI, n_this_text, .inl text_values_))] [(q_this, .inr (3, [v_this_land, .ref q_this_text, .int r.2.2.2.1, .int r.2.1, .int r.2.2.2.2, .int r.2.2.1])), (q_this_text, .inr (7, [.ref q_this_text_values, .int text_size_])), (q_this_text_values, .inl (kI, n_this_text, .inl text_values_))] r.1 := by
  refine q_enterZ cX3_takeStop 1 RX3 (by decide) rfl (Nat.le_of_ble_eq_true rfl) rfl ?_
  intro p e s m args below meth c Q A ls H hx hb hml hown hts hK hN hE hA hP hS hD hl hret
  have hl : lv_has ls 1 [(0, .ref q_this)] := hl
  have h := hf
  rw [g_X3_takeStop] at h
  refine lv_aload_n hx hb dX3_takeStop_0 rfl (lv_at hl 0 rfl) ?_
  obtain ⟨u1, hu1, h⟩ := q_b h
  refine q_aV (va_runV (As := []) (rest := []) ⟨hx, hb, hml, hown, hts⟩ (c_X3_take l D E kI kB kQ q_this q_this_text q_this_text_values v_this_land n_this_text place_ next_ token_ number_ text_size_ text_values_ N u1 hu1 H.size) (cwV 0 hts gX3_takeStop_X3_take rfl rfl rfl vd_X3_take ⟨Nat.le_of_ble_eq_true rfl, Nat.le_of_ble_eq_true rfl⟩) (q_pv hK hN hE hS hA hP hD [0, 1, 2] rfl rfl rfl 0 rfl (ci := 3) rfl) rfl rfl hl.1 rfl (lv_room (Nat.le_of_ble_eq_true rfl)) dX3_takeStop_1 ⟨Nat.zero_le _, Nat.zero_le _⟩) hP hD hS hA [0, 1, 2] [] (Wr := []) rfl rfl rfl (by decide) (fun H locs hP hD hS => ?_)
  have hP : va_P D vwCl [(q_this, .inr (3, [v_this_land, .ref q_this_text, .int u1.2.2.1, .int u1.1, .int u1.2.2.2, .int u1.2.1])), (q_this_text, .inr (7, [.ref q_this_text_values, .int text_size_])), (q_this_text_values, .inl (kI, n_this_text, .inl text_values_))] H := hP
  have hD : va_D A [(q_this, .inr (3, [v_this_land, .ref q_this_text, .int u1.2.2.1, .int u1.1, .int u1.2.2.2, .int u1.2.1])), (q_this_text, .inr (7, [.ref q_this_text_values, .int text_size_])), (q_this_text_values, .inl (kI, n_this_text, .inl text_values_))] := hD
  refine lv_aload_n hx hb dX3_takeStop_4 rfl (lv_at hl 0 rfl) ?_
  refine va_get (D := D) (ci := 3) (C := RX3) (T := TX3) (N := 6) hx hb hts iw_X3_takeStop_X3 hown hK hP 0 rfl rfl 4 (by decide) (hts _ lk_X3_takeStop_0) (fun _ h9 => h9) rfl dX3_takeStop_5 ?_
  refine lv_iconst (v := 2) hx hb dX3_takeStop_8 (by decide) ?_
  refine lv_icmp_ne (tgt := 16) hx hb dX3_takeStop_9 (by decide) (fun c1 => ?_) (fun c1 => ?_)
  · replace h := q_f c1 h
    refine lv_iconst (v := 0) hx hb dX3_takeStop_16 (by decide) ?_
    have er := q_inj h
    subst er
    exact hret _ _ _ _ nar0 (hP.sub [0, 1, 2] rfl) (hD.sub [0, 1, 2] rfl rfl) hS dX3_takeStop_17
  · replace h := q_t c1 h
    refine lv_iconst (v := 1) hx hb dX3_takeStop_12 (by decide) ?_
    refine lv_goto (tgt := 17) hx hb dX3_takeStop_13 (by decide) ?_
    have er := q_inj h
    subst er
    exact hret _ _ _ _ nar1 (hP.sub [0, 1, 2] rfl) (hD.sub [0, 1, 2] rfl rfl) hS dX3_takeStop_17
abbrev rm_X3_takeOne : Room := { frames := 7, cells := 0, slots := 0, locals := 149 }
theorem lk_X3_takeOne_0 : Cond.fieldLink RX3 12 "OnlyPrimes$Reader" "land" "LOnlyPrimes$Land;" ∈ wsX3_takeOne := List.mem_of_getElem? (i := 1) (by decide +kernel)
theorem iw_X3_takeOne_X3 : ∀ w ∈ wsX30, w ∈ wsX3_takeOne := by decide +kernel
theorem lk_X3_takeOne_1 : Cond.fieldLink RX3 74 "OnlyPrimes$Land" "starts" "LOnlyPrimes$Slots;" ∈ wsX3_takeOne := List.mem_of_getElem? (i := 2) (by decide +kernel)
theorem iw_X3_takeOne_X2 : ∀ w ∈ wsX20, w ∈ wsX3_takeOne := by decide +kernel
theorem lk_X3_takeOne_2 : Cond.fieldLink RX3 61 "OnlyPrimes$Reader" "number" "I" ∈ wsX3_takeOne := List.mem_of_getElem? (i := 3) (by decide +kernel)
theorem nd_X3_takeOne : yX3_takeOne.cls ≠ "java/lang/invoke/MethodHandle" ∧ yX3_takeOne.cls ≠ "java/lang/invoke/VarHandle" ∧ (parseMethodDescriptor yX3_takeOne.desc).map (fun d => d.parameters.length) = some 0 := by decide +kernel
theorem vd_X3_takeOne : yX3_takeOne.cls = RX3 ∧ yX3_takeOne.cls ≠ "java/lang/invoke/MethodHandle" ∧ yX3_takeOne.cls ≠ "java/lang/invoke/VarHandle" ∧ (parseMethodDescriptor yX3_takeOne.desc).map (fun d => d.parameters.length) = some 0 := by decide +kernel
set_option maxHeartbeats 4000000 in
set_option maxRecDepth 100000 in
theorem c_X3_takeOne (l : Launch) (D : va_G) (E : q_En) (kI kB kQ : ClassId) (q_this : Nat) (q_this_land : Nat) (q_this_land_homes : Nat) (q_this_land_homes_values : Nat) (q_this_land_starts : Nat) (q_this_land_starts_values : Nat) (q_this_text : Nat) (q_this_text_values : Nat) (v_this_land_hours : Value) (v_this_land_froms : Value) (v_this_land_tos : Value) (v_this_land_bands : Value) (n_this_text : Nat) (place_ : Int32) (next_ : Int32) (token_ : Int32) (number_ : Int32) (land_ways_ : Int32) (land_homes_size_ : Int32) (land_homes_values_ : Nat → Int32) (land_starts_size_ : Int32) (land_starts_values_ : Nat → Int32) (text_size_ : Int32) (text_values_ : Nat → Int32) (N : Nat) (r : Int32 × Int32 × Int32 × Int32 × Int32 × Int32 × (Nat → Int32) × Int32 × (Nat → Int32)) (hf : g_X3_takeOne N n_this_text place_ next_ token_ number_ land_homes_size_ land_homes_values_ land_starts_size_ land_starts_values_ text_size_ text_values_ = some r) : CtI l D E yX3_takeOne wsX3_takeOne rm_X3_takeOne (q_tys kI kB kQ) [.ref q_this] [(q_this, .inr (3, [.ref q_this_land, .ref q_this_text, .int place_, .int next_, .int token_, .int number_])), (q_this_land, .inr (2, [.int land_ways_, .ref q_this_land_starts, .ref q_this_land_homes, v_this_land_hours, v_this_land_froms, v_this_land_tos, v_this_land_bands])), (q_this_land_homes, .inr (7, [.ref q_this_land_homes_values, .int land_homes_size_])), (q_this_land_homes_values, .inl (kI, 5, .inl land_homes_values_)), (q_this_land_starts, .inr (7, [.ref q_this_land_starts_values, .int land_starts_size_])), (q_this_land_starts_values, .inl (kI, 5, .inl land_starts_values_)), (q_this_text, .inr (7, [.ref q_this_text_values, .int text_size_])), (q_this_text_values, .inl (kI, n_this_text, .inl text_values_))] [(q_this, .inr (3, [.ref q_this_land, .ref q_this_text, .int r.2.2.2.1, .int r.2.1, .int r.2.2.2.2.1, .int r.2.2.1])), (q_this_land, .inr (2, [.int land_ways_, .ref q_this_land_starts, .ref q_this_land_homes, v_this_land_hours, v_this_land_froms, v_this_land_tos, v_this_land_bands])), (q_this_land_homes, .inr (7, [.ref q_this_land_homes_values, .int r.2.2.2.2.2.1])), (q_this_land_homes_values, .inl (kI, 5, .inl r.2.2.2.2.2.2.1)), (q_this_land_starts, .inr (7, [.ref q_this_land_starts_values, .int r.2.2.2.2.2.2.2.1])), (q_this_land_starts_values, .inl (kI, 5, .inl r.2.2.2.2.2.2.2.2)), (q_this_text, .inr (7, [.ref q_this_text_values, .int text_size_])), (q_this_text_values, .inl (kI, n_this_text, .inl text_values_))] r.1 := by
  refine q_enterZ cX3_takeOne 2 RX3 (by decide) rfl (Nat.le_of_ble_eq_true rfl) rfl ?_
  intro p e s m args below meth c Q A ls H hx hb hml hown hts hK hN hE hA hP hS hD hl hret
  have hl : lv_has ls 2 [(0, .ref q_this)] := hl
  have h := hf
  rw [g_X3_takeOne] at h
  refine lv_aload_n hx hb dX3_takeOne_0 rfl (lv_at hl 0 rfl) ?_
  refine va_get (D := D) (ci := 3) (C := RX3) (T := TX3) (N := 6) hx hb hts iw_X3_takeOne_X3 hown hK hP 0 rfl rfl 0 (by decide) (hts _ lk_X3_takeOne_0) (fun _ h9 => h9) rfl dX3_takeOne_1 ?_
  refine va_get (D := D) (ci := 2) (C := RX2) (T := TX2) (N := 7) hx hb hts iw_X3_takeOne_X2 hown hK hP 1 rfl rfl 1 (by decide) (hts _ lk_X3_takeOne_1) (fun _ h9 => h9) rfl dX3_takeOne_4 ?_
  obtain ⟨u7, hu7, h⟩ := q_b h
  refine q_aI (va_runV (As := []) (rest := []) ⟨hx, hb, hml, hown, hts⟩ (c_X7_isFull l D E kI kB kQ q_this_land_starts q_this_land_starts_values 5 land_starts_size_ land_starts_values_ N u7 hu7 H.size) (cwV 0 hts gX3_takeOne_X7_isFull rfl rfl rfl vd_X7_isFull ⟨Nat.le_of_ble_eq_true rfl, Nat.le_of_ble_eq_true rfl⟩) (q_pv hK hN hE hS hA hP hD [4, 5] rfl rfl rfl 4 rfl (ci := 7) rfl) rfl rfl hl.1 rfl (lv_room (Nat.le_of_ble_eq_true rfl)) dX3_takeOne_7 ⟨Nat.zero_le _, Nat.zero_le _⟩) hP hD hS hA [4, 5] [0, 1, 2, 3, 6, 7] (Wr := [(q_this, .inr (3, [.ref q_this_land, .ref q_this_text, .int place_, .int next_, .int token_, .int number_])), (q_this_land, .inr (2, [.int land_ways_, .ref q_this_land_starts, .ref q_this_land_homes, v_this_land_hours, v_this_land_froms, v_this_land_tos, v_this_land_bands])), (q_this_land_homes, .inr (7, [.ref q_this_land_homes_values, .int land_homes_size_])), (q_this_land_homes_values, .inl (kI, 5, .inl land_homes_values_)), (q_this_text, .inr (7, [.ref q_this_text_values, .int text_size_])), (q_this_text_values, .inl (kI, n_this_text, .inl text_values_))]) rfl rfl rfl (by decide) (fun H locs hP hD hS => ?_)
  have hP : va_P D vwCl [(q_this, .inr (3, [.ref q_this_land, .ref q_this_text, .int place_, .int next_, .int token_, .int number_])), (q_this_land, .inr (2, [.int land_ways_, .ref q_this_land_starts, .ref q_this_land_homes, v_this_land_hours, v_this_land_froms, v_this_land_tos, v_this_land_bands])), (q_this_land_homes, .inr (7, [.ref q_this_land_homes_values, .int land_homes_size_])), (q_this_land_homes_values, .inl (kI, 5, .inl land_homes_values_)), (q_this_text, .inr (7, [.ref q_this_text_values, .int text_size_])), (q_this_text_values, .inl (kI, n_this_text, .inl text_values_)), (q_this_land_starts, .inr (7, [.ref q_this_land_starts_values, .int land_starts_size_])), (q_this_land_starts_values, .inl (kI, 5, .inl land_starts_values_))] H := hP
  have hD : va_D A [(q_this, .inr (3, [.ref q_this_land, .ref q_this_text, .int place_, .int next_, .int token_, .int number_])), (q_this_land, .inr (2, [.int land_ways_, .ref q_this_land_starts, .ref q_this_land_homes, v_this_land_hours, v_this_land_froms, v_this_land_tos, v_this_land_bands])), (q_this_land_homes, .inr (7, [.ref q_this_land_homes_values, .int land_homes_size_])), (q_this_land_homes_values, .inl (kI, 5, .inl land_homes_values_)), (q_this_text, .inr (7, [.ref q_this_text_values, .int text_size_])), (q_this_text_values, .inl (kI, n_this_text, .inl text_values_)), (q_this_land_starts, .inr (7, [.ref q_this_land_starts_values, .int land_starts_size_])), (q_this_land_starts_values, .inl (kI, 5, .inl land_starts_values_))] := hD
  refine lv_if_ne (tgt := 22) hx hb dX3_takeOne_10 (by decide) (fun c1 => ?_) (fun c1 => ?_)
  · replace h := q_f c1 h
    refine lv_iconst (v := 0) hx hb dX3_takeOne_22 (by decide) ?_
    have er := q_inj h
    subst er
    exact hret _ _ _ _ nar0 (hP.sub [0, 1, 2, 3, 6, 7, 4, 5] rfl) (hD.sub [0, 1, 2, 3, 6, 7, 4, 5] rfl rfl) hS dX3_takeOne_23
  · replace h := q_t c1 h
    refine lv_aload_n hx hb dX3_takeOne_13 rfl (lv_at hl 0 rfl) ?_
    refine lv_iconst (v := 0) hx hb dX3_takeOne_14 (by decide) ?_
    refine lv_iconst (v := 3) hx hb dX3_takeOne_15 (by decide) ?_
    obtain ⟨u16, hu16, h⟩ := q_b h
    refine q_aI (va_runV (As := [.int 0, .int 3]) (rest := []) ⟨hx, hb, hml, hown, hts⟩ (c_X3_takeNumber l D E kI kB kQ q_this q_this_text q_this_text_values (.ref q_this_land) n_this_text place_ next_ token_ number_ text_size_ text_values_ 0 3 N u16 hu16 H.size) (cwV 2 hts gX3_takeOne_X3_takeNumber rfl rfl rfl vd_X3_takeNumber ⟨Nat.le_of_ble_eq_true rfl, Nat.le_of_ble_eq_true rfl⟩) (q_pv hK hN hE hS hA hP hD [0, 4, 5] rfl rfl rfl 0 rfl (ci := 3) rfl) rfl rfl hl.1 rfl (lv_room (Nat.le_of_ble_eq_true rfl)) dX3_takeOne_16 ⟨Nat.zero_le _, Nat.zero_le _⟩) hP hD hS hA [0, 4, 5] [1, 2, 3, 6, 7] (Wr := [(q_this_land, .inr (2, [.int land_ways_, .ref q_this_land_starts, .ref q_this_land_homes, v_this_land_hours, v_this_land_froms, v_this_land_tos, v_this_land_bands])), (q_this_land_homes, .inr (7, [.ref q_this_land_homes_values, .int land_homes_size_])), (q_this_land_homes_values, .inl (kI, 5, .inl land_homes_values_)), (q_this_land_starts, .inr (7, [.ref q_this_land_starts_values, .int land_starts_size_])), (q_this_land_starts_values, .inl (kI, 5, .inl land_starts_values_))]) rfl rfl rfl (by decide) (fun H locs hP hD hS => ?_)
    have hP : va_P D vwCl [(q_this_land, .inr (2, [.int land_ways_, .ref q_this_land_starts, .ref q_this_land_homes, v_this_land_hours, v_this_land_froms, v_this_land_tos, v_this_land_bands])), (q_this_land_homes, .inr (7, [.ref q_this_land_homes_values, .int land_homes_size_])), (q_this_land_homes_values, .inl (kI, 5, .inl land_homes_values_)), (q_this_land_starts, .inr (7, [.ref q_this_land_starts_values, .int land_starts_size_])), (q_this_land_starts_values, .inl (kI, 5, .inl land_starts_values_)), (q_this, .inr (3, [.ref q_this_land, .ref q_this_text, .int u16.2.2.2.1, .int u16.2.1, .int u16.2.2.2.2, .int u16.2.2.1])), (q_this_text, .inr (7, [.ref q_this_text_values, .int text_size_])), (q_this_text_values, .inl (kI, n_this_text, .inl text_values_))] H := hP
    have hD : va_D A [(q_this_land, .inr (2, [.int land_ways_, .ref q_this_land_starts, .ref q_this_land_homes, v_this_land_hours, v_this_land_froms, v_this_land_tos, v_this_land_bands])), (q_this_land_homes, .inr (7, [.ref q_this_land_homes_values, .int land_homes_size_])), (q_this_land_homes_values, .inl (kI, 5, .inl land_homes_values_)), (q_this_land_starts, .inr (7, [.ref q_this_land_starts_values, .int land_starts_size_])), (q_this_land_starts_values, .inl (kI, 5, .inl land_starts_values_)), (q_this, .inr (3, [.ref q_this_land, .ref q_this_text, .int u16.2.2.2.1, .int u16.2.1, .int u16.2.2.2.2, .int u16.2.2.1])), (q_this_text, .inr (7, [.ref q_this_text_values, .int text_size_])), (q_this_text_values, .inl (kI, n_this_text, .inl text_values_))] := hD
    refine lv_if_ne (tgt := 24) hx hb dX3_takeOne_19 (by decide) (fun c2 => ?_) (fun c2 => ?_)
    · replace h := q_f c2 h
      refine lv_aload_n hx hb dX3_takeOne_24 rfl (lv_at hl 0 rfl) ?_
      refine va_get (D := D) (ci := 3) (C := RX3) (T := TX3) (N := 6) hx hb hts iw_X3_takeOne_X3 hown hK hP 5 rfl rfl 5 (by decide) (hts _ lk_X3_takeOne_2) (fun _ h9 => h9) rfl dX3_takeOne_25 ?_
      refine lv_istore_n (lv' := [(1, .int u16.2.2.1), (0, .ref q_this)]) hx hb dX3_takeOne_28 rfl hl (by decide) rfl (fun ls hl => ?_)
      refine lv_aload_n hx hb dX3_takeOne_29 rfl (lv_at hl 1 rfl) ?_
      refine lv_iconst (v := 0) hx hb dX3_takeOne_30 (by decide) ?_
      refine lv_iconst (v := 3) hx hb dX3_takeOne_31 (by decide) ?_
      obtain ⟨u32, hu32, h⟩ := q_b h
      refine q_aI (va_runV (As := [.int 0, .int 3]) (rest := []) ⟨hx, hb, hml, hown, hts⟩ (c_X3_takeNumber l D E kI kB kQ q_this q_this_text q_this_text_values (.ref q_this_land) n_this_text u16.2.2.2.1 u16.2.1 u16.2.2.2.2 u16.2.2.1 text_size_ text_values_ 0 3 N u32 hu32 H.size) (cwV 2 hts gX3_takeOne_X3_takeNumber rfl rfl rfl vd_X3_takeNumber ⟨Nat.le_of_ble_eq_true rfl, Nat.le_of_ble_eq_true rfl⟩) (q_pv hK hN hE hS hA hP hD [5, 6, 7] rfl rfl rfl 5 rfl (ci := 3) rfl) rfl rfl hl.1 rfl (lv_room (Nat.le_of_ble_eq_true rfl)) dX3_takeOne_32 ⟨Nat.zero_le _, Nat.zero_le _⟩) hP hD hS hA [5, 6, 7] [0, 1, 2, 3, 4] (Wr := [(q_this_land, .inr (2, [.int land_ways_, .ref q_this_land_starts, .ref q_this_land_homes, v_this_land_hours, v_this_land_froms, v_this_land_tos, v_this_land_bands])), (q_this_land_homes, .inr (7, [.ref q_this_land_homes_values, .int land_homes_size_])), (q_this_land_homes_values, .inl (kI, 5, .inl land_homes_values_)), (q_this_land_starts, .inr (7, [.ref q_this_land_starts_values, .int land_starts_size_])), (q_this_land_starts_values, .inl (kI, 5, .inl land_starts_values_))]) rfl rfl rfl (by decide) (fun H locs hP hD hS => ?_)
      have hP : va_P D vwCl [(q_this_land, .inr (2, [.int land_ways_, .ref q_this_land_starts, .ref q_this_land_homes, v_this_land_hours, v_this_land_froms, v_this_land_tos, v_this_land_bands])), (q_this_land_homes, .inr (7, [.ref q_this_land_homes_values, .int land_homes_size_])), (q_this_land_homes_values, .inl (kI, 5, .inl land_homes_values_)), (q_this_land_starts, .inr (7, [.ref q_this_land_starts_values, .int land_starts_size_])), (q_this_land_starts_values, .inl (kI, 5, .inl land_starts_values_)), (q_this, .inr (3, [.ref q_this_land, .ref q_this_text, .int u32.2.2.2.1, .int u32.2.1, .int u32.2.2.2.2, .int u32.2.2.1])), (q_this_text, .inr (7, [.ref q_this_text_values, .int text_size_])), (q_this_text_values, .inl (kI, n_this_text, .inl text_values_))] H := hP
      have hD : va_D A [(q_this_land, .inr (2, [.int land_ways_, .ref q_this_land_starts, .ref q_this_land_homes, v_this_land_hours, v_this_land_froms, v_this_land_tos, v_this_land_bands])), (q_this_land_homes, .inr (7, [.ref q_this_land_homes_values, .int land_homes_size_])), (q_this_land_homes_values, .inl (kI, 5, .inl land_homes_values_)), (q_this_land_starts, .inr (7, [.ref q_this_land_starts_values, .int land_starts_size_])), (q_this_land_starts_values, .inl (kI, 5, .inl land_starts_values_)), (q_this, .inr (3, [.ref q_this_land, .ref q_this_text, .int u32.2.2.2.1, .int u32.2.1, .int u32.2.2.2.2, .int u32.2.2.1])), (q_this_text, .inr (7, [.ref q_this_text_values, .int text_size_])), (q_this_text_values, .inl (kI, n_this_text, .inl text_values_))] := hD
      refine lv_if_ne (tgt := 40) hx hb dX3_takeOne_35 (by decide) (fun c3 => ?_) (fun c3 => ?_)
      · replace h := q_f c3 h
        refine lv_aload_n hx hb dX3_takeOne_40 rfl (lv_at hl 1 rfl) ?_
        refine va_get (D := D) (ci := 3) (C := RX3) (T := TX3) (N := 6) hx hb hts iw_X3_takeOne_X3 hown hK hP 5 rfl rfl 0 (by decide) (hts _ lk_X3_takeOne_0) (fun _ h9 => h9) rfl dX3_takeOne_41 ?_
        refine lv_iload_n hx hb dX3_takeOne_44 rfl (lv_at hl 0 rfl) ?_
        refine lv_aload_n hx hb dX3_takeOne_45 rfl (lv_at hl 1 rfl) ?_
        refine va_get (D := D) (ci := 3) (C := RX3) (T := TX3) (N := 6) hx hb hts iw_X3_takeOne_X3 hown hK hP 5 rfl rfl 5 (by decide) (hts _ lk_X3_takeOne_2) (fun _ h9 => h9) rfl dX3_takeOne_46 ?_
        obtain ⟨u49, hu49, h⟩ := q_b h
        refine q_aV (va_runV (As := [.int u16.2.2.1, .int u32.2.2.1]) (rest := []) ⟨hx, hb, hml, hown, hts⟩ (c_X2_addPerson l D E kI kB kQ q_this_land q_this_land_homes q_this_land_homes_values q_this_land_starts q_this_land_starts_values v_this_land_hours v_this_land_froms v_this_land_tos v_this_land_bands land_ways_ land_homes_size_ land_homes_values_ land_starts_size_ land_starts_values_ u16.2.2.1 u32.2.2.1 N u49 hu49 H.size) (cwV 2 hts gX3_takeOne_X2_addPerson rfl rfl rfl vd_X2_addPerson ⟨Nat.le_of_ble_eq_true rfl, Nat.le_of_ble_eq_true rfl⟩) (q_pv hK hN hE hS hA hP hD [0, 1, 2, 3, 4] rfl rfl rfl 0 rfl (ci := 2) rfl) rfl rfl hl.1 rfl (lv_room (Nat.le_of_ble_eq_true rfl)) dX3_takeOne_49 ⟨Nat.zero_le _, Nat.zero_le _⟩) hP hD hS hA [0, 1, 2, 3, 4] [5, 6, 7] (Wr := [(q_this, .inr (3, [.ref q_this_land, .ref q_this_text, .int u32.2.2.2.1, .int u32.2.1, .int u32.2.2.2.2, .int u32.2.2.1])), (q_this_text, .inr (7, [.ref q_this_text_values, .int text_size_])), (q_this_text_values, .inl (kI, n_this_text, .inl text_values_))]) rfl rfl rfl (by decide) (fun H locs hP hD hS => ?_)
        have hP : va_P D vwCl [(q_this, .inr (3, [.ref q_this_land, .ref q_this_text, .int u32.2.2.2.1, .int u32.2.1, .int u32.2.2.2.2, .int u32.2.2.1])), (q_this_text, .inr (7, [.ref q_this_text_values, .int text_size_])), (q_this_text_values, .inl (kI, n_this_text, .inl text_values_)), (q_this_land, .inr (2, [.int land_ways_, .ref q_this_land_starts, .ref q_this_land_homes, v_this_land_hours, v_this_land_froms, v_this_land_tos, v_this_land_bands])), (q_this_land_homes, .inr (7, [.ref q_this_land_homes_values, .int u49.1])), (q_this_land_homes_values, .inl (kI, 5, .inl u49.2.1)), (q_this_land_starts, .inr (7, [.ref q_this_land_starts_values, .int u49.2.2.1])), (q_this_land_starts_values, .inl (kI, 5, .inl u49.2.2.2))] H := hP
        have hD : va_D A [(q_this, .inr (3, [.ref q_this_land, .ref q_this_text, .int u32.2.2.2.1, .int u32.2.1, .int u32.2.2.2.2, .int u32.2.2.1])), (q_this_text, .inr (7, [.ref q_this_text_values, .int text_size_])), (q_this_text_values, .inl (kI, n_this_text, .inl text_values_)), (q_this_land, .inr (2, [.int land_ways_, .ref q_this_land_starts, .ref q_this_land_homes, v_this_land_hours, v_this_land_froms, v_this_land_tos, v_this_land_bands])), (q_this_land_homes, .inr (7, [.ref q_this_land_homes_values, .int u49.1])), (q_this_land_homes_values, .inl (kI, 5, .inl u49.2.1)), (q_this_land_starts, .inr (7, [.ref q_this_land_starts_values, .int u49.2.2.1])), (q_this_land_starts_values, .inl (kI, 5, .inl u49.2.2.2))] := hD
        refine lv_aload_n hx hb dX3_takeOne_52 rfl (lv_at hl 1 rfl) ?_
        obtain ⟨u53, hu53, h⟩ := q_b h
        refine q_aI (va_runV (As := []) (rest := []) ⟨hx, hb, hml, hown, hts⟩ (c_X3_takeStop l D E kI kB kQ q_this q_this_text q_this_text_values (.ref q_this_land) n_this_text u32.2.2.2.1 u32.2.1 u32.2.2.2.2 u32.2.2.1 text_size_ text_values_ N u53 hu53 H.size) (cwV 0 hts gX3_takeOne_X3_takeStop rfl rfl rfl vd_X3_takeStop ⟨Nat.le_of_ble_eq_true rfl, Nat.le_of_ble_eq_true rfl⟩) (q_pv hK hN hE hS hA hP hD [0, 1, 2] rfl rfl rfl 0 rfl (ci := 3) rfl) rfl rfl hl.1 rfl (lv_room (Nat.le_of_ble_eq_true rfl)) dX3_takeOne_53 ⟨Nat.zero_le _, Nat.zero_le _⟩) hP hD hS hA [0, 1, 2] [3, 4, 5, 6, 7] (Wr := [(q_this_land, .inr (2, [.int land_ways_, .ref q_this_land_starts, .ref q_this_land_homes, v_this_land_hours, v_this_land_froms, v_this_land_tos, v_this_land_bands])), (q_this_land_homes, .inr (7, [.ref q_this_land_homes_values, .int u49.1])), (q_this_land_homes_values, .inl (kI, 5, .inl u49.2.1)), (q_this_land_starts, .inr (7, [.ref q_this_land_starts_values, .int u49.2.2.1])), (q_this_land_starts_values, .inl (kI, 5, .inl u49.2.2.2))]) rfl rfl rfl (by decide) (fun H locs hP hD hS => ?_)
        have hP : va_P D vwCl [(q_this_land, .inr (2, [.int land_ways_, .ref q_this_land_starts, .ref q_this_land_homes, v_this_land_hours, v_this_land_froms, v_this_land_tos, v_this_land_bands])), (q_this_land_homes, .inr (7, [.ref q_this_land_homes_values, .int u49.1])), (q_this_land_homes_values, .inl (kI, 5, .inl u49.2.1)), (q_this_land_starts, .inr (7, [.ref q_this_land_starts_values, .int u49.2.2.1])), (q_this_land_starts_values, .inl (kI, 5, .inl u49.2.2.2)), (q_this, .inr (3, [.ref q_this_land, .ref q_this_text, .int u53.2.2.2.1, .int u53.2.1, .int u53.2.2.2.2, .int u53.2.2.1])), (q_this_text, .inr (7, [.ref q_this_text_values, .int text_size_])), (q_this_text_values, .inl (kI, n_this_text, .inl text_values_))] H := hP
        have hD : va_D A [(q_this_land, .inr (2, [.int land_ways_, .ref q_this_land_starts, .ref q_this_land_homes, v_this_land_hours, v_this_land_froms, v_this_land_tos, v_this_land_bands])), (q_this_land_homes, .inr (7, [.ref q_this_land_homes_values, .int u49.1])), (q_this_land_homes_values, .inl (kI, 5, .inl u49.2.1)), (q_this_land_starts, .inr (7, [.ref q_this_land_starts_values, .int u49.2.2.1])), (q_this_land_starts_values, .inl (kI, 5, .inl u49.2.2.2)), (q_this, .inr (3, [.ref q_this_land, .ref q_this_text, .int u53.2.2.2.1, .int u53.2.1, .int u53.2.2.2.2, .int u53.2.2.1])), (q_this_text, .inr (7, [.ref q_this_text_values, .int text_size_])), (q_this_text_values, .inl (kI, n_this_text, .inl text_values_))] := hD
        obtain ⟨hg4, h⟩ := q_g h
        have er := q_inj h
        subst er
        exact hret _ _ _ _ (zb_nar hg4) (hP.sub [5, 0, 1, 2, 3, 4, 6, 7] rfl) (hD.sub [5, 0, 1, 2, 3, 4, 6, 7] rfl rfl) hS dX3_takeOne_56
      · replace h := q_t c3 h
        refine lv_iconst (v := 0) hx hb dX3_takeOne_38 (by decide) ?_
        have er := q_inj h
        subst er
        exact hret _ _ _ _ nar0 (hP.sub [5, 0, 1, 2, 3, 4, 6, 7] rfl) (hD.sub [5, 0, 1, 2, 3, 4, 6, 7] rfl rfl) hS dX3_takeOne_39
    · replace h := q_t c2 h
      refine lv_iconst (v := 0) hx hb dX3_takeOne_22 (by decide) ?_
      have er := q_inj h
      subst er
      exact hret _ _ _ _ nar0 (hP.sub [5, 0, 1, 2, 3, 4, 6, 7] rfl) (hD.sub [5, 0, 1, 2, 3, 4, 6, 7] rfl rfl) hS dX3_takeOne_23
abbrev rm_X3_takeWay : Room := { frames := 7, cells := 0, slots := 0, locals := 149 }
theorem lk_X3_takeWay_0 : Cond.fieldLink RX3 61 "OnlyPrimes$Reader" "number" "I" ∈ wsX3_takeWay := List.mem_of_getElem? (i := 1) (by decide +kernel)
theorem iw_X3_takeWay_X3 : ∀ w ∈ wsX30, w ∈ wsX3_takeWay := by decide +kernel
theorem lk_X3_takeWay_1 : Cond.fieldLink RX3 12 "OnlyPrimes$Reader" "land" "LOnlyPrimes$Land;" ∈ wsX3_takeWay := List.mem_of_getElem? (i := 2) (by decide +kernel)
theorem nd_X3_takeWay : yX3_takeWay.cls ≠ "java/lang/invoke/MethodHandle" ∧ yX3_takeWay.cls ≠ "java/lang/invoke/VarHandle" ∧ (parseMethodDescriptor yX3_takeWay.desc).map (fun d => d.parameters.length) = some 0 := by decide +kernel
theorem vd_X3_takeWay : yX3_takeWay.cls = RX3 ∧ yX3_takeWay.cls ≠ "java/lang/invoke/MethodHandle" ∧ yX3_takeWay.cls ≠ "java/lang/invoke/VarHandle" ∧ (parseMethodDescriptor yX3_takeWay.desc).map (fun d => d.parameters.length) = some 0 := by decide +kernel
set_option maxHeartbeats 4000000 in
set_option maxRecDepth 100000 in
theorem c_X3_takeWay (l : Launch) (D : va_G) (E : q_En) (kI kB kQ : ClassId) (q_this : Nat) (q_this_land : Nat) (q_this_text : Nat) (q_this_text_values : Nat) (v_this_land_starts : Value) (v_this_land_homes : Value) (v_this_land_hours : Value) (v_this_land_froms : Value) (v_this_land_tos : Value) (v_this_land_bands : Value) (n_this_text : Nat) (place_ : Int32) (next_ : Int32) (token_ : Int32) (number_ : Int32) (land_ways_ : Int32) (text_size_ : Int32) (text_values_ : Nat → Int32) (N : Nat) (r : Int32 × Int32 × Int32 × Int32 × Int32 × Int32) (hf : g_X3_takeWay N n_this_text next_ token_ number_ land_ways_ text_size_ text_values_ = some r) : CtI l D E yX3_takeWay wsX3_takeWay rm_X3_takeWay (q_tys kI kB kQ) [.ref q_this] [(q_this, .inr (3, [.ref q_this_land, .ref q_this_text, .int place_, .int next_, .int token_, .int number_])), (q_this_land, .inr (2, [.int land_ways_, v_this_land_starts, v_this_land_homes, v_this_land_hours, v_this_land_froms, v_this_land_tos, v_this_land_bands])), (q_this_text, .inr (7, [.ref q_this_text_values, .int text_size_])), (q_this_text_values, .inl (kI, n_this_text, .inl text_values_))] [(q_this, .inr (3, [.ref q_this_land, .ref q_this_text, .int r.2.2.2.1, .int r.2.1, .int r.2.2.2.2.1, .int r.2.2.1])), (q_this_land, .inr (2, [.int r.2.2.2.2.2, v_this_land_starts, v_this_land_homes, v_this_land_hours, v_this_land_froms, v_this_land_tos, v_this_land_bands])), (q_this_text, .inr (7, [.ref q_this_text_values, .int text_size_])), (q_this_text_values, .inl (kI, n_this_text, .inl text_values_))] r.1 := by
  refine q_enterZ cX3_takeWay 2 RX3 (by decide) rfl (Nat.le_of_ble_eq_true rfl) rfl ?_
  intro p e s m args below meth c Q A ls H hx hb hml hown hts hK hN hE hA hP hS hD hl hret
  have hl : lv_has ls 2 [(0, .ref q_this)] := hl
  have h := hf
  rw [g_X3_takeWay] at h
  refine lv_aload_n hx hb dX3_takeWay_0 rfl (lv_at hl 0 rfl) ?_
  refine lv_iconst (v := 0) hx hb dX3_takeWay_1 (by decide) ?_
  refine lv_iconst (v := 3) hx hb dX3_takeWay_2 (by decide) ?_
  obtain ⟨u3, hu3, h⟩ := q_b h
  refine q_aI (va_runV (As := [.int 0, .int 3]) (rest := []) ⟨hx, hb, hml, hown, hts⟩ (c_X3_takeNumber l D E kI kB kQ q_this q_this_text q_this_text_values (.ref q_this_land) n_this_text place_ next_ token_ number_ text_size_ text_values_ 0 3 N u3 hu3 H.size) (cwV 2 hts gX3_takeWay_X3_takeNumber rfl rfl rfl vd_X3_takeNumber ⟨Nat.le_of_ble_eq_true rfl, Nat.le_of_ble_eq_true rfl⟩) (q_pv hK hN hE hS hA hP hD [0, 2, 3] rfl rfl rfl 0 rfl (ci := 3) rfl) rfl rfl hl.1 rfl (lv_room (Nat.le_of_ble_eq_true rfl)) dX3_takeWay_3 ⟨Nat.zero_le _, Nat.zero_le _⟩) hP hD hS hA [0, 2, 3] [1] (Wr := [(q_this_land, .inr (2, [.int land_ways_, v_this_land_starts, v_this_land_homes, v_this_land_hours, v_this_land_froms, v_this_land_tos, v_this_land_bands]))]) rfl rfl rfl (by decide) (fun H locs hP hD hS => ?_)
  have hP : va_P D vwCl [(q_this_land, .inr (2, [.int land_ways_, v_this_land_starts, v_this_land_homes, v_this_land_hours, v_this_land_froms, v_this_land_tos, v_this_land_bands])), (q_this, .inr (3, [.ref q_this_land, .ref q_this_text, .int u3.2.2.2.1, .int u3.2.1, .int u3.2.2.2.2, .int u3.2.2.1])), (q_this_text, .inr (7, [.ref q_this_text_values, .int text_size_])), (q_this_text_values, .inl (kI, n_this_text, .inl text_values_))] H := hP
  have hD : va_D A [(q_this_land, .inr (2, [.int land_ways_, v_this_land_starts, v_this_land_homes, v_this_land_hours, v_this_land_froms, v_this_land_tos, v_this_land_bands])), (q_this, .inr (3, [.ref q_this_land, .ref q_this_text, .int u3.2.2.2.1, .int u3.2.1, .int u3.2.2.2.2, .int u3.2.2.1])), (q_this_text, .inr (7, [.ref q_this_text_values, .int text_size_])), (q_this_text_values, .inl (kI, n_this_text, .inl text_values_))] := hD
  refine lv_if_ne (tgt := 11) hx hb dX3_takeWay_6 (by decide) (fun c1 => ?_) (fun c1 => ?_)
  · replace h := q_f c1 h
    refine lv_aload_n hx hb dX3_takeWay_11 rfl (lv_at hl 0 rfl) ?_
    refine va_get (D := D) (ci := 3) (C := RX3) (T := TX3) (N := 6) hx hb hts iw_X3_takeWay_X3 hown hK hP 1 rfl rfl 5 (by decide) (hts _ lk_X3_takeWay_0) (fun _ h9 => h9) rfl dX3_takeWay_12 ?_
    refine lv_istore_n (lv' := [(1, .int u3.2.2.1), (0, .ref q_this)]) hx hb dX3_takeWay_15 rfl hl (by decide) rfl (fun ls hl => ?_)
    refine lv_aload_n hx hb dX3_takeWay_16 rfl (lv_at hl 1 rfl) ?_
    refine lv_iconst (v := 0) hx hb dX3_takeWay_17 (by decide) ?_
    refine lv_iconst (v := 3) hx hb dX3_takeWay_18 (by decide) ?_
    obtain ⟨u19, hu19, h⟩ := q_b h
    refine q_aI (va_runV (As := [.int 0, .int 3]) (rest := []) ⟨hx, hb, hml, hown, hts⟩ (c_X3_takeNumber l D E kI kB kQ q_this q_this_text q_this_text_values (.ref q_this_land) n_this_text u3.2.2.2.1 u3.2.1 u3.2.2.2.2 u3.2.2.1 text_size_ text_values_ 0 3 N u19 hu19 H.size) (cwV 2 hts gX3_takeWay_X3_takeNumber rfl rfl rfl vd_X3_takeNumber ⟨Nat.le_of_ble_eq_true rfl, Nat.le_of_ble_eq_true rfl⟩) (q_pv hK hN hE hS hA hP hD [1, 2, 3] rfl rfl rfl 1 rfl (ci := 3) rfl) rfl rfl hl.1 rfl (lv_room (Nat.le_of_ble_eq_true rfl)) dX3_takeWay_19 ⟨Nat.zero_le _, Nat.zero_le _⟩) hP hD hS hA [1, 2, 3] [0] (Wr := [(q_this_land, .inr (2, [.int land_ways_, v_this_land_starts, v_this_land_homes, v_this_land_hours, v_this_land_froms, v_this_land_tos, v_this_land_bands]))]) rfl rfl rfl (by decide) (fun H locs hP hD hS => ?_)
    have hP : va_P D vwCl [(q_this_land, .inr (2, [.int land_ways_, v_this_land_starts, v_this_land_homes, v_this_land_hours, v_this_land_froms, v_this_land_tos, v_this_land_bands])), (q_this, .inr (3, [.ref q_this_land, .ref q_this_text, .int u19.2.2.2.1, .int u19.2.1, .int u19.2.2.2.2, .int u19.2.2.1])), (q_this_text, .inr (7, [.ref q_this_text_values, .int text_size_])), (q_this_text_values, .inl (kI, n_this_text, .inl text_values_))] H := hP
    have hD : va_D A [(q_this_land, .inr (2, [.int land_ways_, v_this_land_starts, v_this_land_homes, v_this_land_hours, v_this_land_froms, v_this_land_tos, v_this_land_bands])), (q_this, .inr (3, [.ref q_this_land, .ref q_this_text, .int u19.2.2.2.1, .int u19.2.1, .int u19.2.2.2.2, .int u19.2.2.1])), (q_this_text, .inr (7, [.ref q_this_text_values, .int text_size_])), (q_this_text_values, .inl (kI, n_this_text, .inl text_values_))] := hD
    refine lv_if_eq (tgt := 48) hx hb dX3_takeWay_22 (by decide) (fun c2 => ?_) (fun c2 => ?_)
    · replace h := q_t c2 h
      refine lv_iconst (v := 0) hx hb dX3_takeWay_48 (by decide) ?_
      have er := q_inj h
      subst er
      exact hret _ _ _ _ nar0 (hP.sub [1, 0, 2, 3] rfl) (hD.sub [1, 0, 2, 3] rfl rfl) hS dX3_takeWay_49
    · replace h := q_f c2 h
      refine lv_aload_n hx hb dX3_takeWay_25 rfl (lv_at hl 1 rfl) ?_
      refine va_get (D := D) (ci := 3) (C := RX3) (T := TX3) (N := 6) hx hb hts iw_X3_takeWay_X3 hown hK hP 1 rfl rfl 5 (by decide) (hts _ lk_X3_takeWay_0) (fun _ h9 => h9) rfl dX3_takeWay_26 ?_
      refine lv_iload_n hx hb dX3_takeWay_29 rfl (lv_at hl 0 rfl) ?_
      refine lv_icmp_eq (tgt := 48) hx hb dX3_takeWay_30 (by decide) (fun c3 => ?_) (fun c3 => ?_)
      · replace h := q_t c3 h
        refine lv_iconst (v := 0) hx hb dX3_takeWay_48 (by decide) ?_
        have er := q_inj h
        subst er
        exact hret _ _ _ _ nar0 (hP.sub [1, 0, 2, 3] rfl) (hD.sub [1, 0, 2, 3] rfl rfl) hS dX3_takeWay_49
      · replace h := q_f c3 h
        refine lv_aload_n hx hb dX3_takeWay_33 rfl (lv_at hl 1 rfl) ?_
        refine va_get (D := D) (ci := 3) (C := RX3) (T := TX3) (N := 6) hx hb hts iw_X3_takeWay_X3 hown hK hP 1 rfl rfl 0 (by decide) (hts _ lk_X3_takeWay_1) (fun _ h9 => h9) rfl dX3_takeWay_34 ?_
        refine lv_iload_n hx hb dX3_takeWay_37 rfl (lv_at hl 0 rfl) ?_
        refine lv_aload_n hx hb dX3_takeWay_38 rfl (lv_at hl 1 rfl) ?_
        refine va_get (D := D) (ci := 3) (C := RX3) (T := TX3) (N := 6) hx hb hts iw_X3_takeWay_X3 hown hK hP 1 rfl rfl 5 (by decide) (hts _ lk_X3_takeWay_0) (fun _ h9 => h9) rfl dX3_takeWay_39 ?_
        obtain ⟨u42, hu42, h⟩ := q_b h
        refine q_aI (va_runV (As := [.int u3.2.2.1, .int u19.2.2.1]) (rest := []) ⟨hx, hb, hml, hown, hts⟩ (c_X2_hasWay l D E kI kB kQ q_this_land v_this_land_starts v_this_land_homes v_this_land_hours v_this_land_froms v_this_land_tos v_this_land_bands land_ways_ u3.2.2.1 u19.2.2.1 N u42 hu42 H.size) (cwV 2 hts gX3_takeWay_X2_hasWay rfl rfl rfl vd_X2_hasWay ⟨Nat.le_of_ble_eq_true rfl, Nat.le_of_ble_eq_true rfl⟩) (q_pv hK hN hE hS hA hP hD [0] rfl rfl rfl 0 rfl (ci := 2) rfl) rfl rfl hl.1 rfl (lv_room (Nat.le_of_ble_eq_true rfl)) dX3_takeWay_42 ⟨Nat.zero_le _, Nat.zero_le _⟩) hP hD hS hA [0] [1, 2, 3] (Wr := [(q_this, .inr (3, [.ref q_this_land, .ref q_this_text, .int u19.2.2.2.1, .int u19.2.1, .int u19.2.2.2.2, .int u19.2.2.1])), (q_this_text, .inr (7, [.ref q_this_text_values, .int text_size_])), (q_this_text_values, .inl (kI, n_this_text, .inl text_values_))]) rfl rfl rfl (by decide) (fun H locs hP hD hS => ?_)
        have hP : va_P D vwCl [(q_this, .inr (3, [.ref q_this_land, .ref q_this_text, .int u19.2.2.2.1, .int u19.2.1, .int u19.2.2.2.2, .int u19.2.2.1])), (q_this_text, .inr (7, [.ref q_this_text_values, .int text_size_])), (q_this_text_values, .inl (kI, n_this_text, .inl text_values_)), (q_this_land, .inr (2, [.int land_ways_, v_this_land_starts, v_this_land_homes, v_this_land_hours, v_this_land_froms, v_this_land_tos, v_this_land_bands]))] H := hP
        have hD : va_D A [(q_this, .inr (3, [.ref q_this_land, .ref q_this_text, .int u19.2.2.2.1, .int u19.2.1, .int u19.2.2.2.2, .int u19.2.2.1])), (q_this_text, .inr (7, [.ref q_this_text_values, .int text_size_])), (q_this_text_values, .inl (kI, n_this_text, .inl text_values_)), (q_this_land, .inr (2, [.int land_ways_, v_this_land_starts, v_this_land_homes, v_this_land_hours, v_this_land_froms, v_this_land_tos, v_this_land_bands]))] := hD
        refine lv_if_eq (tgt := 50) hx hb dX3_takeWay_45 (by decide) (fun c4 => ?_) (fun c4 => ?_)
        · replace h := q_t c4 h
          refine lv_aload_n hx hb dX3_takeWay_50 rfl (lv_at hl 1 rfl) ?_
          refine va_get (D := D) (ci := 3) (C := RX3) (T := TX3) (N := 6) hx hb hts iw_X3_takeWay_X3 hown hK hP 0 rfl rfl 0 (by decide) (hts _ lk_X3_takeWay_1) (fun _ h9 => h9) rfl dX3_takeWay_51 ?_
          refine lv_iload_n hx hb dX3_takeWay_54 rfl (lv_at hl 0 rfl) ?_
          refine lv_aload_n hx hb dX3_takeWay_55 rfl (lv_at hl 1 rfl) ?_
          refine va_get (D := D) (ci := 3) (C := RX3) (T := TX3) (N := 6) hx hb hts iw_X3_takeWay_X3 hown hK hP 0 rfl rfl 5 (by decide) (hts _ lk_X3_takeWay_0) (fun _ h9 => h9) rfl dX3_takeWay_56 ?_
          refine lv_iconst (v := 1) hx hb dX3_takeWay_59 (by decide) ?_
          obtain ⟨u60, hu60, h⟩ := q_b h
          refine q_aV (va_runV (As := [.int u3.2.2.1, .int u19.2.2.1, .int 1]) (rest := []) ⟨hx, hb, hml, hown, hts⟩ (c_X2_setWay l D E kI kB kQ q_this_land v_this_land_starts v_this_land_homes v_this_land_hours v_this_land_froms v_this_land_tos v_this_land_bands land_ways_ u3.2.2.1 u19.2.2.1 1 N u60 hu60 H.size) (cwV 3 hts gX3_takeWay_X2_setWay rfl rfl rfl vd_X2_setWay ⟨Nat.le_of_ble_eq_true rfl, Nat.le_of_ble_eq_true rfl⟩) (q_pv hK hN hE hS hA hP hD [3] rfl rfl rfl 3 rfl (ci := 2) rfl) rfl rfl hl.1 rfl (lv_room (Nat.le_of_ble_eq_true rfl)) dX3_takeWay_60 ⟨Nat.zero_le _, Nat.zero_le _⟩) hP hD hS hA [3] [0, 1, 2] (Wr := [(q_this, .inr (3, [.ref q_this_land, .ref q_this_text, .int u19.2.2.2.1, .int u19.2.1, .int u19.2.2.2.2, .int u19.2.2.1])), (q_this_text, .inr (7, [.ref q_this_text_values, .int text_size_])), (q_this_text_values, .inl (kI, n_this_text, .inl text_values_))]) rfl rfl rfl (by decide) (fun H locs hP hD hS => ?_)
          have hP : va_P D vwCl [(q_this, .inr (3, [.ref q_this_land, .ref q_this_text, .int u19.2.2.2.1, .int u19.2.1, .int u19.2.2.2.2, .int u19.2.2.1])), (q_this_text, .inr (7, [.ref q_this_text_values, .int text_size_])), (q_this_text_values, .inl (kI, n_this_text, .inl text_values_)), (q_this_land, .inr (2, [.int u60, v_this_land_starts, v_this_land_homes, v_this_land_hours, v_this_land_froms, v_this_land_tos, v_this_land_bands]))] H := hP
          have hD : va_D A [(q_this, .inr (3, [.ref q_this_land, .ref q_this_text, .int u19.2.2.2.1, .int u19.2.1, .int u19.2.2.2.2, .int u19.2.2.1])), (q_this_text, .inr (7, [.ref q_this_text_values, .int text_size_])), (q_this_text_values, .inl (kI, n_this_text, .inl text_values_)), (q_this_land, .inr (2, [.int u60, v_this_land_starts, v_this_land_homes, v_this_land_hours, v_this_land_froms, v_this_land_tos, v_this_land_bands]))] := hD
          refine lv_aload_n hx hb dX3_takeWay_63 rfl (lv_at hl 1 rfl) ?_
          obtain ⟨u64, hu64, h⟩ := q_b h
          refine q_aI (va_runV (As := []) (rest := []) ⟨hx, hb, hml, hown, hts⟩ (c_X3_takeStop l D E kI kB kQ q_this q_this_text q_this_text_values (.ref q_this_land) n_this_text u19.2.2.2.1 u19.2.1 u19.2.2.2.2 u19.2.2.1 text_size_ text_values_ N u64 hu64 H.size) (cwV 0 hts gX3_takeWay_X3_takeStop rfl rfl rfl vd_X3_takeStop ⟨Nat.le_of_ble_eq_true rfl, Nat.le_of_ble_eq_true rfl⟩) (q_pv hK hN hE hS hA hP hD [0, 1, 2] rfl rfl rfl 0 rfl (ci := 3) rfl) rfl rfl hl.1 rfl (lv_room (Nat.le_of_ble_eq_true rfl)) dX3_takeWay_64 ⟨Nat.zero_le _, Nat.zero_le _⟩) hP hD hS hA [0, 1, 2] [3] (Wr := [(q_this_land, .inr (2, [.int u60, v_this_land_starts, v_this_land_homes, v_this_land_hours, v_this_land_froms, v_this_land_tos, v_this_land_bands]))]) rfl rfl rfl (by decide) (fun H locs hP hD hS => ?_)
          have hP : va_P D vwCl [(q_this_land, .inr (2, [.int u60, v_this_land_starts, v_this_land_homes, v_this_land_hours, v_this_land_froms, v_this_land_tos, v_this_land_bands])), (q_this, .inr (3, [.ref q_this_land, .ref q_this_text, .int u64.2.2.2.1, .int u64.2.1, .int u64.2.2.2.2, .int u64.2.2.1])), (q_this_text, .inr (7, [.ref q_this_text_values, .int text_size_])), (q_this_text_values, .inl (kI, n_this_text, .inl text_values_))] H := hP
          have hD : va_D A [(q_this_land, .inr (2, [.int u60, v_this_land_starts, v_this_land_homes, v_this_land_hours, v_this_land_froms, v_this_land_tos, v_this_land_bands])), (q_this, .inr (3, [.ref q_this_land, .ref q_this_text, .int u64.2.2.2.1, .int u64.2.1, .int u64.2.2.2.2, .int u64.2.2.1])), (q_this_text, .inr (7, [.ref q_this_text_values, .int text_size_])), (q_this_text_values, .inl (kI, n_this_text, .inl text_values_))] := hD
          obtain ⟨hg5, h⟩ := q_g h
          have er := q_inj h
          subst er
          exact hret _ _ _ _ (zb_nar hg5) (hP.sub [1, 0, 2, 3] rfl) (hD.sub [1, 0, 2, 3] rfl rfl) hS dX3_takeWay_67
        · replace h := q_f c4 h
          refine lv_iconst (v := 0) hx hb dX3_takeWay_48 (by decide) ?_
          have er := q_inj h
          subst er
          exact hret _ _ _ _ nar0 (hP.sub [0, 3, 1, 2] rfl) (hD.sub [0, 3, 1, 2] rfl rfl) hS dX3_takeWay_49
  · replace h := q_t c1 h
    refine lv_iconst (v := 0) hx hb dX3_takeWay_9 (by decide) ?_
    have er := q_inj h
    subst er
    exact hret _ _ _ _ nar0 (hP.sub [1, 0, 2, 3] rfl) (hD.sub [1, 0, 2, 3] rfl rfl) hS dX3_takeWay_10
