abbrev rm_X10_isSeating : Room := { frames := 3, cells := 0, slots := 0, locals := 67 }
theorem nd_X10_isSeating : yX10_isSeating.cls ≠ "java/lang/invoke/MethodHandle" ∧ yX10_isSeating.cls ≠ "java/lang/invoke/VarHandle" ∧ (parseMethodDescriptor yX10_isSeating.desc).map (fun d => d.parameters.length) = some 4 := by decide +kernel
theorem vd_X10_isSeating : yX10_isSeating.cls = RX10 ∧ yX10_isSeating.cls ≠ "java/lang/invoke/MethodHandle" ∧ yX10_isSeating.cls ≠ "java/lang/invoke/VarHandle" ∧ (parseMethodDescriptor yX10_isSeating.desc).map (fun d => d.parameters.length) = some 4 := by decide +kernel
set_option maxHeartbeats 4000000 in
set_option maxRecDepth 100000 in
theorem c_X10_isSeating (l : Launch) (D : va_G) (E : q_En) (kI kB kQ : ClassId) (q_this : Nat) (q_this_all : Nat) (v_this_isKept : Value) (v_this_refused : Value) (v_this_ways : Value) (v_this_starts : Value) (v_this_homes : Value) (v_this_hours : Value) (v_this_froms : Value) (v_this_tos : Value) (v_this_whos : Value) (v_this_place : Value) (v_this_since : Value) (v_this_rows : Value) (v_this_few : Value) (v_this_most : Value) (v_this_parts : Value) (v_this_fewParts : Value) (v_this_mostParts : Value) (v_this_far : Value) (v_this_queue : Value) (v_this_gone : Value) (v_this_stood : Value) (v_this_trips : Value) (above_ : Int32) (below_ : Int32) (at_ : Int32) (start_ : Int32) (sort_ : Int32) (value_ : Int32) (fault_ : Int32) (men_ : Int32) (gos_ : Int32) (sum_ : Int64) (all_ : Nat → Int32) (x1 : Int32) (x2 : Int32) (x3 : Int32) (x4 : Int32) (N : Nat) (r : Int32) (hf : g_X10_isSeating N all_ x1 x2 x3 x4 = some r) : CtI l D E yX10_isSeating wsX10_isSeating rm_X10_isSeating (q_tys kI kB kQ) [.ref q_this, .int x1, .int x2, .int x3, .int x4] [(q_this, .inr (10, [.ref q_this_all, v_this_isKept, v_this_refused, .int above_, .int below_, .int at_, .int start_, .int sort_, .int value_, .int fault_, .int men_, .int gos_, v_this_ways, v_this_starts, v_this_homes, v_this_hours, v_this_froms, v_this_tos, v_this_whos, v_this_place, v_this_since, v_this_rows, v_this_few, v_this_most, v_this_parts, v_this_fewParts, v_this_mostParts, v_this_far, v_this_queue, v_this_gone, v_this_stood, v_this_trips, .long sum_])), (q_this_all, .inl (kI, 1080, .inl all_))] [(q_this, .inr (10, [.ref q_this_all, v_this_isKept, v_this_refused, .int above_, .int below_, .int at_, .int start_, .int sort_, .int value_, .int fault_, .int men_, .int gos_, v_this_ways, v_this_starts, v_this_homes, v_this_hours, v_this_froms, v_this_tos, v_this_whos, v_this_place, v_this_since, v_this_rows, v_this_few, v_this_most, v_this_parts, v_this_fewParts, v_this_mostParts, v_this_far, v_this_queue, v_this_gone, v_this_stood, v_this_trips, .long sum_])), (q_this_all, .inl (kI, 1080, .inl all_))] r := by
  refine q_enterZ cX10_isSeating 5 RX10 (by decide) rfl (Nat.le_of_ble_eq_true rfl) rfl ?_
  intro p e s m args below meth c Q A ls H hx hb hml hown hts hK hN hE hA hP hS hD hl hret
  have hl : lv_has ls 5 [(0, .ref q_this), (1, .int x1), (2, .int x2), (3, .int x3), (4, .int x4)] := hl
  have h := hf
  rw [g_X10_isSeating] at h
  have J27 : ∀ (t1 : Int32) (t2 : Int32), g_X10_isSeating_27 N all_ x1 x2 x3 x4 t1 t2 = some r → ∀ (H : Heap) (locs : List Loc) (ls : Array Slot), va_P D vwCl [(q_this, .inr (10, [.ref q_this_all, v_this_isKept, v_this_refused, .int above_, .int below_, .int at_, .int start_, .int sort_, .int value_, .int fault_, .int men_, .int gos_, v_this_ways, v_this_starts, v_this_homes, v_this_hours, v_this_froms, v_this_tos, v_this_whos, v_this_place, v_this_since, v_this_rows, v_this_few, v_this_most, v_this_parts, v_this_fewParts, v_this_mostParts, v_this_far, v_this_queue, v_this_gone, v_this_stood, v_this_trips, .long sum_])), (q_this_all, .inl (kI, 1080, .inl all_))] H → va_D A [(q_this, .inr (10, [.ref q_this_all, v_this_isKept, v_this_refused, .int above_, .int below_, .int at_, .int start_, .int sort_, .int value_, .int fault_, .int men_, .int gos_, v_this_ways, v_this_starts, v_this_homes, v_this_hours, v_this_froms, v_this_tos, v_this_whos, v_this_place, v_this_since, v_this_rows, v_this_few, v_this_most, v_this_parts, v_this_fewParts, v_this_mostParts, v_this_far, v_this_queue, v_this_gone, v_this_stood, v_this_trips, .long sum_])), (q_this_all, .inl (kI, 1080, .inl all_))] → va_S A s.heap H locs → lv_has ls 5 [(0, .ref q_this), (1, .int x1), (2, .int x2), (3, .int x3), (4, .int x4)] → W p l e rm_X10_isSeating s m args below meth c H locs 0 0 Q (F0 m 27 ls [.int t2, .int t1, .ref q_this]) := by
    intro t1 t2 h H locs ls hP hD hS hl
    rw [g_X10_isSeating_27] at h
    refine lv_iload hx hb dX10_isSeating_27 (lv_at hl 4 rfl) ?_
    refine lv_bipush (v := 13) hx hb dX10_isSeating_29 (by decide) ?_
    refine lv_idiv hx hb dX10_isSeating_31 (by decide) ?_
    refine lv_bipush (v := 13) hx hb dX10_isSeating_32 (by decide) ?_
    refine lv_irem hx hb dX10_isSeating_34 (by decide) ?_
    obtain ⟨u35, hu35, h⟩ := q_b h
    refine q_aI (va_runV (As := [.int t1, .int t2, .int ((x4 / 13) - (x4 / 13) / 13 * 13)]) (rest := []) ⟨hx, hb, hml, hown, hts⟩ (c_X10_isTable l D E kI kB kQ q_this q_this_all v_this_isKept v_this_refused v_this_ways v_this_starts v_this_homes v_this_hours v_this_froms v_this_tos v_this_whos v_this_place v_this_since v_this_rows v_this_few v_this_most v_this_parts v_this_fewParts v_this_mostParts v_this_far v_this_queue v_this_gone v_this_stood v_this_trips above_ below_ at_ start_ sort_ value_ fault_ men_ gos_ sum_ all_ t1 t2 ((x4 / 13) - (x4 / 13) / 13 * 13) N u35 hu35 H.size) (cwV 3 hts gX10_isSeating_X10_isTable rfl rfl rfl vd_X10_isTable ⟨Nat.le_of_ble_eq_true rfl, Nat.le_of_ble_eq_true rfl⟩) (q_pv hK hN hE hS hA hP hD [0, 1] rfl rfl rfl 0 rfl (ci := 10) rfl) rfl rfl hl.1 rfl (lv_room (Nat.le_of_ble_eq_true rfl)) dX10_isSeating_35 ⟨Nat.zero_le _, Nat.zero_le _⟩) hP hD hS hA [0, 1] [] (Wr := []) rfl rfl rfl (by decide) (fun H locs hP hD hS => ?_)
    have hP : va_P D vwCl [(q_this, .inr (10, [.ref q_this_all, v_this_isKept, v_this_refused, .int above_, .int below_, .int at_, .int start_, .int sort_, .int value_, .int fault_, .int men_, .int gos_, v_this_ways, v_this_starts, v_this_homes, v_this_hours, v_this_froms, v_this_tos, v_this_whos, v_this_place, v_this_since, v_this_rows, v_this_few, v_this_most, v_this_parts, v_this_fewParts, v_this_mostParts, v_this_far, v_this_queue, v_this_gone, v_this_stood, v_this_trips, .long sum_])), (q_this_all, .inl (kI, 1080, .inl all_))] H := hP
    have hD : va_D A [(q_this, .inr (10, [.ref q_this_all, v_this_isKept, v_this_refused, .int above_, .int below_, .int at_, .int start_, .int sort_, .int value_, .int fault_, .int men_, .int gos_, v_this_ways, v_this_starts, v_this_homes, v_this_hours, v_this_froms, v_this_tos, v_this_whos, v_this_place, v_this_since, v_this_rows, v_this_few, v_this_most, v_this_parts, v_this_fewParts, v_this_mostParts, v_this_far, v_this_queue, v_this_gone, v_this_stood, v_this_trips, .long sum_])), (q_this_all, .inl (kI, 1080, .inl all_))] := hD
    refine lv_if_eq (tgt := 68) hx hb dX10_isSeating_38 (by decide) (fun c1 => ?_) (fun c1 => ?_)
    · replace h := q_t c1 h
      refine lv_iconst (v := 0) hx hb dX10_isSeating_68 (by decide) ?_
      have er := q_inj h
      subst er
      exact hret _ _ _ _ nar0 (hP.sub [0, 1] rfl) (hD.sub [0, 1] rfl rfl) hS dX10_isSeating_69
    · replace h := q_f c1 h
      refine lv_aload_n hx hb dX10_isSeating_41 rfl (lv_at hl 0 rfl) ?_
      refine lv_iload_n hx hb dX10_isSeating_42 rfl (lv_at hl 1 rfl) ?_
      refine lv_iload_n hx hb dX10_isSeating_43 rfl (lv_at hl 2 rfl) ?_
      refine lv_iconst (v := 2) hx hb dX10_isSeating_44 (by decide) ?_
      refine lv_icmp_le (tgt := 52) hx hb dX10_isSeating_45 (by decide) (fun c2 => ?_) (fun c2 => ?_)
      · replace h := q_t c2 h
        refine lv_iconst (v := 0) hx hb dX10_isSeating_52 (by decide) ?_
        refine lv_iload hx hb dX10_isSeating_53 (lv_at hl 4 rfl) ?_
        refine lv_bipush (v := 13) hx hb dX10_isSeating_55 (by decide) ?_
        refine lv_irem hx hb dX10_isSeating_57 (by decide) ?_
        obtain ⟨u58, hu58, h⟩ := q_b h
        refine q_aI (va_runV (As := [.int x1, .int 0, .int (x4 - x4 / 13 * 13)]) (rest := []) ⟨hx, hb, hml, hown, hts⟩ (c_X10_isTable l D E kI kB kQ q_this q_this_all v_this_isKept v_this_refused v_this_ways v_this_starts v_this_homes v_this_hours v_this_froms v_this_tos v_this_whos v_this_place v_this_since v_this_rows v_this_few v_this_most v_this_parts v_this_fewParts v_this_mostParts v_this_far v_this_queue v_this_gone v_this_stood v_this_trips above_ below_ at_ start_ sort_ value_ fault_ men_ gos_ sum_ all_ x1 0 (x4 - x4 / 13 * 13) N u58 hu58 H.size) (cwV 3 hts gX10_isSeating_X10_isTable rfl rfl rfl vd_X10_isTable ⟨Nat.le_of_ble_eq_true rfl, Nat.le_of_ble_eq_true rfl⟩) (q_pv hK hN hE hS hA hP hD [0, 1] rfl rfl rfl 0 rfl (ci := 10) rfl) rfl rfl hl.1 rfl (lv_room (Nat.le_of_ble_eq_true rfl)) dX10_isSeating_58 ⟨Nat.zero_le _, Nat.zero_le _⟩) hP hD hS hA [0, 1] [] (Wr := []) rfl rfl rfl (by decide) (fun H locs hP hD hS => ?_)
        have hP : va_P D vwCl [(q_this, .inr (10, [.ref q_this_all, v_this_isKept, v_this_refused, .int above_, .int below_, .int at_, .int start_, .int sort_, .int value_, .int fault_, .int men_, .int gos_, v_this_ways, v_this_starts, v_this_homes, v_this_hours, v_this_froms, v_this_tos, v_this_whos, v_this_place, v_this_since, v_this_rows, v_this_few, v_this_most, v_this_parts, v_this_fewParts, v_this_mostParts, v_this_far, v_this_queue, v_this_gone, v_this_stood, v_this_trips, .long sum_])), (q_this_all, .inl (kI, 1080, .inl all_))] H := hP
        have hD : va_D A [(q_this, .inr (10, [.ref q_this_all, v_this_isKept, v_this_refused, .int above_, .int below_, .int at_, .int start_, .int sort_, .int value_, .int fault_, .int men_, .int gos_, v_this_ways, v_this_starts, v_this_homes, v_this_hours, v_this_froms, v_this_tos, v_this_whos, v_this_place, v_this_since, v_this_rows, v_this_few, v_this_most, v_this_parts, v_this_fewParts, v_this_mostParts, v_this_far, v_this_queue, v_this_gone, v_this_stood, v_this_trips, .long sum_])), (q_this_all, .inl (kI, 1080, .inl all_))] := hD
        refine lv_if_eq (tgt := 68) hx hb dX10_isSeating_61 (by decide) (fun c3 => ?_) (fun c3 => ?_)
        · replace h := q_t c3 h
          refine lv_iconst (v := 0) hx hb dX10_isSeating_68 (by decide) ?_
          have er := q_inj h
          subst er
          exact hret _ _ _ _ nar0 (hP.sub [0, 1] rfl) (hD.sub [0, 1] rfl rfl) hS dX10_isSeating_69
        · replace h := q_f c3 h
          refine lv_iconst (v := 1) hx hb dX10_isSeating_64 (by decide) ?_
          refine lv_goto (tgt := 69) hx hb dX10_isSeating_65 (by decide) ?_
          have er := q_inj h
          subst er
          exact hret _ _ _ _ nar1 (hP.sub [0, 1] rfl) (hD.sub [0, 1] rfl rfl) hS dX10_isSeating_69
      · replace h := q_f c2 h
        refine lv_iload_n hx hb dX10_isSeating_48 rfl (lv_at hl 3 rfl) ?_
        refine lv_goto (tgt := 53) hx hb dX10_isSeating_49 (by decide) ?_
        refine lv_iload hx hb dX10_isSeating_53 (lv_at hl 4 rfl) ?_
        refine lv_bipush (v := 13) hx hb dX10_isSeating_55 (by decide) ?_
        refine lv_irem hx hb dX10_isSeating_57 (by decide) ?_
        obtain ⟨u58, hu58, h⟩ := q_b h
        refine q_aI (va_runV (As := [.int x1, .int x3, .int (x4 - x4 / 13 * 13)]) (rest := []) ⟨hx, hb, hml, hown, hts⟩ (c_X10_isTable l D E kI kB kQ q_this q_this_all v_this_isKept v_this_refused v_this_ways v_this_starts v_this_homes v_this_hours v_this_froms v_this_tos v_this_whos v_this_place v_this_since v_this_rows v_this_few v_this_most v_this_parts v_this_fewParts v_this_mostParts v_this_far v_this_queue v_this_gone v_this_stood v_this_trips above_ below_ at_ start_ sort_ value_ fault_ men_ gos_ sum_ all_ x1 x3 (x4 - x4 / 13 * 13) N u58 hu58 H.size) (cwV 3 hts gX10_isSeating_X10_isTable rfl rfl rfl vd_X10_isTable ⟨Nat.le_of_ble_eq_true rfl, Nat.le_of_ble_eq_true rfl⟩) (q_pv hK hN hE hS hA hP hD [0, 1] rfl rfl rfl 0 rfl (ci := 10) rfl) rfl rfl hl.1 rfl (lv_room (Nat.le_of_ble_eq_true rfl)) dX10_isSeating_58 ⟨Nat.zero_le _, Nat.zero_le _⟩) hP hD hS hA [0, 1] [] (Wr := []) rfl rfl rfl (by decide) (fun H locs hP hD hS => ?_)
        have hP : va_P D vwCl [(q_this, .inr (10, [.ref q_this_all, v_this_isKept, v_this_refused, .int above_, .int below_, .int at_, .int start_, .int sort_, .int value_, .int fault_, .int men_, .int gos_, v_this_ways, v_this_starts, v_this_homes, v_this_hours, v_this_froms, v_this_tos, v_this_whos, v_this_place, v_this_since, v_this_rows, v_this_few, v_this_most, v_this_parts, v_this_fewParts, v_this_mostParts, v_this_far, v_this_queue, v_this_gone, v_this_stood, v_this_trips, .long sum_])), (q_this_all, .inl (kI, 1080, .inl all_))] H := hP
        have hD : va_D A [(q_this, .inr (10, [.ref q_this_all, v_this_isKept, v_this_refused, .int above_, .int below_, .int at_, .int start_, .int sort_, .int value_, .int fault_, .int men_, .int gos_, v_this_ways, v_this_starts, v_this_homes, v_this_hours, v_this_froms, v_this_tos, v_this_whos, v_this_place, v_this_since, v_this_rows, v_this_few, v_this_most, v_this_parts, v_this_fewParts, v_this_mostParts, v_this_far, v_this_queue, v_this_gone, v_this_stood, v_this_trips, .long sum_])), (q_this_all, .inl (kI, 1080, .inl all_))] := hD
        refine lv_if_eq (tgt := 68) hx hb dX10_isSeating_61 (by decide) (fun c4 => ?_) (fun c4 => ?_)
        · replace h := q_t c4 h
          refine lv_iconst (v := 0) hx hb dX10_isSeating_68 (by decide) ?_
          have er := q_inj h
          subst er
          exact hret _ _ _ _ nar0 (hP.sub [0, 1] rfl) (hD.sub [0, 1] rfl rfl) hS dX10_isSeating_69
        · replace h := q_f c4 h
          refine lv_iconst (v := 1) hx hb dX10_isSeating_64 (by decide) ?_
          refine lv_goto (tgt := 69) hx hb dX10_isSeating_65 (by decide) ?_
          have er := q_inj h
          subst er
          exact hret _ _ _ _ nar1 (hP.sub [0, 1] rfl) (hD.sub [0, 1] rfl rfl) hS dX10_isSeating_69
  refine lv_aload_n hx hb dX10_isSeating_0 rfl (lv_at hl 0 rfl) ?_
  refine lv_iload_n hx hb dX10_isSeating_1 rfl (lv_at hl 1 rfl) ?_
  refine lv_iload_n hx hb dX10_isSeating_2 rfl (lv_at hl 3 rfl) ?_
  refine lv_iload hx hb dX10_isSeating_3 (lv_at hl 4 rfl) ?_
  refine lv_sipush (v := 169) hx hb dX10_isSeating_5 (by decide) ?_
  refine lv_idiv hx hb dX10_isSeating_8 (by decide) ?_
  obtain ⟨u9, hu9, h⟩ := q_b h
  refine q_aI (va_runV (As := [.int x1, .int x3, .int (x4 / 169)]) (rest := []) ⟨hx, hb, hml, hown, hts⟩ (c_X10_isTable l D E kI kB kQ q_this q_this_all v_this_isKept v_this_refused v_this_ways v_this_starts v_this_homes v_this_hours v_this_froms v_this_tos v_this_whos v_this_place v_this_since v_this_rows v_this_few v_this_most v_this_parts v_this_fewParts v_this_mostParts v_this_far v_this_queue v_this_gone v_this_stood v_this_trips above_ below_ at_ start_ sort_ value_ fault_ men_ gos_ sum_ all_ x1 x3 (x4 / 169) N u9 hu9 H.size) (cwV 3 hts gX10_isSeating_X10_isTable rfl rfl rfl vd_X10_isTable ⟨Nat.le_of_ble_eq_true rfl, Nat.le_of_ble_eq_true rfl⟩) (q_pv hK hN hE hS hA hP hD [0, 1] rfl rfl rfl 0 rfl (ci := 10) rfl) rfl rfl hl.1 rfl (lv_room (Nat.le_of_ble_eq_true rfl)) dX10_isSeating_9 ⟨Nat.zero_le _, Nat.zero_le _⟩) hP hD hS hA [0, 1] [] (Wr := []) rfl rfl rfl (by decide) (fun H locs hP hD hS => ?_)
  have hP : va_P D vwCl [(q_this, .inr (10, [.ref q_this_all, v_this_isKept, v_this_refused, .int above_, .int below_, .int at_, .int start_, .int sort_, .int value_, .int fault_, .int men_, .int gos_, v_this_ways, v_this_starts, v_this_homes, v_this_hours, v_this_froms, v_this_tos, v_this_whos, v_this_place, v_this_since, v_this_rows, v_this_few, v_this_most, v_this_parts, v_this_fewParts, v_this_mostParts, v_this_far, v_this_queue, v_this_gone, v_this_stood, v_this_trips, .long sum_])), (q_this_all, .inl (kI, 1080, .inl all_))] H := hP
  have hD : va_D A [(q_this, .inr (10, [.ref q_this_all, v_this_isKept, v_this_refused, .int above_, .int below_, .int at_, .int start_, .int sort_, .int value_, .int fault_, .int men_, .int gos_, v_this_ways, v_this_starts, v_this_homes, v_this_hours, v_this_froms, v_this_tos, v_this_whos, v_this_place, v_this_since, v_this_rows, v_this_few, v_this_most, v_this_parts, v_this_fewParts, v_this_mostParts, v_this_far, v_this_queue, v_this_gone, v_this_stood, v_this_trips, .long sum_])), (q_this_all, .inl (kI, 1080, .inl all_))] := hD
  refine lv_if_eq (tgt := 68) hx hb dX10_isSeating_12 (by decide) (fun c5 => ?_) (fun c5 => ?_)
  · replace h := q_t c5 h
    refine lv_iconst (v := 0) hx hb dX10_isSeating_68 (by decide) ?_
    have er := q_inj h
    subst er
    exact hret _ _ _ _ nar0 (hP.sub [0, 1] rfl) (hD.sub [0, 1] rfl rfl) hS dX10_isSeating_69
  · replace h := q_f c5 h
    refine lv_aload_n hx hb dX10_isSeating_15 rfl (lv_at hl 0 rfl) ?_
    refine lv_iload_n hx hb dX10_isSeating_16 rfl (lv_at hl 1 rfl) ?_
    refine lv_iload_n hx hb dX10_isSeating_17 rfl (lv_at hl 2 rfl) ?_
    refine lv_iconst (v := 1) hx hb dX10_isSeating_18 (by decide) ?_
    refine lv_icmp_le (tgt := 26) hx hb dX10_isSeating_19 (by decide) (fun c6 => ?_) (fun c6 => ?_)
    · replace h := q_t c6 h
      refine lv_iconst (v := 0) hx hb dX10_isSeating_26 (by decide) ?_
      exact J27 x1 0 h _ _ _ (hP.sub [0, 1] rfl) (hD.sub [0, 1] rfl rfl) hS (lv_sub hl [0, 1, 2, 3, 4] rfl)
    · replace h := q_f c6 h
      refine lv_iload_n hx hb dX10_isSeating_22 rfl (lv_at hl 3 rfl) ?_
      refine lv_goto (tgt := 27) hx hb dX10_isSeating_23 (by decide) ?_
      exact J27 x1 x3 h _ _ _ (hP.sub [0, 1] rfl) (hD.sub [0, 1] rfl rfl) hS (lv_sub hl [0, 1, 2, 3, 4] rfl)
abbrev rm_X10_sink : Room := { frames := 0, cells := 0, slots := 0, locals := 0 }
theorem lk_X10_sink_0 : Cond.fieldLink RX10 78 "OnlyPrimesModel" "stood" "[I" ∈ wsX10_sink := List.mem_of_getElem? (i := 1) (by decide +kernel)
theorem iw_X10_sink_X10 : ∀ w ∈ wsX100, w ∈ wsX10_sink := by decide +kernel
theorem nd_X10_sink : yX10_sink.cls ≠ "java/lang/invoke/MethodHandle" ∧ yX10_sink.cls ≠ "java/lang/invoke/VarHandle" ∧ (parseMethodDescriptor yX10_sink.desc).map (fun d => d.parameters.length) = some 1 := by decide +kernel
theorem vd_X10_sink : yX10_sink.cls = RX10 ∧ yX10_sink.cls ≠ "java/lang/invoke/MethodHandle" ∧ yX10_sink.cls ≠ "java/lang/invoke/VarHandle" ∧ (parseMethodDescriptor yX10_sink.desc).map (fun d => d.parameters.length) = some 1 := by decide +kernel
set_option maxHeartbeats 4000000 in
set_option maxRecDepth 100000 in
theorem c_X10_sink (l : Launch) (D : va_G) (E : q_En) (kI kB kQ : ClassId) (q_this : Nat) (q_this_stood : Nat) (v_this_all : Value) (v_this_isKept : Value) (v_this_refused : Value) (v_this_ways : Value) (v_this_starts : Value) (v_this_homes : Value) (v_this_hours : Value) (v_this_froms : Value) (v_this_tos : Value) (v_this_whos : Value) (v_this_place : Value) (v_this_since : Value) (v_this_rows : Value) (v_this_few : Value) (v_this_most : Value) (v_this_parts : Value) (v_this_fewParts : Value) (v_this_mostParts : Value) (v_this_far : Value) (v_this_queue : Value) (v_this_gone : Value) (v_this_trips : Value) (above_ : Int32) (below_ : Int32) (at_ : Int32) (start_ : Int32) (sort_ : Int32) (value_ : Int32) (fault_ : Int32) (men_ : Int32) (gos_ : Int32) (sum_ : Int64) (stood_ : Nat → Int32) (x1 : Int32) (N : Nat) (r : (Nat → Int32)) (hf : g_X10_sink N stood_ x1 = some r) : CtV l D E yX10_sink wsX10_sink rm_X10_sink (q_tys kI kB kQ) [.ref q_this, .int x1] [(q_this, .inr (10, [v_this_all, v_this_isKept, v_this_refused, .int above_, .int below_, .int at_, .int start_, .int sort_, .int value_, .int fault_, .int men_, .int gos_, v_this_ways, v_this_starts, v_this_homes, v_this_hours, v_this_froms, v_this_tos, v_this_whos, v_this_place, v_this_since, v_this_rows, v_this_few, v_this_most, v_this_parts, v_this_fewParts, v_this_mostParts, v_this_far, v_this_queue, v_this_gone, .ref q_this_stood, v_this_trips, .long sum_])), (q_this_stood, .inl (kI, 2197, .inl stood_))] [(q_this, .inr (10, [v_this_all, v_this_isKept, v_this_refused, .int above_, .int below_, .int at_, .int start_, .int sort_, .int value_, .int fault_, .int men_, .int gos_, v_this_ways, v_this_starts, v_this_homes, v_this_hours, v_this_froms, v_this_tos, v_this_whos, v_this_place, v_this_since, v_this_rows, v_this_few, v_this_most, v_this_parts, v_this_fewParts, v_this_mostParts, v_this_far, v_this_queue, v_this_gone, .ref q_this_stood, v_this_trips, .long sum_])), (q_this_stood, .inl (kI, 2197, .inl r))] := by
  refine q_enterV cX10_sink 4 RX10 (by decide) rfl (Nat.le_of_ble_eq_true rfl) rfl ?_
  intro p e s m args below meth c Q A ls H hx hb hml hown hts hK hN hE hA hP hS hD hl hret
  have hl : lv_has ls 4 [(0, .ref q_this), (1, .int x1)] := hl
  have h := hf
  rw [g_X10_sink] at h
  have J2 : ∀ (n2 : Nat) (x2 : Int32) (stood_ : Nat → Int32), g_X10_sink_2 x1 n2 x2 stood_ = some r → ∀ (H : Heap) (locs : List Loc) (ls : Array Slot), va_P D vwCl [(q_this, .inr (10, [v_this_all, v_this_isKept, v_this_refused, .int above_, .int below_, .int at_, .int start_, .int sort_, .int value_, .int fault_, .int men_, .int gos_, v_this_ways, v_this_starts, v_this_homes, v_this_hours, v_this_froms, v_this_tos, v_this_whos, v_this_place, v_this_since, v_this_rows, v_this_few, v_this_most, v_this_parts, v_this_fewParts, v_this_mostParts, v_this_far, v_this_queue, v_this_gone, .ref q_this_stood, v_this_trips, .long sum_])), (q_this_stood, .inl (kI, 2197, .inl stood_))] H → va_D A [(q_this, .inr (10, [v_this_all, v_this_isKept, v_this_refused, .int above_, .int below_, .int at_, .int start_, .int sort_, .int value_, .int fault_, .int men_, .int gos_, v_this_ways, v_this_starts, v_this_homes, v_this_hours, v_this_froms, v_this_tos, v_this_whos, v_this_place, v_this_since, v_this_rows, v_this_few, v_this_most, v_this_parts, v_this_fewParts, v_this_mostParts, v_this_far, v_this_queue, v_this_gone, .ref q_this_stood, v_this_trips, .long sum_])), (q_this_stood, .inl (kI, 2197, .inl stood_))] → va_S A s.heap H locs → lv_has ls 4 [(0, .ref q_this), (1, .int x1), (2, .int x2)] → W p l e rm_X10_sink s m args below meth c H locs 0 0 Q (F0 m 2 ls []) := by
    intro n2
    induction n2 with
    | zero => intro x2 stood_ h; exact absurd h (by rw [g_X10_sink_2]; exact fun q => nomatch q)
    | succ n2 ih2 =>
      intro x2 stood_ h H locs ls hP hD hS hl
      rw [g_X10_sink_2] at h
      have J23 : ∀ (x2 : Int32) (t0 : Int32) (stood_ : Nat → Int32), g_X10_sink_23 x1 (g_X10_sink_2 x1 n2) x2 t0 stood_ = some r → ∀ (H : Heap) (locs : List Loc) (ls : Array Slot), va_P D vwCl [(q_this, .inr (10, [v_this_all, v_this_isKept, v_this_refused, .int above_, .int below_, .int at_, .int start_, .int sort_, .int value_, .int fault_, .int men_, .int gos_, v_this_ways, v_this_starts, v_this_homes, v_this_hours, v_this_froms, v_this_tos, v_this_whos, v_this_place, v_this_since, v_this_rows, v_this_few, v_this_most, v_this_parts, v_this_fewParts, v_this_mostParts, v_this_far, v_this_queue, v_this_gone, .ref q_this_stood, v_this_trips, .long sum_])), (q_this_stood, .inl (kI, 2197, .inl stood_))] H → va_D A [(q_this, .inr (10, [v_this_all, v_this_isKept, v_this_refused, .int above_, .int below_, .int at_, .int start_, .int sort_, .int value_, .int fault_, .int men_, .int gos_, v_this_ways, v_this_starts, v_this_homes, v_this_hours, v_this_froms, v_this_tos, v_this_whos, v_this_place, v_this_since, v_this_rows, v_this_few, v_this_most, v_this_parts, v_this_fewParts, v_this_mostParts, v_this_far, v_this_queue, v_this_gone, .ref q_this_stood, v_this_trips, .long sum_])), (q_this_stood, .inl (kI, 2197, .inl stood_))] → va_S A s.heap H locs → lv_has ls 4 [(0, .ref q_this), (1, .int x1), (2, .int x2)] → W p l e rm_X10_sink s m args below meth c H locs 0 0 Q (F0 m 23 ls [.int t0]) := by
        intro x2 t0 stood_ h H locs ls hP hD hS hl
        rw [g_X10_sink_23] at h
        refine lv_istore_n (lv' := [(3, .int t0), (0, .ref q_this), (1, .int x1), (2, .int x2)]) hx hb dX10_sink_23 rfl hl (by decide) rfl (fun ls hl => ?_)
        refine lv_aload_n hx hb dX10_sink_24 rfl (lv_at hl 1 rfl) ?_
        refine va_get (D := D) (ci := 10) (C := RX10) (T := TX10) (N := 33) hx hb hts iw_X10_sink_X10 hown hK hP 0 rfl rfl 30 (by decide) (hts _ lk_X10_sink_0) (fun _ h9 => h9) rfl dX10_sink_25 ?_
        refine lv_iload_n hx hb dX10_sink_28 rfl (lv_at hl 3 rfl) ?_
        refine lv_iload_n hx hb dX10_sink_29 rfl (lv_at hl 0 rfl) ?_
        refine lv_if_eq (tgt := 61) hx hb dX10_sink_30 (by decide) (fun c1 => ?_) (fun c1 => ?_)
        · replace h := q_t c1 h
          refine lv_aload_n hx hb dX10_sink_61 rfl (lv_at hl 1 rfl) ?_
          refine va_get (D := D) (ci := 10) (C := RX10) (T := TX10) (N := 33) hx hb hts iw_X10_sink_X10 hown hK hP 0 rfl rfl 30 (by decide) (hts _ lk_X10_sink_0) (fun _ h9 => h9) rfl dX10_sink_62 ?_
          refine lv_iload_n hx hb dX10_sink_65 rfl (lv_at hl 3 rfl) ?_
          obtain ⟨hg2, h⟩ := q_g h
          refine va_iald hx hb hK hP 1 0 rfl rfl (inb_vp hg2) dX10_sink_66 ?_
          refine va_iast hx hb hK hP hD hS 1 0 rfl rfl (inb_vp hg2) dX10_sink_67 (fun H locs hP hD hS => ?_)
          have hP : va_P D vwCl [(q_this, .inr (10, [v_this_all, v_this_isKept, v_this_refused, .int above_, .int below_, .int at_, .int start_, .int sort_, .int value_, .int fault_, .int men_, .int gos_, v_this_ways, v_this_starts, v_this_homes, v_this_hours, v_this_froms, v_this_tos, v_this_whos, v_this_place, v_this_since, v_this_rows, v_this_few, v_this_most, v_this_parts, v_this_fewParts, v_this_mostParts, v_this_far, v_this_queue, v_this_gone, .ref q_this_stood, v_this_trips, .long sum_])), (q_this_stood, .inl (kI, 2197, .inl (upd stood_ x2.toNatClampNeg (stood_ x2.toNatClampNeg))))] H := hP
          have hD : va_D A [(q_this, .inr (10, [v_this_all, v_this_isKept, v_this_refused, .int above_, .int below_, .int at_, .int start_, .int sort_, .int value_, .int fault_, .int men_, .int gos_, v_this_ways, v_this_starts, v_this_homes, v_this_hours, v_this_froms, v_this_tos, v_this_whos, v_this_place, v_this_since, v_this_rows, v_this_few, v_this_most, v_this_parts, v_this_fewParts, v_this_mostParts, v_this_far, v_this_queue, v_this_gone, .ref q_this_stood, v_this_trips, .long sum_])), (q_this_stood, .inl (kI, 2197, .inl (upd stood_ x2.toNatClampNeg (stood_ x2.toNatClampNeg))))] := hD
          refine lv_iinc (v := (x2 + 1)) (lv' := [(2, .int (x2 + 1)), (3, .int t0), (0, .ref q_this), (1, .int x1)]) hx hb dX10_sink_68 hl (k := 3) rfl rfl (by decide) rfl (fun ls hl => ?_)
          refine lv_goto (tgt := 2) hx hb dX10_sink_71 (by decide) ?_
          exact ih2 (x2 + 1) (upd stood_ x2.toNatClampNeg (stood_ x2.toNatClampNeg)) h _ _ _ (hP.sub [0, 1] rfl) (hD.sub [0, 1] rfl rfl) hS (lv_sub hl [2, 3, 0] rfl)
        · replace h := q_f c1 h
          refine lv_aload_n hx hb dX10_sink_33 rfl (lv_at hl 1 rfl) ?_
          refine va_get (D := D) (ci := 10) (C := RX10) (T := TX10) (N := 33) hx hb hts iw_X10_sink_X10 hown hK hP 0 rfl rfl 30 (by decide) (hts _ lk_X10_sink_0) (fun _ h9 => h9) rfl dX10_sink_34 ?_
          refine lv_iload_n hx hb dX10_sink_37 rfl (lv_at hl 3 rfl) ?_
          refine lv_iload_n hx hb dX10_sink_38 rfl (lv_at hl 2 rfl) ?_
          refine lv_isub hx hb dX10_sink_39 ?_
          obtain ⟨hg3, h⟩ := q_g h
          refine va_iald hx hb hK hP 1 0 rfl rfl (inb_vp hg3) dX10_sink_40 ?_
          refine lv_aload_n hx hb dX10_sink_41 rfl (lv_at hl 1 rfl) ?_
          refine va_get (D := D) (ci := 10) (C := RX10) (T := TX10) (N := 33) hx hb hts iw_X10_sink_X10 hown hK hP 0 rfl rfl 30 (by decide) (hts _ lk_X10_sink_0) (fun _ h9 => h9) rfl dX10_sink_42 ?_
          refine lv_iload_n hx hb dX10_sink_45 rfl (lv_at hl 3 rfl) ?_
          obtain ⟨hg4, h⟩ := q_g h
          refine va_iald hx hb hK hP 1 0 rfl rfl (inb_vp hg4) dX10_sink_46 ?_
          refine lv_icmp_ge (tgt := 61) hx hb dX10_sink_47 (by decide) (fun c5 => ?_) (fun c5 => ?_)
          · replace h := q_t c5 h
            refine lv_aload_n hx hb dX10_sink_61 rfl (lv_at hl 1 rfl) ?_
            refine va_get (D := D) (ci := 10) (C := RX10) (T := TX10) (N := 33) hx hb hts iw_X10_sink_X10 hown hK hP 0 rfl rfl 30 (by decide) (hts _ lk_X10_sink_0) (fun _ h9 => h9) rfl dX10_sink_62 ?_
            refine lv_iload_n hx hb dX10_sink_65 rfl (lv_at hl 3 rfl) ?_
            refine va_iald hx hb hK hP 1 0 rfl rfl (inb_vp hg4) dX10_sink_66 ?_
            refine va_iast hx hb hK hP hD hS 1 0 rfl rfl (inb_vp hg4) dX10_sink_67 (fun H locs hP hD hS => ?_)
            have hP : va_P D vwCl [(q_this, .inr (10, [v_this_all, v_this_isKept, v_this_refused, .int above_, .int below_, .int at_, .int start_, .int sort_, .int value_, .int fault_, .int men_, .int gos_, v_this_ways, v_this_starts, v_this_homes, v_this_hours, v_this_froms, v_this_tos, v_this_whos, v_this_place, v_this_since, v_this_rows, v_this_few, v_this_most, v_this_parts, v_this_fewParts, v_this_mostParts, v_this_far, v_this_queue, v_this_gone, .ref q_this_stood, v_this_trips, .long sum_])), (q_this_stood, .inl (kI, 2197, .inl (upd stood_ x2.toNatClampNeg (stood_ x2.toNatClampNeg))))] H := hP
            have hD : va_D A [(q_this, .inr (10, [v_this_all, v_this_isKept, v_this_refused, .int above_, .int below_, .int at_, .int start_, .int sort_, .int value_, .int fault_, .int men_, .int gos_, v_this_ways, v_this_starts, v_this_homes, v_this_hours, v_this_froms, v_this_tos, v_this_whos, v_this_place, v_this_since, v_this_rows, v_this_few, v_this_most, v_this_parts, v_this_fewParts, v_this_mostParts, v_this_far, v_this_queue, v_this_gone, .ref q_this_stood, v_this_trips, .long sum_])), (q_this_stood, .inl (kI, 2197, .inl (upd stood_ x2.toNatClampNeg (stood_ x2.toNatClampNeg))))] := hD
            refine lv_iinc (v := (x2 + 1)) (lv' := [(2, .int (x2 + 1)), (3, .int t0), (0, .ref q_this), (1, .int x1)]) hx hb dX10_sink_68 hl (k := 3) rfl rfl (by decide) rfl (fun ls hl => ?_)
            refine lv_goto (tgt := 2) hx hb dX10_sink_71 (by decide) ?_
            exact ih2 (x2 + 1) (upd stood_ x2.toNatClampNeg (stood_ x2.toNatClampNeg)) h _ _ _ (hP.sub [0, 1] rfl) (hD.sub [0, 1] rfl rfl) hS (lv_sub hl [2, 3, 0] rfl)
          · replace h := q_f c5 h
            refine lv_aload_n hx hb dX10_sink_50 rfl (lv_at hl 1 rfl) ?_
            refine va_get (D := D) (ci := 10) (C := RX10) (T := TX10) (N := 33) hx hb hts iw_X10_sink_X10 hown hK hP 0 rfl rfl 30 (by decide) (hts _ lk_X10_sink_0) (fun _ h9 => h9) rfl dX10_sink_51 ?_
            refine lv_iload_n hx hb dX10_sink_54 rfl (lv_at hl 3 rfl) ?_
            refine lv_iload_n hx hb dX10_sink_55 rfl (lv_at hl 2 rfl) ?_
            refine lv_isub hx hb dX10_sink_56 ?_
            refine va_iald hx hb hK hP 1 0 rfl rfl (inb_vp hg3) dX10_sink_57 ?_
            refine lv_goto (tgt := 67) hx hb dX10_sink_58 (by decide) ?_
            refine va_iast hx hb hK hP hD hS 1 0 rfl rfl (inb_vp hg4) dX10_sink_67 (fun H locs hP hD hS => ?_)
            have hP : va_P D vwCl [(q_this, .inr (10, [v_this_all, v_this_isKept, v_this_refused, .int above_, .int below_, .int at_, .int start_, .int sort_, .int value_, .int fault_, .int men_, .int gos_, v_this_ways, v_this_starts, v_this_homes, v_this_hours, v_this_froms, v_this_tos, v_this_whos, v_this_place, v_this_since, v_this_rows, v_this_few, v_this_most, v_this_parts, v_this_fewParts, v_this_mostParts, v_this_far, v_this_queue, v_this_gone, .ref q_this_stood, v_this_trips, .long sum_])), (q_this_stood, .inl (kI, 2197, .inl (upd stood_ x2.toNatClampNeg (stood_ (x2 - x1).toNatClampNeg))))] H := hP
            have hD : va_D A [(q_this, .inr (10, [v_this_all, v_this_isKept, v_this_refused, .int above_, .int below_, .int at_, .int start_, .int sort_, .int value_, .int fault_, .int men_, .int gos_, v_this_ways, v_this_starts, v_this_homes, v_this_hours, v_this_froms, v_this_tos, v_this_whos, v_this_place, v_this_since, v_this_rows, v_this_few, v_this_most, v_this_parts, v_this_fewParts, v_this_mostParts, v_this_far, v_this_queue, v_this_gone, .ref q_this_stood, v_this_trips, .long sum_])), (q_this_stood, .inl (kI, 2197, .inl (upd stood_ x2.toNatClampNeg (stood_ (x2 - x1).toNatClampNeg))))] := hD
            refine lv_iinc (v := (x2 + 1)) (lv' := [(2, .int (x2 + 1)), (3, .int t0), (0, .ref q_this), (1, .int x1)]) hx hb dX10_sink_68 hl (k := 3) rfl rfl (by decide) rfl (fun ls hl => ?_)
            refine lv_goto (tgt := 2) hx hb dX10_sink_71 (by decide) ?_
            exact ih2 (x2 + 1) (upd stood_ x2.toNatClampNeg (stood_ (x2 - x1).toNatClampNeg)) h _ _ _ (hP.sub [0, 1] rfl) (hD.sub [0, 1] rfl rfl) hS (lv_sub hl [2, 3, 0] rfl)
      refine lv_iload_n hx hb dX10_sink_2 rfl (lv_at hl 2 rfl) ?_
      refine lv_sipush (v := 2197) hx hb dX10_sink_3 (by decide) ?_
      refine lv_icmp_ge (tgt := 74) hx hb dX10_sink_6 (by decide) (fun c6 => ?_) (fun c6 => ?_)
      · replace h := q_t c6 h
        have er := q_inj h
        subst er
        exact hret _ _ _ _ (hP.sub [0, 1] rfl) (hD.sub [0, 1] rfl rfl) hS dX10_sink_74
      · replace h := q_f c6 h
        refine lv_iload_n hx hb dX10_sink_9 rfl (lv_at hl 2 rfl) ?_
        refine lv_iload_n hx hb dX10_sink_10 rfl (lv_at hl 1 rfl) ?_
        obtain ⟨hg7, h⟩ := q_g h
        refine lv_idiv hx hb dX10_sink_11 hg7 ?_
        refine lv_bipush (v := 13) hx hb dX10_sink_12 (by decide) ?_
        refine lv_irem hx hb dX10_sink_14 (by decide) ?_
        refine lv_if_le (tgt := 22) hx hb dX10_sink_15 (by decide) (fun c8 => ?_) (fun c8 => ?_)
        · replace h := q_t c8 h
          refine lv_iconst (v := 0) hx hb dX10_sink_22 (by decide) ?_
          exact J23 x2 0 stood_ h _ _ _ (hP.sub [0, 1] rfl) (hD.sub [0, 1] rfl rfl) hS (lv_sub hl [0, 1, 2] rfl)
        · replace h := q_f c8 h
          refine lv_iconst (v := 1) hx hb dX10_sink_18 (by decide) ?_
          refine lv_goto (tgt := 23) hx hb dX10_sink_19 (by decide) ?_
          exact J23 x2 1 stood_ h _ _ _ (hP.sub [0, 1] rfl) (hD.sub [0, 1] rfl rfl) hS (lv_sub hl [0, 1, 2] rfl)
  refine lv_iload_n hx hb dX10_sink_0 rfl (lv_at hl 1 rfl) ?_
  refine lv_istore_n (lv' := [(2, .int x1), (0, .ref q_this), (1, .int x1)]) hx hb dX10_sink_1 rfl hl (by decide) rfl (fun ls hl => ?_)
  exact J2 N x1 stood_ h _ _ _ (hP.sub [0, 1] rfl) (hD.sub [0, 1] rfl rfl) hS (lv_sub hl [1, 2, 0] rfl)
abbrev rm_X10_tables : Room := { frames := 4, cells := 0, slots := 0, locals := 91 }
theorem lk_X10_tables_0 : Cond.fieldLink RX10 78 "OnlyPrimesModel" "stood" "[I" ∈ wsX10_tables := List.mem_of_getElem? (i := 1) (by decide +kernel)
theorem iw_X10_tables_X10 : ∀ w ∈ wsX100, w ∈ wsX10_tables := by decide +kernel
theorem nd_X10_tables : yX10_tables.cls ≠ "java/lang/invoke/MethodHandle" ∧ yX10_tables.cls ≠ "java/lang/invoke/VarHandle" ∧ (parseMethodDescriptor yX10_tables.desc).map (fun d => d.parameters.length) = some 5 := by decide +kernel
theorem vd_X10_tables : yX10_tables.cls = RX10 ∧ yX10_tables.cls ≠ "java/lang/invoke/MethodHandle" ∧ yX10_tables.cls ≠ "java/lang/invoke/VarHandle" ∧ (parseMethodDescriptor yX10_tables.desc).map (fun d => d.parameters.length) = some 5 := by decide +kernel
set_option maxHeartbeats 4000000 in
set_option maxRecDepth 100000 in
theorem c_X10_tables (l : Launch) (D : va_G) (E : q_En) (kI kB kQ : ClassId) (q_this : Nat) (q_this_all : Nat) (q_this_refused : Nat) (q_this_stood : Nat) (v_this_isKept : Value) (v_this_ways : Value) (v_this_starts : Value) (v_this_homes : Value) (v_this_hours : Value) (v_this_froms : Value) (v_this_tos : Value) (v_this_whos : Value) (v_this_place : Value) (v_this_since : Value) (v_this_rows : Value) (v_this_few : Value) (v_this_most : Value) (v_this_parts : Value) (v_this_fewParts : Value) (v_this_mostParts : Value) (v_this_far : Value) (v_this_queue : Value) (v_this_gone : Value) (v_this_trips : Value) (above_ : Int32) (below_ : Int32) (at_ : Int32) (start_ : Int32) (sort_ : Int32) (value_ : Int32) (fault_ : Int32) (men_ : Int32) (gos_ : Int32) (sum_ : Int64) (all_ : Nat → Int32) (refused_ : Nat → Int32) (stood_ : Nat → Int32) (x1 : Int32) (x2 : Int32) (x3 : Int32) (x4 : Int32) (x5 : Int32) (N : Nat) (r : Int32 × (Nat → Int32) × (Nat → Int32)) (hf : g_X10_tables N all_ refused_ stood_ x1 x2 x3 x4 x5 = some r) : CtI l D E yX10_tables wsX10_tables rm_X10_tables (q_tys kI kB kQ) [.ref q_this, .int x1, .int x2, .int x3, .int x4, .int x5] [(q_this, .inr (10, [.ref q_this_all, v_this_isKept, .ref q_this_refused, .int above_, .int below_, .int at_, .int start_, .int sort_, .int value_, .int fault_, .int men_, .int gos_, v_this_ways, v_this_starts, v_this_homes, v_this_hours, v_this_froms, v_this_tos, v_this_whos, v_this_place, v_this_since, v_this_rows, v_this_few, v_this_most, v_this_parts, v_this_fewParts, v_this_mostParts, v_this_far, v_this_queue, v_this_gone, .ref q_this_stood, v_this_trips, .long sum_])), (q_this_all, .inl (kI, 1080, .inl all_)), (q_this_refused, .inl (kI, 3, .inl refused_)), (q_this_stood, .inl (kI, 2197, .inl stood_))] [(q_this, .inr (10, [.ref q_this_all, v_this_isKept, .ref q_this_refused, .int above_, .int below_, .int at_, .int start_, .int sort_, .int value_, .int fault_, .int men_, .int gos_, v_this_ways, v_this_starts, v_this_homes, v_this_hours, v_this_froms, v_this_tos, v_this_whos, v_this_place, v_this_since, v_this_rows, v_this_few, v_this_most, v_this_parts, v_this_fewParts, v_this_mostParts, v_this_far, v_this_queue, v_this_gone, .ref q_this_stood, v_this_trips, .long sum_])), (q_this_all, .inl (kI, 1080, .inl all_)), (q_this_refused, .inl (kI, 3, .inl r.2.1)), (q_this_stood, .inl (kI, 2197, .inl r.2.2))] r.1 := by
  refine q_enterI cX10_tables 9 RX10 (by decide) rfl (Nat.le_of_ble_eq_true rfl) rfl ?_
  intro p e s m args below meth c Q A ls H hx hb hml hown hts hK hN hE hA hP hS hD hl hret
  have hl : lv_has ls 9 [(0, .ref q_this), (1, .int x1), (2, .int x2), (3, .int x3), (4, .int x4), (5, .int x5)] := hl
  have h := hf
  rw [g_X10_tables] at h
  have J228 : ∀ (n228 : Nat) (x6 : Int32) (x7 : Int32) (x8 : Int32) (refused_ : Nat → Int32) (stood_ : Nat → Int32), g_X10_tables_228 x4 x5 n228 x6 x7 x8 refused_ stood_ = some r → ∀ (H : Heap) (locs : List Loc) (ls : Array Slot), va_P D vwCl [(q_this, .inr (10, [.ref q_this_all, v_this_isKept, .ref q_this_refused, .int above_, .int below_, .int at_, .int start_, .int sort_, .int value_, .int fault_, .int men_, .int gos_, v_this_ways, v_this_starts, v_this_homes, v_this_hours, v_this_froms, v_this_tos, v_this_whos, v_this_place, v_this_since, v_this_rows, v_this_few, v_this_most, v_this_parts, v_this_fewParts, v_this_mostParts, v_this_far, v_this_queue, v_this_gone, .ref q_this_stood, v_this_trips, .long sum_])), (q_this_all, .inl (kI, 1080, .inl all_)), (q_this_refused, .inl (kI, 3, .inl refused_)), (q_this_stood, .inl (kI, 2197, .inl stood_))] H → va_D A [(q_this, .inr (10, [.ref q_this_all, v_this_isKept, .ref q_this_refused, .int above_, .int below_, .int at_, .int start_, .int sort_, .int value_, .int fault_, .int men_, .int gos_, v_this_ways, v_this_starts, v_this_homes, v_this_hours, v_this_froms, v_this_tos, v_this_whos, v_this_place, v_this_since, v_this_rows, v_this_few, v_this_most, v_this_parts, v_this_fewParts, v_this_mostParts, v_this_far, v_this_queue, v_this_gone, .ref q_this_stood, v_this_trips, .long sum_])), (q_this_all, .inl (kI, 1080, .inl all_)), (q_this_refused, .inl (kI, 3, .inl refused_)), (q_this_stood, .inl (kI, 2197, .inl stood_))] → va_S A s.heap H locs → lv_has ls 9 [(0, .ref q_this), (4, .int x4), (5, .int x5), (6, .int x6), (7, .int x7), (8, .int x8)] → W p l e rm_X10_tables s m args below meth c H locs 0 0 Q (F0 m 228 ls []) := by
    intro n228
    induction n228 with
    | zero => intro x6 x7 x8 refused_ stood_ h; exact absurd h (by rw [g_X10_tables_228]; exact fun q => nomatch q)
    | succ n228 ih228 =>
      intro x6 x7 x8 refused_ stood_ h H locs ls hP hD hS hl
      rw [g_X10_tables_228] at h
      have J260 : ∀ (x7 : Int32) (x8 : Int32) (t0 : Int32) (refused_ : Nat → Int32) (stood_ : Nat → Int32), g_X10_tables_260 (g_X10_tables_228 x4 x5 n228) x7 x8 t0 refused_ stood_ = some r → ∀ (H : Heap) (locs : List Loc) (ls : Array Slot), va_P D vwCl [(q_this, .inr (10, [.ref q_this_all, v_this_isKept, .ref q_this_refused, .int above_, .int below_, .int at_, .int start_, .int sort_, .int value_, .int fault_, .int men_, .int gos_, v_this_ways, v_this_starts, v_this_homes, v_this_hours, v_this_froms, v_this_tos, v_this_whos, v_this_place, v_this_since, v_this_rows, v_this_few, v_this_most, v_this_parts, v_this_fewParts, v_this_mostParts, v_this_far, v_this_queue, v_this_gone, .ref q_this_stood, v_this_trips, .long sum_])), (q_this_all, .inl (kI, 1080, .inl all_)), (q_this_refused, .inl (kI, 3, .inl refused_)), (q_this_stood, .inl (kI, 2197, .inl stood_))] H → va_D A [(q_this, .inr (10, [.ref q_this_all, v_this_isKept, .ref q_this_refused, .int above_, .int below_, .int at_, .int start_, .int sort_, .int value_, .int fault_, .int men_, .int gos_, v_this_ways, v_this_starts, v_this_homes, v_this_hours, v_this_froms, v_this_tos, v_this_whos, v_this_place, v_this_since, v_this_rows, v_this_few, v_this_most, v_this_parts, v_this_fewParts, v_this_mostParts, v_this_far, v_this_queue, v_this_gone, .ref q_this_stood, v_this_trips, .long sum_])), (q_this_all, .inl (kI, 1080, .inl all_)), (q_this_refused, .inl (kI, 3, .inl refused_)), (q_this_stood, .inl (kI, 2197, .inl stood_))] → va_S A s.heap H locs → lv_has ls 9 [(0, .ref q_this), (4, .int x4), (5, .int x5), (7, .int x7), (8, .int x8)] → W p l e rm_X10_tables s m args below meth c H locs 0 0 Q (F0 m 260 ls [.int t0]) := by
        intro x7 x8 t0 refused_ stood_ h H locs ls hP hD hS hl
        rw [g_X10_tables_260] at h
        refine lv_istore (lv' := [(6, .int t0), (0, .ref q_this), (4, .int x4), (5, .int x5), (7, .int x7), (8, .int x8)]) hx hb dX10_tables_260 hl (by decide) rfl (fun ls hl => ?_)
        refine lv_aload_n hx hb dX10_tables_262 rfl (lv_at hl 1 rfl) ?_
        refine va_get (D := D) (ci := 10) (C := RX10) (T := TX10) (N := 33) hx hb hts iw_X10_tables_X10 hown hK hP 0 rfl rfl 30 (by decide) (hts _ lk_X10_tables_0) (fun _ h9 => h9) rfl dX10_tables_263 ?_
        refine lv_iload hx hb dX10_tables_266 (lv_at hl 5 rfl) ?_
        obtain ⟨hg1, h⟩ := q_g h
        refine va_iald hx hb hK hP 3 0 rfl rfl (inb_vp hg1) dX10_tables_268 ?_
        refine lv_sipush (v := 9999) hx hb dX10_tables_269 (by decide) ?_
        refine lv_icmp_ge (tgt := 293) hx hb dX10_tables_272 (by decide) (fun c2 => ?_) (fun c2 => ?_)
        · replace h := q_t c2 h
          refine lv_iload hx hb dX10_tables_293 (lv_at hl 4 rfl) ?_
          refine lv_istore (lv' := [(7, .int x7), (6, .int t0), (0, .ref q_this), (4, .int x4), (5, .int x5), (8, .int x8)]) hx hb dX10_tables_295 hl (by decide) rfl (fun ls hl => ?_)
          refine lv_iinc (v := (x8 + 1)) (lv' := [(8, .int (x8 + 1)), (7, .int x7), (6, .int t0), (0, .ref q_this), (4, .int x4), (5, .int x5)]) hx hb dX10_tables_297 hl (k := 5) rfl rfl (by decide) rfl (fun ls hl => ?_)
          refine lv_goto (tgt := 228) hx hb dX10_tables_300 (by decide) ?_
          exact ih228 t0 x7 (x8 + 1) refused_ stood_ h _ _ _ (hP.sub [0, 1, 2, 3] rfl) (hD.sub [0, 1, 2, 3] rfl rfl) hS (lv_sub hl [3, 4, 5, 2, 1, 0] rfl)
        · replace h := q_f c2 h
          refine lv_iload hx hb dX10_tables_275 (lv_at hl 5 rfl) ?_
          obtain ⟨u277, hu277, h⟩ := q_b h
          refine q_aI (va_runS (As := [.int x8]) (rest := []) ⟨hx, hb, hml, hown, hts⟩ (c_X10_seated l D E kI kB kQ x8 N u277 hu277 H.size) (va_cwS 1 hts gX10_tables_X10_seated rfl rfl rfl nd_X10_seated ⟨Nat.le_of_ble_eq_true rfl, Nat.le_of_ble_eq_true rfl⟩) (q_ps hK hN hE hS hA hP hD [] rfl rfl rfl) rfl rfl hl.1 rfl (lv_room (Nat.le_of_ble_eq_true rfl)) dX10_tables_277 ⟨Nat.zero_le _, Nat.zero_le _⟩) hP hD hS hA [] [0, 1, 2, 3] (Wr := [(q_this, .inr (10, [.ref q_this_all, v_this_isKept, .ref q_this_refused, .int above_, .int below_, .int at_, .int start_, .int sort_, .int value_, .int fault_, .int men_, .int gos_, v_this_ways, v_this_starts, v_this_homes, v_this_hours, v_this_froms, v_this_tos, v_this_whos, v_this_place, v_this_since, v_this_rows, v_this_few, v_this_most, v_this_parts, v_this_fewParts, v_this_mostParts, v_this_far, v_this_queue, v_this_gone, .ref q_this_stood, v_this_trips, .long sum_])), (q_this_all, .inl (kI, 1080, .inl all_)), (q_this_refused, .inl (kI, 3, .inl refused_)), (q_this_stood, .inl (kI, 2197, .inl stood_))]) rfl rfl rfl (by decide) (fun H locs hP hD hS => ?_)
          have hP : va_P D vwCl [(q_this, .inr (10, [.ref q_this_all, v_this_isKept, .ref q_this_refused, .int above_, .int below_, .int at_, .int start_, .int sort_, .int value_, .int fault_, .int men_, .int gos_, v_this_ways, v_this_starts, v_this_homes, v_this_hours, v_this_froms, v_this_tos, v_this_whos, v_this_place, v_this_since, v_this_rows, v_this_few, v_this_most, v_this_parts, v_this_fewParts, v_this_mostParts, v_this_far, v_this_queue, v_this_gone, .ref q_this_stood, v_this_trips, .long sum_])), (q_this_all, .inl (kI, 1080, .inl all_)), (q_this_refused, .inl (kI, 3, .inl refused_)), (q_this_stood, .inl (kI, 2197, .inl stood_))] H := hP
          have hD : va_D A [(q_this, .inr (10, [.ref q_this_all, v_this_isKept, .ref q_this_refused, .int above_, .int below_, .int at_, .int start_, .int sort_, .int value_, .int fault_, .int men_, .int gos_, v_this_ways, v_this_starts, v_this_homes, v_this_hours, v_this_froms, v_this_tos, v_this_whos, v_this_place, v_this_since, v_this_rows, v_this_few, v_this_most, v_this_parts, v_this_fewParts, v_this_mostParts, v_this_far, v_this_queue, v_this_gone, .ref q_this_stood, v_this_trips, .long sum_])), (q_this_all, .inl (kI, 1080, .inl all_)), (q_this_refused, .inl (kI, 3, .inl refused_)), (q_this_stood, .inl (kI, 2197, .inl stood_))] := hD
          refine lv_iload hx hb dX10_tables_280 (lv_at hl 4 rfl) ?_
          refine lv_icmp_le (tgt := 293) hx hb dX10_tables_282 (by decide) (fun c3 => ?_) (fun c3 => ?_)
          · replace h := q_t c3 h
            refine lv_iload hx hb dX10_tables_293 (lv_at hl 4 rfl) ?_
            refine lv_istore (lv' := [(7, .int x7), (6, .int t0), (0, .ref q_this), (4, .int x4), (5, .int x5), (8, .int x8)]) hx hb dX10_tables_295 hl (by decide) rfl (fun ls hl => ?_)
            refine lv_iinc (v := (x8 + 1)) (lv' := [(8, .int (x8 + 1)), (7, .int x7), (6, .int t0), (0, .ref q_this), (4, .int x4), (5, .int x5)]) hx hb dX10_tables_297 hl (k := 5) rfl rfl (by decide) rfl (fun ls hl => ?_)
            refine lv_goto (tgt := 228) hx hb dX10_tables_300 (by decide) ?_
            exact ih228 t0 x7 (x8 + 1) refused_ stood_ h _ _ _ (hP.sub [0, 1, 2, 3] rfl) (hD.sub [0, 1, 2, 3] rfl rfl) hS (lv_sub hl [3, 4, 5, 2, 1, 0] rfl)
          · replace h := q_f c3 h
            refine lv_iload hx hb dX10_tables_285 (lv_at hl 5 rfl) ?_
            obtain ⟨u287, hu287, h⟩ := q_b h
            refine q_aI (va_runS (As := [.int x8]) (rest := []) ⟨hx, hb, hml, hown, hts⟩ (c_X10_seated l D E kI kB kQ x8 N u287 hu287 H.size) (va_cwS 1 hts gX10_tables_X10_seated rfl rfl rfl nd_X10_seated ⟨Nat.le_of_ble_eq_true rfl, Nat.le_of_ble_eq_true rfl⟩) (q_ps hK hN hE hS hA hP hD [] rfl rfl rfl) rfl rfl hl.1 rfl (lv_room (Nat.le_of_ble_eq_true rfl)) dX10_tables_287 ⟨Nat.zero_le _, Nat.zero_le _⟩) hP hD hS hA [] [0, 1, 2, 3] (Wr := [(q_this, .inr (10, [.ref q_this_all, v_this_isKept, .ref q_this_refused, .int above_, .int below_, .int at_, .int start_, .int sort_, .int value_, .int fault_, .int men_, .int gos_, v_this_ways, v_this_starts, v_this_homes, v_this_hours, v_this_froms, v_this_tos, v_this_whos, v_this_place, v_this_since, v_this_rows, v_this_few, v_this_most, v_this_parts, v_this_fewParts, v_this_mostParts, v_this_far, v_this_queue, v_this_gone, .ref q_this_stood, v_this_trips, .long sum_])), (q_this_all, .inl (kI, 1080, .inl all_)), (q_this_refused, .inl (kI, 3, .inl refused_)), (q_this_stood, .inl (kI, 2197, .inl stood_))]) rfl rfl rfl (by decide) (fun H locs hP hD hS => ?_)
            have hP : va_P D vwCl [(q_this, .inr (10, [.ref q_this_all, v_this_isKept, .ref q_this_refused, .int above_, .int below_, .int at_, .int start_, .int sort_, .int value_, .int fault_, .int men_, .int gos_, v_this_ways, v_this_starts, v_this_homes, v_this_hours, v_this_froms, v_this_tos, v_this_whos, v_this_place, v_this_since, v_this_rows, v_this_few, v_this_most, v_this_parts, v_this_fewParts, v_this_mostParts, v_this_far, v_this_queue, v_this_gone, .ref q_this_stood, v_this_trips, .long sum_])), (q_this_all, .inl (kI, 1080, .inl all_)), (q_this_refused, .inl (kI, 3, .inl refused_)), (q_this_stood, .inl (kI, 2197, .inl stood_))] H := hP
            have hD : va_D A [(q_this, .inr (10, [.ref q_this_all, v_this_isKept, .ref q_this_refused, .int above_, .int below_, .int at_, .int start_, .int sort_, .int value_, .int fault_, .int men_, .int gos_, v_this_ways, v_this_starts, v_this_homes, v_this_hours, v_this_froms, v_this_tos, v_this_whos, v_this_place, v_this_since, v_this_rows, v_this_few, v_this_most, v_this_parts, v_this_fewParts, v_this_mostParts, v_this_far, v_this_queue, v_this_gone, .ref q_this_stood, v_this_trips, .long sum_])), (q_this_all, .inl (kI, 1080, .inl all_)), (q_this_refused, .inl (kI, 3, .inl refused_)), (q_this_stood, .inl (kI, 2197, .inl stood_))] := hD
            refine lv_goto (tgt := 295) hx hb dX10_tables_290 (by decide) ?_
            refine lv_istore (lv' := [(7, .int u287), (6, .int t0), (0, .ref q_this), (4, .int x4), (5, .int x5), (8, .int x8)]) hx hb dX10_tables_295 hl (by decide) rfl (fun ls hl => ?_)
            refine lv_iinc (v := (x8 + 1)) (lv' := [(8, .int (x8 + 1)), (7, .int u287), (6, .int t0), (0, .ref q_this), (4, .int x4), (5, .int x5)]) hx hb dX10_tables_297 hl (k := 5) rfl rfl (by decide) rfl (fun ls hl => ?_)
            refine lv_goto (tgt := 228) hx hb dX10_tables_300 (by decide) ?_
            exact ih228 t0 u287 (x8 + 1) refused_ stood_ h _ _ _ (hP.sub [0, 1, 2, 3] rfl) (hD.sub [0, 1, 2, 3] rfl rfl) hS (lv_sub hl [3, 4, 5, 2, 1, 0] rfl)
      refine lv_iload hx hb dX10_tables_228 (lv_at hl 5 rfl) ?_
      refine lv_sipush (v := 2197) hx hb dX10_tables_230 (by decide) ?_
      refine lv_icmp_ge (tgt := 303) hx hb dX10_tables_233 (by decide) (fun c4 => ?_) (fun c4 => ?_)
      · replace h := q_t c4 h
        refine lv_iload hx hb dX10_tables_303 (lv_at hl 2 rfl) ?_
        refine lv_if_ne (tgt := 313) hx hb dX10_tables_305 (by decide) (fun c5 => ?_) (fun c5 => ?_)
        · replace h := q_f c5 h
          refine lv_iload hx hb dX10_tables_313 (lv_at hl 1 rfl) ?_
          refine lv_iload hx hb dX10_tables_315 (lv_at hl 4 rfl) ?_
          refine lv_isub hx hb dX10_tables_317 ?_
          have er := q_inj h
          subst er
          exact hret _ _ _ _ (hP.sub [0, 1, 2, 3] rfl) (hD.sub [0, 1, 2, 3] rfl rfl) hS dX10_tables_318
        · replace h := q_t c5 h
          refine lv_iload hx hb dX10_tables_308 (lv_at hl 3 rfl) ?_
          refine lv_goto (tgt := 318) hx hb dX10_tables_310 (by decide) ?_
          have er := q_inj h
          subst er
          exact hret _ _ _ _ (hP.sub [0, 1, 2, 3] rfl) (hD.sub [0, 1, 2, 3] rfl rfl) hS dX10_tables_318
      · replace h := q_f c4 h
        refine lv_aload_n hx hb dX10_tables_236 rfl (lv_at hl 0 rfl) ?_
        refine va_get (D := D) (ci := 10) (C := RX10) (T := TX10) (N := 33) hx hb hts iw_X10_tables_X10 hown hK hP 0 rfl rfl 30 (by decide) (hts _ lk_X10_tables_0) (fun _ h9 => h9) rfl dX10_tables_237 ?_
        refine lv_iload hx hb dX10_tables_240 (lv_at hl 5 rfl) ?_
        obtain ⟨hg6, h⟩ := q_g h
        refine va_iald hx hb hK hP 3 0 rfl rfl (inb_vp hg6) dX10_tables_242 ?_
        refine lv_iload hx hb dX10_tables_243 (lv_at hl 3 rfl) ?_
        refine lv_icmp_ge (tgt := 258) hx hb dX10_tables_245 (by decide) (fun c7 => ?_) (fun c7 => ?_)
        · replace h := q_t c7 h
          refine lv_iload hx hb dX10_tables_258 (lv_at hl 3 rfl) ?_
          exact J260 x7 x8 x6 refused_ stood_ h _ _ _ (hP.sub [0, 1, 2, 3] rfl) (hD.sub [0, 1, 2, 3] rfl rfl) hS (lv_sub hl [0, 1, 2, 4, 5] rfl)
        · replace h := q_f c7 h
          refine lv_aload_n hx hb dX10_tables_248 rfl (lv_at hl 0 rfl) ?_
          refine va_get (D := D) (ci := 10) (C := RX10) (T := TX10) (N := 33) hx hb hts iw_X10_tables_X10 hown hK hP 0 rfl rfl 30 (by decide) (hts _ lk_X10_tables_0) (fun _ h9 => h9) rfl dX10_tables_249 ?_
          refine lv_iload hx hb dX10_tables_252 (lv_at hl 5 rfl) ?_
          refine va_iald hx hb hK hP 3 0 rfl rfl (inb_vp hg6) dX10_tables_254 ?_
          refine lv_goto (tgt := 260) hx hb dX10_tables_255 (by decide) ?_
          exact J260 x7 x8 (stood_ x8.toNatClampNeg) refused_ stood_ h _ _ _ (hP.sub [0, 1, 2, 3] rfl) (hD.sub [0, 1, 2, 3] rfl rfl) hS (lv_sub hl [0, 1, 2, 4, 5] rfl)
  have J93 : ∀ (n93 : Nat) (x6 : Int32) (refused_ : Nat → Int32) (stood_ : Nat → Int32), g_X10_tables_93 N all_ x1 x2 x3 x4 x5 n93 x6 refused_ stood_ = some r → ∀ (H : Heap) (locs : List Loc) (ls : Array Slot), va_P D vwCl [(q_this, .inr (10, [.ref q_this_all, v_this_isKept, .ref q_this_refused, .int above_, .int below_, .int at_, .int start_, .int sort_, .int value_, .int fault_, .int men_, .int gos_, v_this_ways, v_this_starts, v_this_homes, v_this_hours, v_this_froms, v_this_tos, v_this_whos, v_this_place, v_this_since, v_this_rows, v_this_few, v_this_most, v_this_parts, v_this_fewParts, v_this_mostParts, v_this_far, v_this_queue, v_this_gone, .ref q_this_stood, v_this_trips, .long sum_])), (q_this_all, .inl (kI, 1080, .inl all_)), (q_this_refused, .inl (kI, 3, .inl refused_)), (q_this_stood, .inl (kI, 2197, .inl stood_))] H → va_D A [(q_this, .inr (10, [.ref q_this_all, v_this_isKept, .ref q_this_refused, .int above_, .int below_, .int at_, .int start_, .int sort_, .int value_, .int fault_, .int men_, .int gos_, v_this_ways, v_this_starts, v_this_homes, v_this_hours, v_this_froms, v_this_tos, v_this_whos, v_this_place, v_this_since, v_this_rows, v_this_few, v_this_most, v_this_parts, v_this_fewParts, v_this_mostParts, v_this_far, v_this_queue, v_this_gone, .ref q_this_stood, v_this_trips, .long sum_])), (q_this_all, .inl (kI, 1080, .inl all_)), (q_this_refused, .inl (kI, 3, .inl refused_)), (q_this_stood, .inl (kI, 2197, .inl stood_))] → va_S A s.heap H locs → lv_has ls 9 [(0, .ref q_this), (1, .int x1), (2, .int x2), (3, .int x3), (4, .int x4), (5, .int x5), (6, .int x6)] → W p l e rm_X10_tables s m args below meth c H locs 0 0 Q (F0 m 93 ls []) := by
    intro n93
    induction n93 with
    | zero => intro x6 refused_ stood_ h; exact absurd h (by rw [g_X10_tables_93]; exact fun q => nomatch q)
    | succ n93 ih93 =>
      intro x6 refused_ stood_ h H locs ls hP hD hS hl
      rw [g_X10_tables_93] at h
      have J121 : ∀ (n121 : Nat) (x6 : Int32) (x7 : Int32) (refused_ : Nat → Int32) (stood_ : Nat → Int32), g_X10_tables_121 N all_ x1 x2 x3 (g_X10_tables_93 N all_ x1 x2 x3 x4 x5 n93) n121 x6 x7 refused_ stood_ = some r → ∀ (H : Heap) (locs : List Loc) (ls : Array Slot), va_P D vwCl [(q_this, .inr (10, [.ref q_this_all, v_this_isKept, .ref q_this_refused, .int above_, .int below_, .int at_, .int start_, .int sort_, .int value_, .int fault_, .int men_, .int gos_, v_this_ways, v_this_starts, v_this_homes, v_this_hours, v_this_froms, v_this_tos, v_this_whos, v_this_place, v_this_since, v_this_rows, v_this_few, v_this_most, v_this_parts, v_this_fewParts, v_this_mostParts, v_this_far, v_this_queue, v_this_gone, .ref q_this_stood, v_this_trips, .long sum_])), (q_this_all, .inl (kI, 1080, .inl all_)), (q_this_refused, .inl (kI, 3, .inl refused_)), (q_this_stood, .inl (kI, 2197, .inl stood_))] H → va_D A [(q_this, .inr (10, [.ref q_this_all, v_this_isKept, .ref q_this_refused, .int above_, .int below_, .int at_, .int start_, .int sort_, .int value_, .int fault_, .int men_, .int gos_, v_this_ways, v_this_starts, v_this_homes, v_this_hours, v_this_froms, v_this_tos, v_this_whos, v_this_place, v_this_since, v_this_rows, v_this_few, v_this_most, v_this_parts, v_this_fewParts, v_this_mostParts, v_this_far, v_this_queue, v_this_gone, .ref q_this_stood, v_this_trips, .long sum_])), (q_this_all, .inl (kI, 1080, .inl all_)), (q_this_refused, .inl (kI, 3, .inl refused_)), (q_this_stood, .inl (kI, 2197, .inl stood_))] → va_S A s.heap H locs → lv_has ls 9 [(0, .ref q_this), (1, .int x1), (2, .int x2), (3, .int x3), (4, .int x4), (5, .int x5), (6, .int x6), (7, .int x7)] → W p l e rm_X10_tables s m args below meth c H locs 0 0 Q (F0 m 121 ls []) := by
        intro n121
        induction n121 with
        | zero => intro x6 x7 refused_ stood_ h; exact absurd h (by rw [g_X10_tables_121]; exact fun q => nomatch q)
        | succ n121 ih121 =>
          intro x6 x7 refused_ stood_ h H locs ls hP hD hS hl
          rw [g_X10_tables_121] at h
          have J169 : ∀ (x6 : Int32) (x7 : Int32) (t0 : Int32) (refused_ : Nat → Int32) (stood_ : Nat → Int32), g_X10_tables_169 (g_X10_tables_121 N all_ x1 x2 x3 (g_X10_tables_93 N all_ x1 x2 x3 x4 x5 n93) n121) x6 x7 t0 refused_ stood_ = some r → ∀ (H : Heap) (locs : List Loc) (ls : Array Slot), va_P D vwCl [(q_this, .inr (10, [.ref q_this_all, v_this_isKept, .ref q_this_refused, .int above_, .int below_, .int at_, .int start_, .int sort_, .int value_, .int fault_, .int men_, .int gos_, v_this_ways, v_this_starts, v_this_homes, v_this_hours, v_this_froms, v_this_tos, v_this_whos, v_this_place, v_this_since, v_this_rows, v_this_few, v_this_most, v_this_parts, v_this_fewParts, v_this_mostParts, v_this_far, v_this_queue, v_this_gone, .ref q_this_stood, v_this_trips, .long sum_])), (q_this_all, .inl (kI, 1080, .inl all_)), (q_this_refused, .inl (kI, 3, .inl refused_)), (q_this_stood, .inl (kI, 2197, .inl stood_))] H → va_D A [(q_this, .inr (10, [.ref q_this_all, v_this_isKept, .ref q_this_refused, .int above_, .int below_, .int at_, .int start_, .int sort_, .int value_, .int fault_, .int men_, .int gos_, v_this_ways, v_this_starts, v_this_homes, v_this_hours, v_this_froms, v_this_tos, v_this_whos, v_this_place, v_this_since, v_this_rows, v_this_few, v_this_most, v_this_parts, v_this_fewParts, v_this_mostParts, v_this_far, v_this_queue, v_this_gone, .ref q_this_stood, v_this_trips, .long sum_])), (q_this_all, .inl (kI, 1080, .inl all_)), (q_this_refused, .inl (kI, 3, .inl refused_)), (q_this_stood, .inl (kI, 2197, .inl stood_))] → va_S A s.heap H locs → lv_has ls 9 [(0, .ref q_this), (1, .int x1), (2, .int x2), (3, .int x3), (4, .int x4), (5, .int x5), (6, .int x6), (7, .int x7)] → W p l e rm_X10_tables s m args below meth c H locs 0 0 Q (F0 m 169 ls [.int t0]) := by
            intro x6 x7 t0 refused_ stood_ h H locs ls hP hD hS hl
            rw [g_X10_tables_169] at h
            refine lv_istore (lv' := [(8, .int t0), (0, .ref q_this), (1, .int x1), (2, .int x2), (3, .int x3), (4, .int x4), (5, .int x5), (6, .int x6), (7, .int x7)]) hx hb dX10_tables_169 hl (by decide) rfl (fun ls hl => ?_)
            refine lv_aload_n hx hb dX10_tables_171 rfl (lv_at hl 1 rfl) ?_
            refine va_get (D := D) (ci := 10) (C := RX10) (T := TX10) (N := 33) hx hb hts iw_X10_tables_X10 hown hK hP 0 rfl rfl 30 (by decide) (hts _ lk_X10_tables_0) (fun _ h9 => h9) rfl dX10_tables_172 ?_
            refine lv_iload hx hb dX10_tables_175 (lv_at hl 8 rfl) ?_
            refine lv_iload hx hb dX10_tables_177 (lv_at hl 0 rfl) ?_
            refine lv_if_eq (tgt := 201) hx hb dX10_tables_179 (by decide) (fun c8 => ?_) (fun c8 => ?_)
            · replace h := q_t c8 h
              refine lv_sipush (v := 9999) hx hb dX10_tables_201 (by decide) ?_
              obtain ⟨hg9, h⟩ := q_g h
              refine va_iast hx hb hK hP hD hS 3 0 rfl rfl (inb_vp hg9) dX10_tables_204 (fun H locs hP hD hS => ?_)
              have hP : va_P D vwCl [(q_this, .inr (10, [.ref q_this_all, v_this_isKept, .ref q_this_refused, .int above_, .int below_, .int at_, .int start_, .int sort_, .int value_, .int fault_, .int men_, .int gos_, v_this_ways, v_this_starts, v_this_homes, v_this_hours, v_this_froms, v_this_tos, v_this_whos, v_this_place, v_this_since, v_this_rows, v_this_few, v_this_most, v_this_parts, v_this_fewParts, v_this_mostParts, v_this_far, v_this_queue, v_this_gone, .ref q_this_stood, v_this_trips, .long sum_])), (q_this_all, .inl (kI, 1080, .inl all_)), (q_this_refused, .inl (kI, 3, .inl refused_)), (q_this_stood, .inl (kI, 2197, .inl (upd stood_ x7.toNatClampNeg 9999)))] H := hP
              have hD : va_D A [(q_this, .inr (10, [.ref q_this_all, v_this_isKept, .ref q_this_refused, .int above_, .int below_, .int at_, .int start_, .int sort_, .int value_, .int fault_, .int men_, .int gos_, v_this_ways, v_this_starts, v_this_homes, v_this_hours, v_this_froms, v_this_tos, v_this_whos, v_this_place, v_this_since, v_this_rows, v_this_few, v_this_most, v_this_parts, v_this_fewParts, v_this_mostParts, v_this_far, v_this_queue, v_this_gone, .ref q_this_stood, v_this_trips, .long sum_])), (q_this_all, .inl (kI, 1080, .inl all_)), (q_this_refused, .inl (kI, 3, .inl refused_)), (q_this_stood, .inl (kI, 2197, .inl (upd stood_ x7.toNatClampNeg 9999)))] := hD
              refine lv_iinc (v := (x7 + 1)) (lv' := [(7, .int (x7 + 1)), (8, .int t0), (0, .ref q_this), (1, .int x1), (2, .int x2), (3, .int x3), (4, .int x4), (5, .int x5), (6, .int x6)]) hx hb dX10_tables_205 hl (k := 8) rfl rfl (by decide) rfl (fun ls hl => ?_)
              refine lv_goto (tgt := 121) hx hb dX10_tables_208 (by decide) ?_
              exact ih121 x6 (x7 + 1) refused_ (upd stood_ x7.toNatClampNeg 9999) h _ _ _ (hP.sub [0, 1, 2, 3] rfl) (hD.sub [0, 1, 2, 3] rfl rfl) hS (lv_sub hl [2, 3, 4, 5, 6, 7, 8, 0] rfl)
            · replace h := q_f c8 h
              refine lv_aload_n hx hb dX10_tables_182 rfl (lv_at hl 1 rfl) ?_
              refine va_get (D := D) (ci := 10) (C := RX10) (T := TX10) (N := 33) hx hb hts iw_X10_tables_X10 hown hK hP 0 rfl rfl 30 (by decide) (hts _ lk_X10_tables_0) (fun _ h9 => h9) rfl dX10_tables_183 ?_
              refine lv_iload hx hb dX10_tables_186 (lv_at hl 8 rfl) ?_
              obtain ⟨hg10, h⟩ := q_g h
              refine va_iald hx hb hK hP 3 0 rfl rfl (inb_vp hg10) dX10_tables_188 ?_
              refine lv_iload hx hb dX10_tables_189 (lv_at hl 7 rfl) ?_
              refine lv_iadd hx hb dX10_tables_191 ?_
              refine lv_iload hx hb dX10_tables_192 (lv_at hl 8 rfl) ?_
              obtain ⟨u194, hu194, h⟩ := q_b h
              refine q_aI (va_runS (As := [.int x7]) (rest := [.int ((stood_ x7.toNatClampNeg) + x6), .int x7, .ref q_this_stood]) ⟨hx, hb, hml, hown, hts⟩ (c_X10_seated l D E kI kB kQ x7 N u194 hu194 H.size) (va_cwS 1 hts gX10_tables_X10_seated rfl rfl rfl nd_X10_seated ⟨Nat.le_of_ble_eq_true rfl, Nat.le_of_ble_eq_true rfl⟩) (q_ps hK hN hE hS hA hP hD [] rfl rfl rfl) rfl rfl hl.1 rfl (lv_room (Nat.le_of_ble_eq_true rfl)) dX10_tables_194 ⟨Nat.zero_le _, Nat.zero_le _⟩) hP hD hS hA [] [0, 1, 2, 3] (Wr := [(q_this, .inr (10, [.ref q_this_all, v_this_isKept, .ref q_this_refused, .int above_, .int below_, .int at_, .int start_, .int sort_, .int value_, .int fault_, .int men_, .int gos_, v_this_ways, v_this_starts, v_this_homes, v_this_hours, v_this_froms, v_this_tos, v_this_whos, v_this_place, v_this_since, v_this_rows, v_this_few, v_this_most, v_this_parts, v_this_fewParts, v_this_mostParts, v_this_far, v_this_queue, v_this_gone, .ref q_this_stood, v_this_trips, .long sum_])), (q_this_all, .inl (kI, 1080, .inl all_)), (q_this_refused, .inl (kI, 3, .inl refused_)), (q_this_stood, .inl (kI, 2197, .inl stood_))]) rfl rfl rfl (by decide) (fun H locs hP hD hS => ?_)
              have hP : va_P D vwCl [(q_this, .inr (10, [.ref q_this_all, v_this_isKept, .ref q_this_refused, .int above_, .int below_, .int at_, .int start_, .int sort_, .int value_, .int fault_, .int men_, .int gos_, v_this_ways, v_this_starts, v_this_homes, v_this_hours, v_this_froms, v_this_tos, v_this_whos, v_this_place, v_this_since, v_this_rows, v_this_few, v_this_most, v_this_parts, v_this_fewParts, v_this_mostParts, v_this_far, v_this_queue, v_this_gone, .ref q_this_stood, v_this_trips, .long sum_])), (q_this_all, .inl (kI, 1080, .inl all_)), (q_this_refused, .inl (kI, 3, .inl refused_)), (q_this_stood, .inl (kI, 2197, .inl stood_))] H := hP
              have hD : va_D A [(q_this, .inr (10, [.ref q_this_all, v_this_isKept, .ref q_this_refused, .int above_, .int below_, .int at_, .int start_, .int sort_, .int value_, .int fault_, .int men_, .int gos_, v_this_ways, v_this_starts, v_this_homes, v_this_hours, v_this_froms, v_this_tos, v_this_whos, v_this_place, v_this_since, v_this_rows, v_this_few, v_this_most, v_this_parts, v_this_fewParts, v_this_mostParts, v_this_far, v_this_queue, v_this_gone, .ref q_this_stood, v_this_trips, .long sum_])), (q_this_all, .inl (kI, 1080, .inl all_)), (q_this_refused, .inl (kI, 3, .inl refused_)), (q_this_stood, .inl (kI, 2197, .inl stood_))] := hD
              refine lv_isub hx hb dX10_tables_197 ?_
              refine lv_goto (tgt := 204) hx hb dX10_tables_198 (by decide) ?_
              refine va_iast hx hb hK hP hD hS 3 0 rfl rfl (inb_vp hg10) dX10_tables_204 (fun H locs hP hD hS => ?_)
              have hP : va_P D vwCl [(q_this, .inr (10, [.ref q_this_all, v_this_isKept, .ref q_this_refused, .int above_, .int below_, .int at_, .int start_, .int sort_, .int value_, .int fault_, .int men_, .int gos_, v_this_ways, v_this_starts, v_this_homes, v_this_hours, v_this_froms, v_this_tos, v_this_whos, v_this_place, v_this_since, v_this_rows, v_this_few, v_this_most, v_this_parts, v_this_fewParts, v_this_mostParts, v_this_far, v_this_queue, v_this_gone, .ref q_this_stood, v_this_trips, .long sum_])), (q_this_all, .inl (kI, 1080, .inl all_)), (q_this_refused, .inl (kI, 3, .inl refused_)), (q_this_stood, .inl (kI, 2197, .inl (upd stood_ x7.toNatClampNeg (((stood_ x7.toNatClampNeg) + x6) - u194))))] H := hP
              have hD : va_D A [(q_this, .inr (10, [.ref q_this_all, v_this_isKept, .ref q_this_refused, .int above_, .int below_, .int at_, .int start_, .int sort_, .int value_, .int fault_, .int men_, .int gos_, v_this_ways, v_this_starts, v_this_homes, v_this_hours, v_this_froms, v_this_tos, v_this_whos, v_this_place, v_this_since, v_this_rows, v_this_few, v_this_most, v_this_parts, v_this_fewParts, v_this_mostParts, v_this_far, v_this_queue, v_this_gone, .ref q_this_stood, v_this_trips, .long sum_])), (q_this_all, .inl (kI, 1080, .inl all_)), (q_this_refused, .inl (kI, 3, .inl refused_)), (q_this_stood, .inl (kI, 2197, .inl (upd stood_ x7.toNatClampNeg (((stood_ x7.toNatClampNeg) + x6) - u194))))] := hD
              refine lv_iinc (v := (x7 + 1)) (lv' := [(7, .int (x7 + 1)), (8, .int t0), (0, .ref q_this), (1, .int x1), (2, .int x2), (3, .int x3), (4, .int x4), (5, .int x5), (6, .int x6)]) hx hb dX10_tables_205 hl (k := 8) rfl rfl (by decide) rfl (fun ls hl => ?_)
              refine lv_goto (tgt := 121) hx hb dX10_tables_208 (by decide) ?_
              exact ih121 x6 (x7 + 1) refused_ (upd stood_ x7.toNatClampNeg (((stood_ x7.toNatClampNeg) + x6) - u194)) h _ _ _ (hP.sub [0, 1, 2, 3] rfl) (hD.sub [0, 1, 2, 3] rfl rfl) hS (lv_sub hl [2, 3, 4, 5, 6, 7, 8, 0] rfl)
          have J168 : ∀ (x6 : Int32) (x7 : Int32) (refused_ : Nat → Int32) (stood_ : Nat → Int32), g_X10_tables_168 (g_X10_tables_121 N all_ x1 x2 x3 (g_X10_tables_93 N all_ x1 x2 x3 x4 x5 n93) n121) x6 x7 refused_ stood_ = some r → ∀ (H : Heap) (locs : List Loc) (ls : Array Slot), va_P D vwCl [(q_this, .inr (10, [.ref q_this_all, v_this_isKept, .ref q_this_refused, .int above_, .int below_, .int at_, .int start_, .int sort_, .int value_, .int fault_, .int men_, .int gos_, v_this_ways, v_this_starts, v_this_homes, v_this_hours, v_this_froms, v_this_tos, v_this_whos, v_this_place, v_this_since, v_this_rows, v_this_few, v_this_most, v_this_parts, v_this_fewParts, v_this_mostParts, v_this_far, v_this_queue, v_this_gone, .ref q_this_stood, v_this_trips, .long sum_])), (q_this_all, .inl (kI, 1080, .inl all_)), (q_this_refused, .inl (kI, 3, .inl refused_)), (q_this_stood, .inl (kI, 2197, .inl stood_))] H → va_D A [(q_this, .inr (10, [.ref q_this_all, v_this_isKept, .ref q_this_refused, .int above_, .int below_, .int at_, .int start_, .int sort_, .int value_, .int fault_, .int men_, .int gos_, v_this_ways, v_this_starts, v_this_homes, v_this_hours, v_this_froms, v_this_tos, v_this_whos, v_this_place, v_this_since, v_this_rows, v_this_few, v_this_most, v_this_parts, v_this_fewParts, v_this_mostParts, v_this_far, v_this_queue, v_this_gone, .ref q_this_stood, v_this_trips, .long sum_])), (q_this_all, .inl (kI, 1080, .inl all_)), (q_this_refused, .inl (kI, 3, .inl refused_)), (q_this_stood, .inl (kI, 2197, .inl stood_))] → va_S A s.heap H locs → lv_has ls 9 [(0, .ref q_this), (1, .int x1), (2, .int x2), (3, .int x3), (4, .int x4), (5, .int x5), (6, .int x6), (7, .int x7)] → W p l e rm_X10_tables s m args below meth c H locs 0 0 Q (F0 m 168 ls []) := by
            intro x6 x7 refused_ stood_ h H locs ls hP hD hS hl
            rw [g_X10_tables_168] at h
            refine lv_iconst (v := 0) hx hb dX10_tables_168 (by decide) ?_
            exact J169 x6 x7 0 refused_ stood_ h _ _ _ (hP.sub [0, 1, 2, 3] rfl) (hD.sub [0, 1, 2, 3] rfl rfl) hS (lv_sub hl [0, 1, 2, 3, 4, 5, 6, 7] rfl)
          refine lv_iload hx hb dX10_tables_121 (lv_at hl 7 rfl) ?_
          refine lv_sipush (v := 2197) hx hb dX10_tables_123 (by decide) ?_
          refine lv_icmp_ge (tgt := 211) hx hb dX10_tables_126 (by decide) (fun c11 => ?_) (fun c11 => ?_)
          · replace h := q_t c11 h
            refine lv_iinc (v := (x6 + 1)) (lv' := [(6, .int (x6 + 1)), (0, .ref q_this), (1, .int x1), (2, .int x2), (3, .int x3), (4, .int x4), (5, .int x5), (7, .int x7)]) hx hb dX10_tables_211 hl (k := 6) rfl rfl (by decide) rfl (fun ls hl => ?_)
            refine lv_goto (tgt := 93) hx hb dX10_tables_214 (by decide) ?_
            exact ih93 (x6 + 1) refused_ stood_ h _ _ _ (hP.sub [0, 1, 2, 3] rfl) (hD.sub [0, 1, 2, 3] rfl rfl) hS (lv_sub hl [1, 2, 3, 4, 5, 6, 0] rfl)
          · replace h := q_f c11 h
            refine lv_aload_n hx hb dX10_tables_129 rfl (lv_at hl 0 rfl) ?_
            refine va_get (D := D) (ci := 10) (C := RX10) (T := TX10) (N := 33) hx hb hts iw_X10_tables_X10 hown hK hP 0 rfl rfl 30 (by decide) (hts _ lk_X10_tables_0) (fun _ h9 => h9) rfl dX10_tables_130 ?_
            refine lv_iload hx hb dX10_tables_133 (lv_at hl 7 rfl) ?_
            obtain ⟨hg12, h⟩ := q_g h
            refine va_iald hx hb hK hP 3 0 rfl rfl (inb_vp hg12) dX10_tables_135 ?_
            refine lv_sipush (v := 9999) hx hb dX10_tables_136 (by decide) ?_
            refine lv_icmp_ge (tgt := 168) hx hb dX10_tables_139 (by decide) (fun c13 => ?_) (fun c13 => ?_)
            · replace h := q_t c13 h
              exact J168 x6 x7 refused_ stood_ h _ _ _ (hP.sub [0, 1, 2, 3] rfl) (hD.sub [0, 1, 2, 3] rfl rfl) hS (lv_sub hl [0, 1, 2, 3, 4, 5, 6, 7] rfl)
            · replace h := q_f c13 h
              refine lv_iload hx hb dX10_tables_142 (lv_at hl 7 rfl) ?_
              obtain ⟨u144, hu144, h⟩ := q_b h
              refine q_aI (va_runS (As := [.int x7]) (rest := []) ⟨hx, hb, hml, hown, hts⟩ (c_X10_seated l D E kI kB kQ x7 N u144 hu144 H.size) (va_cwS 1 hts gX10_tables_X10_seated rfl rfl rfl nd_X10_seated ⟨Nat.le_of_ble_eq_true rfl, Nat.le_of_ble_eq_true rfl⟩) (q_ps hK hN hE hS hA hP hD [] rfl rfl rfl) rfl rfl hl.1 rfl (lv_room (Nat.le_of_ble_eq_true rfl)) dX10_tables_144 ⟨Nat.zero_le _, Nat.zero_le _⟩) hP hD hS hA [] [0, 1, 2, 3] (Wr := [(q_this, .inr (10, [.ref q_this_all, v_this_isKept, .ref q_this_refused, .int above_, .int below_, .int at_, .int start_, .int sort_, .int value_, .int fault_, .int men_, .int gos_, v_this_ways, v_this_starts, v_this_homes, v_this_hours, v_this_froms, v_this_tos, v_this_whos, v_this_place, v_this_since, v_this_rows, v_this_few, v_this_most, v_this_parts, v_this_fewParts, v_this_mostParts, v_this_far, v_this_queue, v_this_gone, .ref q_this_stood, v_this_trips, .long sum_])), (q_this_all, .inl (kI, 1080, .inl all_)), (q_this_refused, .inl (kI, 3, .inl refused_)), (q_this_stood, .inl (kI, 2197, .inl stood_))]) rfl rfl rfl (by decide) (fun H locs hP hD hS => ?_)
              have hP : va_P D vwCl [(q_this, .inr (10, [.ref q_this_all, v_this_isKept, .ref q_this_refused, .int above_, .int below_, .int at_, .int start_, .int sort_, .int value_, .int fault_, .int men_, .int gos_, v_this_ways, v_this_starts, v_this_homes, v_this_hours, v_this_froms, v_this_tos, v_this_whos, v_this_place, v_this_since, v_this_rows, v_this_few, v_this_most, v_this_parts, v_this_fewParts, v_this_mostParts, v_this_far, v_this_queue, v_this_gone, .ref q_this_stood, v_this_trips, .long sum_])), (q_this_all, .inl (kI, 1080, .inl all_)), (q_this_refused, .inl (kI, 3, .inl refused_)), (q_this_stood, .inl (kI, 2197, .inl stood_))] H := hP
              have hD : va_D A [(q_this, .inr (10, [.ref q_this_all, v_this_isKept, .ref q_this_refused, .int above_, .int below_, .int at_, .int start_, .int sort_, .int value_, .int fault_, .int men_, .int gos_, v_this_ways, v_this_starts, v_this_homes, v_this_hours, v_this_froms, v_this_tos, v_this_whos, v_this_place, v_this_since, v_this_rows, v_this_few, v_this_most, v_this_parts, v_this_fewParts, v_this_mostParts, v_this_far, v_this_queue, v_this_gone, .ref q_this_stood, v_this_trips, .long sum_])), (q_this_all, .inl (kI, 1080, .inl all_)), (q_this_refused, .inl (kI, 3, .inl refused_)), (q_this_stood, .inl (kI, 2197, .inl stood_))] := hD
              refine lv_iload hx hb dX10_tables_147 (lv_at hl 6 rfl) ?_
              refine lv_icmp_gt (tgt := 168) hx hb dX10_tables_149 (by decide) (fun c14 => ?_) (fun c14 => ?_)
              · replace h := q_t c14 h
                exact J168 x6 x7 refused_ stood_ h _ _ _ (hP.sub [0, 1, 2, 3] rfl) (hD.sub [0, 1, 2, 3] rfl rfl) hS (lv_sub hl [0, 1, 2, 3, 4, 5, 6, 7] rfl)
              · replace h := q_f c14 h
                refine lv_aload_n hx hb dX10_tables_152 rfl (lv_at hl 0 rfl) ?_
                refine lv_iload_n hx hb dX10_tables_153 rfl (lv_at hl 1 rfl) ?_
                refine lv_iload_n hx hb dX10_tables_154 rfl (lv_at hl 2 rfl) ?_
                refine lv_iload_n hx hb dX10_tables_155 rfl (lv_at hl 3 rfl) ?_
                refine lv_iload hx hb dX10_tables_156 (lv_at hl 7 rfl) ?_
                obtain ⟨u158, hu158, h⟩ := q_b h
                refine q_aI (va_runV (As := [.int x1, .int x2, .int x3, .int x7]) (rest := []) ⟨hx, hb, hml, hown, hts⟩ (c_X10_isSeating l D E kI kB kQ q_this q_this_all v_this_isKept (.ref q_this_refused) v_this_ways v_this_starts v_this_homes v_this_hours v_this_froms v_this_tos v_this_whos v_this_place v_this_since v_this_rows v_this_few v_this_most v_this_parts v_this_fewParts v_this_mostParts v_this_far v_this_queue v_this_gone (.ref q_this_stood) v_this_trips above_ below_ at_ start_ sort_ value_ fault_ men_ gos_ sum_ all_ x1 x2 x3 x7 N u158 hu158 H.size) (cwV 4 hts gX10_tables_X10_isSeating rfl rfl rfl vd_X10_isSeating ⟨Nat.le_of_ble_eq_true rfl, Nat.le_of_ble_eq_true rfl⟩) (q_pv hK hN hE hS hA hP hD [0, 1] rfl rfl rfl 0 rfl (ci := 10) rfl) rfl rfl hl.1 rfl (lv_room (Nat.le_of_ble_eq_true rfl)) dX10_tables_158 ⟨Nat.zero_le _, Nat.zero_le _⟩) hP hD hS hA [0, 1] [2, 3] (Wr := [(q_this_refused, .inl (kI, 3, .inl refused_)), (q_this_stood, .inl (kI, 2197, .inl stood_))]) rfl rfl rfl (by decide) (fun H locs hP hD hS => ?_)
                have hP : va_P D vwCl [(q_this_refused, .inl (kI, 3, .inl refused_)), (q_this_stood, .inl (kI, 2197, .inl stood_)), (q_this, .inr (10, [.ref q_this_all, v_this_isKept, .ref q_this_refused, .int above_, .int below_, .int at_, .int start_, .int sort_, .int value_, .int fault_, .int men_, .int gos_, v_this_ways, v_this_starts, v_this_homes, v_this_hours, v_this_froms, v_this_tos, v_this_whos, v_this_place, v_this_since, v_this_rows, v_this_few, v_this_most, v_this_parts, v_this_fewParts, v_this_mostParts, v_this_far, v_this_queue, v_this_gone, .ref q_this_stood, v_this_trips, .long sum_])), (q_this_all, .inl (kI, 1080, .inl all_))] H := hP
                have hD : va_D A [(q_this_refused, .inl (kI, 3, .inl refused_)), (q_this_stood, .inl (kI, 2197, .inl stood_)), (q_this, .inr (10, [.ref q_this_all, v_this_isKept, .ref q_this_refused, .int above_, .int below_, .int at_, .int start_, .int sort_, .int value_, .int fault_, .int men_, .int gos_, v_this_ways, v_this_starts, v_this_homes, v_this_hours, v_this_froms, v_this_tos, v_this_whos, v_this_place, v_this_since, v_this_rows, v_this_few, v_this_most, v_this_parts, v_this_fewParts, v_this_mostParts, v_this_far, v_this_queue, v_this_gone, .ref q_this_stood, v_this_trips, .long sum_])), (q_this_all, .inl (kI, 1080, .inl all_))] := hD
                refine lv_if_eq (tgt := 168) hx hb dX10_tables_161 (by decide) (fun c15 => ?_) (fun c15 => ?_)
                · replace h := q_t c15 h
                  exact J168 x6 x7 refused_ stood_ h _ _ _ (hP.sub [2, 3, 0, 1] rfl) (hD.sub [2, 3, 0, 1] rfl rfl) hS (lv_sub hl [0, 1, 2, 3, 4, 5, 6, 7] rfl)
                · replace h := q_f c15 h
                  refine lv_iconst (v := 1) hx hb dX10_tables_164 (by decide) ?_
                  refine lv_goto (tgt := 169) hx hb dX10_tables_165 (by decide) ?_
                  exact J169 x6 x7 1 refused_ stood_ h _ _ _ (hP.sub [2, 3, 0, 1] rfl) (hD.sub [2, 3, 0, 1] rfl rfl) hS (lv_sub hl [0, 1, 2, 3, 4, 5, 6, 7] rfl)
      refine lv_iload hx hb dX10_tables_93 (lv_at hl 6 rfl) ?_
      refine lv_iload hx hb dX10_tables_95 (lv_at hl 4 rfl) ?_
      refine lv_icmp_gt (tgt := 217) hx hb dX10_tables_97 (by decide) (fun c16 => ?_) (fun c16 => ?_)
      · replace h := q_t c16 h
        refine lv_sipush (v := 9999) hx hb dX10_tables_217 (by decide) ?_
        refine lv_istore (lv' := [(6, .int 9999), (0, .ref q_this), (1, .int x1), (2, .int x2), (3, .int x3), (4, .int x4), (5, .int x5)]) hx hb dX10_tables_220 hl (by decide) rfl (fun ls hl => ?_)
        refine lv_iconst (v := 0) hx hb dX10_tables_222 (by decide) ?_
        refine lv_istore (lv' := [(7, .int 0), (6, .int 9999), (0, .ref q_this), (1, .int x1), (2, .int x2), (3, .int x3), (4, .int x4), (5, .int x5)]) hx hb dX10_tables_223 hl (by decide) rfl (fun ls hl => ?_)
        refine lv_iconst (v := 0) hx hb dX10_tables_225 (by decide) ?_
        refine lv_istore (lv' := [(8, .int 0), (7, .int 0), (6, .int 9999), (0, .ref q_this), (1, .int x1), (2, .int x2), (3, .int x3), (4, .int x4), (5, .int x5)]) hx hb dX10_tables_226 hl (by decide) rfl (fun ls hl => ?_)
        exact J228 N 9999 0 0 refused_ stood_ h _ _ _ (hP.sub [0, 1, 2, 3] rfl) (hD.sub [0, 1, 2, 3] rfl rfl) hS (lv_sub hl [3, 7, 8, 2, 1, 0] rfl)
      · replace h := q_f c16 h
        refine lv_aload_n hx hb dX10_tables_100 rfl (lv_at hl 0 rfl) ?_
        refine lv_iconst (v := 1) hx hb dX10_tables_101 (by decide) ?_
        obtain ⟨u102, hu102, h⟩ := q_b h
        refine q_aV (va_runV (As := [.int 1]) (rest := []) ⟨hx, hb, hml, hown, hts⟩ (c_X10_sink l D E kI kB kQ q_this q_this_stood (.ref q_this_all) v_this_isKept (.ref q_this_refused) v_this_ways v_this_starts v_this_homes v_this_hours v_this_froms v_this_tos v_this_whos v_this_place v_this_since v_this_rows v_this_few v_this_most v_this_parts v_this_fewParts v_this_mostParts v_this_far v_this_queue v_this_gone v_this_trips above_ below_ at_ start_ sort_ value_ fault_ men_ gos_ sum_ stood_ 1 N u102 hu102 H.size) (cwV 1 hts gX10_tables_X10_sink rfl rfl rfl vd_X10_sink ⟨Nat.le_of_ble_eq_true rfl, Nat.le_of_ble_eq_true rfl⟩) (q_pv hK hN hE hS hA hP hD [0, 3] rfl rfl rfl 0 rfl (ci := 10) rfl) rfl rfl hl.1 rfl (lv_room (Nat.le_of_ble_eq_true rfl)) dX10_tables_102 ⟨Nat.zero_le _, Nat.zero_le _⟩) hP hD hS hA [0, 3] [1, 2] (Wr := [(q_this_all, .inl (kI, 1080, .inl all_)), (q_this_refused, .inl (kI, 3, .inl refused_))]) rfl rfl rfl (by decide) (fun H locs hP hD hS => ?_)
        have hP : va_P D vwCl [(q_this_all, .inl (kI, 1080, .inl all_)), (q_this_refused, .inl (kI, 3, .inl refused_)), (q_this, .inr (10, [.ref q_this_all, v_this_isKept, .ref q_this_refused, .int above_, .int below_, .int at_, .int start_, .int sort_, .int value_, .int fault_, .int men_, .int gos_, v_this_ways, v_this_starts, v_this_homes, v_this_hours, v_this_froms, v_this_tos, v_this_whos, v_this_place, v_this_since, v_this_rows, v_this_few, v_this_most, v_this_parts, v_this_fewParts, v_this_mostParts, v_this_far, v_this_queue, v_this_gone, .ref q_this_stood, v_this_trips, .long sum_])), (q_this_stood, .inl (kI, 2197, .inl u102))] H := hP
        have hD : va_D A [(q_this_all, .inl (kI, 1080, .inl all_)), (q_this_refused, .inl (kI, 3, .inl refused_)), (q_this, .inr (10, [.ref q_this_all, v_this_isKept, .ref q_this_refused, .int above_, .int below_, .int at_, .int start_, .int sort_, .int value_, .int fault_, .int men_, .int gos_, v_this_ways, v_this_starts, v_this_homes, v_this_hours, v_this_froms, v_this_tos, v_this_whos, v_this_place, v_this_since, v_this_rows, v_this_few, v_this_most, v_this_parts, v_this_fewParts, v_this_mostParts, v_this_far, v_this_queue, v_this_gone, .ref q_this_stood, v_this_trips, .long sum_])), (q_this_stood, .inl (kI, 2197, .inl u102))] := hD
        refine lv_aload_n hx hb dX10_tables_105 rfl (lv_at hl 0 rfl) ?_
        refine lv_bipush (v := 13) hx hb dX10_tables_106 (by decide) ?_
        obtain ⟨u108, hu108, h⟩ := q_b h
        refine q_aV (va_runV (As := [.int 13]) (rest := []) ⟨hx, hb, hml, hown, hts⟩ (c_X10_sink l D E kI kB kQ q_this q_this_stood (.ref q_this_all) v_this_isKept (.ref q_this_refused) v_this_ways v_this_starts v_this_homes v_this_hours v_this_froms v_this_tos v_this_whos v_this_place v_this_since v_this_rows v_this_few v_this_most v_this_parts v_this_fewParts v_this_mostParts v_this_far v_this_queue v_this_gone v_this_trips above_ below_ at_ start_ sort_ value_ fault_ men_ gos_ sum_ u102 13 N u108 hu108 H.size) (cwV 1 hts gX10_tables_X10_sink rfl rfl rfl vd_X10_sink ⟨Nat.le_of_ble_eq_true rfl, Nat.le_of_ble_eq_true rfl⟩) (q_pv hK hN hE hS hA hP hD [2, 3] rfl rfl rfl 2 rfl (ci := 10) rfl) rfl rfl hl.1 rfl (lv_room (Nat.le_of_ble_eq_true rfl)) dX10_tables_108 ⟨Nat.zero_le _, Nat.zero_le _⟩) hP hD hS hA [2, 3] [0, 1] (Wr := [(q_this_all, .inl (kI, 1080, .inl all_)), (q_this_refused, .inl (kI, 3, .inl refused_))]) rfl rfl rfl (by decide) (fun H locs hP hD hS => ?_)
        have hP : va_P D vwCl [(q_this_all, .inl (kI, 1080, .inl all_)), (q_this_refused, .inl (kI, 3, .inl refused_)), (q_this, .inr (10, [.ref q_this_all, v_this_isKept, .ref q_this_refused, .int above_, .int below_, .int at_, .int start_, .int sort_, .int value_, .int fault_, .int men_, .int gos_, v_this_ways, v_this_starts, v_this_homes, v_this_hours, v_this_froms, v_this_tos, v_this_whos, v_this_place, v_this_since, v_this_rows, v_this_few, v_this_most, v_this_parts, v_this_fewParts, v_this_mostParts, v_this_far, v_this_queue, v_this_gone, .ref q_this_stood, v_this_trips, .long sum_])), (q_this_stood, .inl (kI, 2197, .inl u108))] H := hP
        have hD : va_D A [(q_this_all, .inl (kI, 1080, .inl all_)), (q_this_refused, .inl (kI, 3, .inl refused_)), (q_this, .inr (10, [.ref q_this_all, v_this_isKept, .ref q_this_refused, .int above_, .int below_, .int at_, .int start_, .int sort_, .int value_, .int fault_, .int men_, .int gos_, v_this_ways, v_this_starts, v_this_homes, v_this_hours, v_this_froms, v_this_tos, v_this_whos, v_this_place, v_this_since, v_this_rows, v_this_few, v_this_most, v_this_parts, v_this_fewParts, v_this_mostParts, v_this_far, v_this_queue, v_this_gone, .ref q_this_stood, v_this_trips, .long sum_])), (q_this_stood, .inl (kI, 2197, .inl u108))] := hD
        refine lv_aload_n hx hb dX10_tables_111 rfl (lv_at hl 0 rfl) ?_
        refine lv_sipush (v := 169) hx hb dX10_tables_112 (by decide) ?_
        obtain ⟨u115, hu115, h⟩ := q_b h
        refine q_aV (va_runV (As := [.int 169]) (rest := []) ⟨hx, hb, hml, hown, hts⟩ (c_X10_sink l D E kI kB kQ q_this q_this_stood (.ref q_this_all) v_this_isKept (.ref q_this_refused) v_this_ways v_this_starts v_this_homes v_this_hours v_this_froms v_this_tos v_this_whos v_this_place v_this_since v_this_rows v_this_few v_this_most v_this_parts v_this_fewParts v_this_mostParts v_this_far v_this_queue v_this_gone v_this_trips above_ below_ at_ start_ sort_ value_ fault_ men_ gos_ sum_ u108 169 N u115 hu115 H.size) (cwV 1 hts gX10_tables_X10_sink rfl rfl rfl vd_X10_sink ⟨Nat.le_of_ble_eq_true rfl, Nat.le_of_ble_eq_true rfl⟩) (q_pv hK hN hE hS hA hP hD [2, 3] rfl rfl rfl 2 rfl (ci := 10) rfl) rfl rfl hl.1 rfl (lv_room (Nat.le_of_ble_eq_true rfl)) dX10_tables_115 ⟨Nat.zero_le _, Nat.zero_le _⟩) hP hD hS hA [2, 3] [0, 1] (Wr := [(q_this_all, .inl (kI, 1080, .inl all_)), (q_this_refused, .inl (kI, 3, .inl refused_))]) rfl rfl rfl (by decide) (fun H locs hP hD hS => ?_)
        have hP : va_P D vwCl [(q_this_all, .inl (kI, 1080, .inl all_)), (q_this_refused, .inl (kI, 3, .inl refused_)), (q_this, .inr (10, [.ref q_this_all, v_this_isKept, .ref q_this_refused, .int above_, .int below_, .int at_, .int start_, .int sort_, .int value_, .int fault_, .int men_, .int gos_, v_this_ways, v_this_starts, v_this_homes, v_this_hours, v_this_froms, v_this_tos, v_this_whos, v_this_place, v_this_since, v_this_rows, v_this_few, v_this_most, v_this_parts, v_this_fewParts, v_this_mostParts, v_this_far, v_this_queue, v_this_gone, .ref q_this_stood, v_this_trips, .long sum_])), (q_this_stood, .inl (kI, 2197, .inl u115))] H := hP
        have hD : va_D A [(q_this_all, .inl (kI, 1080, .inl all_)), (q_this_refused, .inl (kI, 3, .inl refused_)), (q_this, .inr (10, [.ref q_this_all, v_this_isKept, .ref q_this_refused, .int above_, .int below_, .int at_, .int start_, .int sort_, .int value_, .int fault_, .int men_, .int gos_, v_this_ways, v_this_starts, v_this_homes, v_this_hours, v_this_froms, v_this_tos, v_this_whos, v_this_place, v_this_since, v_this_rows, v_this_few, v_this_most, v_this_parts, v_this_fewParts, v_this_mostParts, v_this_far, v_this_queue, v_this_gone, .ref q_this_stood, v_this_trips, .long sum_])), (q_this_stood, .inl (kI, 2197, .inl u115))] := hD
        refine lv_iconst (v := 0) hx hb dX10_tables_118 (by decide) ?_
        refine lv_istore (lv' := [(7, .int 0), (0, .ref q_this), (1, .int x1), (2, .int x2), (3, .int x3), (4, .int x4), (5, .int x5), (6, .int x6)]) hx hb dX10_tables_119 hl (by decide) rfl (fun ls hl => ?_)
        exact J121 N x6 0 refused_ u115 h _ _ _ (hP.sub [2, 0, 1, 3] rfl) (hD.sub [2, 0, 1, 3] rfl rfl) hS (lv_sub hl [1, 2, 3, 4, 5, 6, 7, 0] rfl)
  have J57 : ∀ (n57 : Nat) (x6 : Int32) (refused_ : Nat → Int32) (stood_ : Nat → Int32), g_X10_tables_57 N all_ x1 x2 x3 x4 x5 n57 x6 refused_ stood_ = some r → ∀ (H : Heap) (locs : List Loc) (ls : Array Slot), va_P D vwCl [(q_this, .inr (10, [.ref q_this_all, v_this_isKept, .ref q_this_refused, .int above_, .int below_, .int at_, .int start_, .int sort_, .int value_, .int fault_, .int men_, .int gos_, v_this_ways, v_this_starts, v_this_homes, v_this_hours, v_this_froms, v_this_tos, v_this_whos, v_this_place, v_this_since, v_this_rows, v_this_few, v_this_most, v_this_parts, v_this_fewParts, v_this_mostParts, v_this_far, v_this_queue, v_this_gone, .ref q_this_stood, v_this_trips, .long sum_])), (q_this_all, .inl (kI, 1080, .inl all_)), (q_this_refused, .inl (kI, 3, .inl refused_)), (q_this_stood, .inl (kI, 2197, .inl stood_))] H → va_D A [(q_this, .inr (10, [.ref q_this_all, v_this_isKept, .ref q_this_refused, .int above_, .int below_, .int at_, .int start_, .int sort_, .int value_, .int fault_, .int men_, .int gos_, v_this_ways, v_this_starts, v_this_homes, v_this_hours, v_this_froms, v_this_tos, v_this_whos, v_this_place, v_this_since, v_this_rows, v_this_few, v_this_most, v_this_parts, v_this_fewParts, v_this_mostParts, v_this_far, v_this_queue, v_this_gone, .ref q_this_stood, v_this_trips, .long sum_])), (q_this_all, .inl (kI, 1080, .inl all_)), (q_this_refused, .inl (kI, 3, .inl refused_)), (q_this_stood, .inl (kI, 2197, .inl stood_))] → va_S A s.heap H locs → lv_has ls 9 [(0, .ref q_this), (1, .int x1), (2, .int x2), (3, .int x3), (4, .int x4), (5, .int x5), (6, .int x6)] → W p l e rm_X10_tables s m args below meth c H locs 0 0 Q (F0 m 57 ls []) := by
    intro n57
    induction n57 with
    | zero => intro x6 refused_ stood_ h; exact absurd h (by rw [g_X10_tables_57]; exact fun q => nomatch q)
    | succ n57 ih57 =>
      intro x6 refused_ stood_ h H locs ls hP hD hS hl
      rw [g_X10_tables_57] at h
      refine lv_iload hx hb dX10_tables_57 (lv_at hl 6 rfl) ?_
      refine lv_sipush (v := 2197) hx hb dX10_tables_59 (by decide) ?_
      refine lv_icmp_ge (tgt := 90) hx hb dX10_tables_62 (by decide) (fun c17 => ?_) (fun c17 => ?_)
      · replace h := q_t c17 h
        refine lv_iconst (v := 1) hx hb dX10_tables_90 (by decide) ?_
        refine lv_istore (lv' := [(6, .int 1), (0, .ref q_this), (1, .int x1), (2, .int x2), (3, .int x3), (4, .int x4), (5, .int x5)]) hx hb dX10_tables_91 hl (by decide) rfl (fun ls hl => ?_)
        exact J93 N 1 refused_ stood_ h _ _ _ (hP.sub [0, 1, 2, 3] rfl) (hD.sub [0, 1, 2, 3] rfl rfl) hS (lv_sub hl [1, 2, 3, 4, 5, 6, 0] rfl)
      · replace h := q_f c17 h
        refine lv_aload_n hx hb dX10_tables_65 rfl (lv_at hl 0 rfl) ?_
        refine va_get (D := D) (ci := 10) (C := RX10) (T := TX10) (N := 33) hx hb hts iw_X10_tables_X10 hown hK hP 0 rfl rfl 30 (by decide) (hts _ lk_X10_tables_0) (fun _ h9 => h9) rfl dX10_tables_66 ?_
        refine lv_iload hx hb dX10_tables_69 (lv_at hl 6 rfl) ?_
        refine lv_iload hx hb dX10_tables_71 (lv_at hl 6 rfl) ?_
        refine lv_if_ne (tgt := 80) hx hb dX10_tables_73 (by decide) (fun c18 => ?_) (fun c18 => ?_)
        · replace h := q_f c18 h
          refine lv_sipush (v := 9999) hx hb dX10_tables_80 (by decide) ?_
          obtain ⟨hg19, h⟩ := q_g h
          refine va_iast hx hb hK hP hD hS 3 0 rfl rfl (inb_vp hg19) dX10_tables_83 (fun H locs hP hD hS => ?_)
          have hP : va_P D vwCl [(q_this, .inr (10, [.ref q_this_all, v_this_isKept, .ref q_this_refused, .int above_, .int below_, .int at_, .int start_, .int sort_, .int value_, .int fault_, .int men_, .int gos_, v_this_ways, v_this_starts, v_this_homes, v_this_hours, v_this_froms, v_this_tos, v_this_whos, v_this_place, v_this_since, v_this_rows, v_this_few, v_this_most, v_this_parts, v_this_fewParts, v_this_mostParts, v_this_far, v_this_queue, v_this_gone, .ref q_this_stood, v_this_trips, .long sum_])), (q_this_all, .inl (kI, 1080, .inl all_)), (q_this_refused, .inl (kI, 3, .inl refused_)), (q_this_stood, .inl (kI, 2197, .inl (upd stood_ x6.toNatClampNeg 9999)))] H := hP
          have hD : va_D A [(q_this, .inr (10, [.ref q_this_all, v_this_isKept, .ref q_this_refused, .int above_, .int below_, .int at_, .int start_, .int sort_, .int value_, .int fault_, .int men_, .int gos_, v_this_ways, v_this_starts, v_this_homes, v_this_hours, v_this_froms, v_this_tos, v_this_whos, v_this_place, v_this_since, v_this_rows, v_this_few, v_this_most, v_this_parts, v_this_fewParts, v_this_mostParts, v_this_far, v_this_queue, v_this_gone, .ref q_this_stood, v_this_trips, .long sum_])), (q_this_all, .inl (kI, 1080, .inl all_)), (q_this_refused, .inl (kI, 3, .inl refused_)), (q_this_stood, .inl (kI, 2197, .inl (upd stood_ x6.toNatClampNeg 9999)))] := hD
          refine lv_iinc (v := (x6 + 1)) (lv' := [(6, .int (x6 + 1)), (0, .ref q_this), (1, .int x1), (2, .int x2), (3, .int x3), (4, .int x4), (5, .int x5)]) hx hb dX10_tables_84 hl (k := 6) rfl rfl (by decide) rfl (fun ls hl => ?_)
          refine lv_goto (tgt := 57) hx hb dX10_tables_87 (by decide) ?_
          exact ih57 (x6 + 1) refused_ (upd stood_ x6.toNatClampNeg 9999) h _ _ _ (hP.sub [0, 1, 2, 3] rfl) (hD.sub [0, 1, 2, 3] rfl rfl) hS (lv_sub hl [1, 2, 3, 4, 5, 6, 0] rfl)
        · replace h := q_t c18 h
          refine lv_iconst (v := 0) hx hb dX10_tables_76 (by decide) ?_
          refine lv_goto (tgt := 83) hx hb dX10_tables_77 (by decide) ?_
          obtain ⟨hg20, h⟩ := q_g h
          refine va_iast hx hb hK hP hD hS 3 0 rfl rfl (inb_vp hg20) dX10_tables_83 (fun H locs hP hD hS => ?_)
          have hP : va_P D vwCl [(q_this, .inr (10, [.ref q_this_all, v_this_isKept, .ref q_this_refused, .int above_, .int below_, .int at_, .int start_, .int sort_, .int value_, .int fault_, .int men_, .int gos_, v_this_ways, v_this_starts, v_this_homes, v_this_hours, v_this_froms, v_this_tos, v_this_whos, v_this_place, v_this_since, v_this_rows, v_this_few, v_this_most, v_this_parts, v_this_fewParts, v_this_mostParts, v_this_far, v_this_queue, v_this_gone, .ref q_this_stood, v_this_trips, .long sum_])), (q_this_all, .inl (kI, 1080, .inl all_)), (q_this_refused, .inl (kI, 3, .inl refused_)), (q_this_stood, .inl (kI, 2197, .inl (upd stood_ x6.toNatClampNeg 0)))] H := hP
          have hD : va_D A [(q_this, .inr (10, [.ref q_this_all, v_this_isKept, .ref q_this_refused, .int above_, .int below_, .int at_, .int start_, .int sort_, .int value_, .int fault_, .int men_, .int gos_, v_this_ways, v_this_starts, v_this_homes, v_this_hours, v_this_froms, v_this_tos, v_this_whos, v_this_place, v_this_since, v_this_rows, v_this_few, v_this_most, v_this_parts, v_this_fewParts, v_this_mostParts, v_this_far, v_this_queue, v_this_gone, .ref q_this_stood, v_this_trips, .long sum_])), (q_this_all, .inl (kI, 1080, .inl all_)), (q_this_refused, .inl (kI, 3, .inl refused_)), (q_this_stood, .inl (kI, 2197, .inl (upd stood_ x6.toNatClampNeg 0)))] := hD
          refine lv_iinc (v := (x6 + 1)) (lv' := [(6, .int (x6 + 1)), (0, .ref q_this), (1, .int x1), (2, .int x2), (3, .int x3), (4, .int x4), (5, .int x5)]) hx hb dX10_tables_84 hl (k := 6) rfl rfl (by decide) rfl (fun ls hl => ?_)
          refine lv_goto (tgt := 57) hx hb dX10_tables_87 (by decide) ?_
          exact ih57 (x6 + 1) refused_ (upd stood_ x6.toNatClampNeg 0) h _ _ _ (hP.sub [0, 1, 2, 3] rfl) (hD.sub [0, 1, 2, 3] rfl rfl) hS (lv_sub hl [1, 2, 3, 4, 5, 6, 0] rfl)
  refine lv_iload_n hx hb dX10_tables_0 rfl (lv_at hl 1 rfl) ?_
  obtain ⟨u1, hu1, h⟩ := q_b h
  refine q_aI (va_runS (As := [.int x1]) (rest := []) ⟨hx, hb, hml, hown, hts⟩ (c_X10_isRule l D E kI kB kQ x1 N u1 hu1 H.size) (va_cwS 1 hts gX10_tables_X10_isRule rfl rfl rfl nd_X10_isRule ⟨Nat.le_of_ble_eq_true rfl, Nat.le_of_ble_eq_true rfl⟩) (q_ps hK hN hE hS hA hP hD [] rfl rfl rfl) rfl rfl hl.1 rfl (lv_room (Nat.le_of_ble_eq_true rfl)) dX10_tables_1 ⟨Nat.zero_le _, Nat.zero_le _⟩) hP hD hS hA [] [0, 1, 2, 3] (Wr := [(q_this, .inr (10, [.ref q_this_all, v_this_isKept, .ref q_this_refused, .int above_, .int below_, .int at_, .int start_, .int sort_, .int value_, .int fault_, .int men_, .int gos_, v_this_ways, v_this_starts, v_this_homes, v_this_hours, v_this_froms, v_this_tos, v_this_whos, v_this_place, v_this_since, v_this_rows, v_this_few, v_this_most, v_this_parts, v_this_fewParts, v_this_mostParts, v_this_far, v_this_queue, v_this_gone, .ref q_this_stood, v_this_trips, .long sum_])), (q_this_all, .inl (kI, 1080, .inl all_)), (q_this_refused, .inl (kI, 3, .inl refused_)), (q_this_stood, .inl (kI, 2197, .inl stood_))]) rfl rfl rfl (by decide) (fun H locs hP hD hS => ?_)
  have hP : va_P D vwCl [(q_this, .inr (10, [.ref q_this_all, v_this_isKept, .ref q_this_refused, .int above_, .int below_, .int at_, .int start_, .int sort_, .int value_, .int fault_, .int men_, .int gos_, v_this_ways, v_this_starts, v_this_homes, v_this_hours, v_this_froms, v_this_tos, v_this_whos, v_this_place, v_this_since, v_this_rows, v_this_few, v_this_most, v_this_parts, v_this_fewParts, v_this_mostParts, v_this_far, v_this_queue, v_this_gone, .ref q_this_stood, v_this_trips, .long sum_])), (q_this_all, .inl (kI, 1080, .inl all_)), (q_this_refused, .inl (kI, 3, .inl refused_)), (q_this_stood, .inl (kI, 2197, .inl stood_))] H := hP
  have hD : va_D A [(q_this, .inr (10, [.ref q_this_all, v_this_isKept, .ref q_this_refused, .int above_, .int below_, .int at_, .int start_, .int sort_, .int value_, .int fault_, .int men_, .int gos_, v_this_ways, v_this_starts, v_this_homes, v_this_hours, v_this_froms, v_this_tos, v_this_whos, v_this_place, v_this_since, v_this_rows, v_this_few, v_this_most, v_this_parts, v_this_fewParts, v_this_mostParts, v_this_far, v_this_queue, v_this_gone, .ref q_this_stood, v_this_trips, .long sum_])), (q_this_all, .inl (kI, 1080, .inl all_)), (q_this_refused, .inl (kI, 3, .inl refused_)), (q_this_stood, .inl (kI, 2197, .inl stood_))] := hD
  refine lv_if_eq (tgt := 47) hx hb dX10_tables_4 (by decide) (fun c21 => ?_) (fun c21 => ?_)
  · replace h := q_t c21 h
    refine lv_aload_n hx hb dX10_tables_47 rfl (lv_at hl 0 rfl) ?_
    refine lv_bipush (v := (-2)) hx hb dX10_tables_48 (by decide) ?_
    obtain ⟨u50, hu50, h⟩ := q_b h
    refine q_aI (va_runV (As := [.int (-2)]) (rest := []) ⟨hx, hb, hml, hown, hts⟩ (c_X10_refuse l D E kI kB kQ q_this q_this_refused (.ref q_this_all) v_this_isKept v_this_ways v_this_starts v_this_homes v_this_hours v_this_froms v_this_tos v_this_whos v_this_place v_this_since v_this_rows v_this_few v_this_most v_this_parts v_this_fewParts v_this_mostParts v_this_far v_this_queue v_this_gone (.ref q_this_stood) v_this_trips above_ below_ at_ start_ sort_ value_ fault_ men_ gos_ sum_ refused_ (-2) N u50 hu50 H.size) (cwV 1 hts gX10_tables_X10_refuse rfl rfl rfl vd_X10_refuse ⟨Nat.le_of_ble_eq_true rfl, Nat.le_of_ble_eq_true rfl⟩) (q_pv hK hN hE hS hA hP hD [0, 2] rfl rfl rfl 0 rfl (ci := 10) rfl) rfl rfl hl.1 rfl (lv_room (Nat.le_of_ble_eq_true rfl)) dX10_tables_50 ⟨Nat.zero_le _, Nat.zero_le _⟩) hP hD hS hA [0, 2] [1, 3] (Wr := [(q_this_all, .inl (kI, 1080, .inl all_)), (q_this_stood, .inl (kI, 2197, .inl stood_))]) rfl rfl rfl (by decide) (fun H locs hP hD hS => ?_)
    have hP : va_P D vwCl [(q_this_all, .inl (kI, 1080, .inl all_)), (q_this_stood, .inl (kI, 2197, .inl stood_)), (q_this, .inr (10, [.ref q_this_all, v_this_isKept, .ref q_this_refused, .int above_, .int below_, .int at_, .int start_, .int sort_, .int value_, .int fault_, .int men_, .int gos_, v_this_ways, v_this_starts, v_this_homes, v_this_hours, v_this_froms, v_this_tos, v_this_whos, v_this_place, v_this_since, v_this_rows, v_this_few, v_this_most, v_this_parts, v_this_fewParts, v_this_mostParts, v_this_far, v_this_queue, v_this_gone, .ref q_this_stood, v_this_trips, .long sum_])), (q_this_refused, .inl (kI, 3, .inl u50.2))] H := hP
    have hD : va_D A [(q_this_all, .inl (kI, 1080, .inl all_)), (q_this_stood, .inl (kI, 2197, .inl stood_)), (q_this, .inr (10, [.ref q_this_all, v_this_isKept, .ref q_this_refused, .int above_, .int below_, .int at_, .int start_, .int sort_, .int value_, .int fault_, .int men_, .int gos_, v_this_ways, v_this_starts, v_this_homes, v_this_hours, v_this_froms, v_this_tos, v_this_whos, v_this_place, v_this_since, v_this_rows, v_this_few, v_this_most, v_this_parts, v_this_fewParts, v_this_mostParts, v_this_far, v_this_queue, v_this_gone, .ref q_this_stood, v_this_trips, .long sum_])), (q_this_refused, .inl (kI, 3, .inl u50.2))] := hD
    have er := q_inj h
    subst er
    exact hret _ _ _ _ (hP.sub [2, 0, 3, 1] rfl) (hD.sub [2, 0, 3, 1] rfl rfl) hS dX10_tables_53
  · replace h := q_f c21 h
    refine lv_iload_n hx hb dX10_tables_7 rfl (lv_at hl 2 rfl) ?_
    refine lv_iconst (v := 1) hx hb dX10_tables_8 (by decide) ?_
    refine lv_iconst (v := 3) hx hb dX10_tables_9 (by decide) ?_
    obtain ⟨u10, hu10, h⟩ := q_b h
    refine q_aI (va_runS (As := [.int x2, .int 1, .int 3]) (rest := []) ⟨hx, hb, hml, hown, hts⟩ (c_X10_in l D E kI kB kQ x2 1 3 N u10 hu10 H.size) (va_cwS 3 hts gX10_tables_X10_in rfl rfl rfl nd_X10_in ⟨Nat.le_of_ble_eq_true rfl, Nat.le_of_ble_eq_true rfl⟩) (q_ps hK hN hE hS hA hP hD [] rfl rfl rfl) rfl rfl hl.1 rfl (lv_room (Nat.le_of_ble_eq_true rfl)) dX10_tables_10 ⟨Nat.zero_le _, Nat.zero_le _⟩) hP hD hS hA [] [0, 1, 2, 3] (Wr := [(q_this, .inr (10, [.ref q_this_all, v_this_isKept, .ref q_this_refused, .int above_, .int below_, .int at_, .int start_, .int sort_, .int value_, .int fault_, .int men_, .int gos_, v_this_ways, v_this_starts, v_this_homes, v_this_hours, v_this_froms, v_this_tos, v_this_whos, v_this_place, v_this_since, v_this_rows, v_this_few, v_this_most, v_this_parts, v_this_fewParts, v_this_mostParts, v_this_far, v_this_queue, v_this_gone, .ref q_this_stood, v_this_trips, .long sum_])), (q_this_all, .inl (kI, 1080, .inl all_)), (q_this_refused, .inl (kI, 3, .inl refused_)), (q_this_stood, .inl (kI, 2197, .inl stood_))]) rfl rfl rfl (by decide) (fun H locs hP hD hS => ?_)
    have hP : va_P D vwCl [(q_this, .inr (10, [.ref q_this_all, v_this_isKept, .ref q_this_refused, .int above_, .int below_, .int at_, .int start_, .int sort_, .int value_, .int fault_, .int men_, .int gos_, v_this_ways, v_this_starts, v_this_homes, v_this_hours, v_this_froms, v_this_tos, v_this_whos, v_this_place, v_this_since, v_this_rows, v_this_few, v_this_most, v_this_parts, v_this_fewParts, v_this_mostParts, v_this_far, v_this_queue, v_this_gone, .ref q_this_stood, v_this_trips, .long sum_])), (q_this_all, .inl (kI, 1080, .inl all_)), (q_this_refused, .inl (kI, 3, .inl refused_)), (q_this_stood, .inl (kI, 2197, .inl stood_))] H := hP
    have hD : va_D A [(q_this, .inr (10, [.ref q_this_all, v_this_isKept, .ref q_this_refused, .int above_, .int below_, .int at_, .int start_, .int sort_, .int value_, .int fault_, .int men_, .int gos_, v_this_ways, v_this_starts, v_this_homes, v_this_hours, v_this_froms, v_this_tos, v_this_whos, v_this_place, v_this_since, v_this_rows, v_this_few, v_this_most, v_this_parts, v_this_fewParts, v_this_mostParts, v_this_far, v_this_queue, v_this_gone, .ref q_this_stood, v_this_trips, .long sum_])), (q_this_all, .inl (kI, 1080, .inl all_)), (q_this_refused, .inl (kI, 3, .inl refused_)), (q_this_stood, .inl (kI, 2197, .inl stood_))] := hD
    refine lv_if_eq (tgt := 47) hx hb dX10_tables_13 (by decide) (fun c22 => ?_) (fun c22 => ?_)
    · replace h := q_t c22 h
      refine lv_aload_n hx hb dX10_tables_47 rfl (lv_at hl 0 rfl) ?_
      refine lv_bipush (v := (-2)) hx hb dX10_tables_48 (by decide) ?_
      obtain ⟨u50, hu50, h⟩ := q_b h
      refine q_aI (va_runV (As := [.int (-2)]) (rest := []) ⟨hx, hb, hml, hown, hts⟩ (c_X10_refuse l D E kI kB kQ q_this q_this_refused (.ref q_this_all) v_this_isKept v_this_ways v_this_starts v_this_homes v_this_hours v_this_froms v_this_tos v_this_whos v_this_place v_this_since v_this_rows v_this_few v_this_most v_this_parts v_this_fewParts v_this_mostParts v_this_far v_this_queue v_this_gone (.ref q_this_stood) v_this_trips above_ below_ at_ start_ sort_ value_ fault_ men_ gos_ sum_ refused_ (-2) N u50 hu50 H.size) (cwV 1 hts gX10_tables_X10_refuse rfl rfl rfl vd_X10_refuse ⟨Nat.le_of_ble_eq_true rfl, Nat.le_of_ble_eq_true rfl⟩) (q_pv hK hN hE hS hA hP hD [0, 2] rfl rfl rfl 0 rfl (ci := 10) rfl) rfl rfl hl.1 rfl (lv_room (Nat.le_of_ble_eq_true rfl)) dX10_tables_50 ⟨Nat.zero_le _, Nat.zero_le _⟩) hP hD hS hA [0, 2] [1, 3] (Wr := [(q_this_all, .inl (kI, 1080, .inl all_)), (q_this_stood, .inl (kI, 2197, .inl stood_))]) rfl rfl rfl (by decide) (fun H locs hP hD hS => ?_)
      have hP : va_P D vwCl [(q_this_all, .inl (kI, 1080, .inl all_)), (q_this_stood, .inl (kI, 2197, .inl stood_)), (q_this, .inr (10, [.ref q_this_all, v_this_isKept, .ref q_this_refused, .int above_, .int below_, .int at_, .int start_, .int sort_, .int value_, .int fault_, .int men_, .int gos_, v_this_ways, v_this_starts, v_this_homes, v_this_hours, v_this_froms, v_this_tos, v_this_whos, v_this_place, v_this_since, v_this_rows, v_this_few, v_this_most, v_this_parts, v_this_fewParts, v_this_mostParts, v_this_far, v_this_queue, v_this_gone, .ref q_this_stood, v_this_trips, .long sum_])), (q_this_refused, .inl (kI, 3, .inl u50.2))] H := hP
      have hD : va_D A [(q_this_all, .inl (kI, 1080, .inl all_)), (q_this_stood, .inl (kI, 2197, .inl stood_)), (q_this, .inr (10, [.ref q_this_all, v_this_isKept, .ref q_this_refused, .int above_, .int below_, .int at_, .int start_, .int sort_, .int value_, .int fault_, .int men_, .int gos_, v_this_ways, v_this_starts, v_this_homes, v_this_hours, v_this_froms, v_this_tos, v_this_whos, v_this_place, v_this_since, v_this_rows, v_this_few, v_this_most, v_this_parts, v_this_fewParts, v_this_mostParts, v_this_far, v_this_queue, v_this_gone, .ref q_this_stood, v_this_trips, .long sum_])), (q_this_refused, .inl (kI, 3, .inl u50.2))] := hD
      have er := q_inj h
      subst er
      exact hret _ _ _ _ (hP.sub [2, 0, 3, 1] rfl) (hD.sub [2, 0, 3, 1] rfl rfl) hS dX10_tables_53
    · replace h := q_f c22 h
      refine lv_iload_n hx hb dX10_tables_16 rfl (lv_at hl 3 rfl) ?_
      refine lv_iconst (v := 1) hx hb dX10_tables_17 (by decide) ?_
      refine lv_bipush (v := 12) hx hb dX10_tables_18 (by decide) ?_
      obtain ⟨u20, hu20, h⟩ := q_b h
      refine q_aI (va_runS (As := [.int x3, .int 1, .int 12]) (rest := []) ⟨hx, hb, hml, hown, hts⟩ (c_X10_in l D E kI kB kQ x3 1 12 N u20 hu20 H.size) (va_cwS 3 hts gX10_tables_X10_in rfl rfl rfl nd_X10_in ⟨Nat.le_of_ble_eq_true rfl, Nat.le_of_ble_eq_true rfl⟩) (q_ps hK hN hE hS hA hP hD [] rfl rfl rfl) rfl rfl hl.1 rfl (lv_room (Nat.le_of_ble_eq_true rfl)) dX10_tables_20 ⟨Nat.zero_le _, Nat.zero_le _⟩) hP hD hS hA [] [0, 1, 2, 3] (Wr := [(q_this, .inr (10, [.ref q_this_all, v_this_isKept, .ref q_this_refused, .int above_, .int below_, .int at_, .int start_, .int sort_, .int value_, .int fault_, .int men_, .int gos_, v_this_ways, v_this_starts, v_this_homes, v_this_hours, v_this_froms, v_this_tos, v_this_whos, v_this_place, v_this_since, v_this_rows, v_this_few, v_this_most, v_this_parts, v_this_fewParts, v_this_mostParts, v_this_far, v_this_queue, v_this_gone, .ref q_this_stood, v_this_trips, .long sum_])), (q_this_all, .inl (kI, 1080, .inl all_)), (q_this_refused, .inl (kI, 3, .inl refused_)), (q_this_stood, .inl (kI, 2197, .inl stood_))]) rfl rfl rfl (by decide) (fun H locs hP hD hS => ?_)
      have hP : va_P D vwCl [(q_this, .inr (10, [.ref q_this_all, v_this_isKept, .ref q_this_refused, .int above_, .int below_, .int at_, .int start_, .int sort_, .int value_, .int fault_, .int men_, .int gos_, v_this_ways, v_this_starts, v_this_homes, v_this_hours, v_this_froms, v_this_tos, v_this_whos, v_this_place, v_this_since, v_this_rows, v_this_few, v_this_most, v_this_parts, v_this_fewParts, v_this_mostParts, v_this_far, v_this_queue, v_this_gone, .ref q_this_stood, v_this_trips, .long sum_])), (q_this_all, .inl (kI, 1080, .inl all_)), (q_this_refused, .inl (kI, 3, .inl refused_)), (q_this_stood, .inl (kI, 2197, .inl stood_))] H := hP
      have hD : va_D A [(q_this, .inr (10, [.ref q_this_all, v_this_isKept, .ref q_this_refused, .int above_, .int below_, .int at_, .int start_, .int sort_, .int value_, .int fault_, .int men_, .int gos_, v_this_ways, v_this_starts, v_this_homes, v_this_hours, v_this_froms, v_this_tos, v_this_whos, v_this_place, v_this_since, v_this_rows, v_this_few, v_this_most, v_this_parts, v_this_fewParts, v_this_mostParts, v_this_far, v_this_queue, v_this_gone, .ref q_this_stood, v_this_trips, .long sum_])), (q_this_all, .inl (kI, 1080, .inl all_)), (q_this_refused, .inl (kI, 3, .inl refused_)), (q_this_stood, .inl (kI, 2197, .inl stood_))] := hD
      refine lv_if_eq (tgt := 47) hx hb dX10_tables_23 (by decide) (fun c23 => ?_) (fun c23 => ?_)
      · replace h := q_t c23 h
        refine lv_aload_n hx hb dX10_tables_47 rfl (lv_at hl 0 rfl) ?_
        refine lv_bipush (v := (-2)) hx hb dX10_tables_48 (by decide) ?_
        obtain ⟨u50, hu50, h⟩ := q_b h
        refine q_aI (va_runV (As := [.int (-2)]) (rest := []) ⟨hx, hb, hml, hown, hts⟩ (c_X10_refuse l D E kI kB kQ q_this q_this_refused (.ref q_this_all) v_this_isKept v_this_ways v_this_starts v_this_homes v_this_hours v_this_froms v_this_tos v_this_whos v_this_place v_this_since v_this_rows v_this_few v_this_most v_this_parts v_this_fewParts v_this_mostParts v_this_far v_this_queue v_this_gone (.ref q_this_stood) v_this_trips above_ below_ at_ start_ sort_ value_ fault_ men_ gos_ sum_ refused_ (-2) N u50 hu50 H.size) (cwV 1 hts gX10_tables_X10_refuse rfl rfl rfl vd_X10_refuse ⟨Nat.le_of_ble_eq_true rfl, Nat.le_of_ble_eq_true rfl⟩) (q_pv hK hN hE hS hA hP hD [0, 2] rfl rfl rfl 0 rfl (ci := 10) rfl) rfl rfl hl.1 rfl (lv_room (Nat.le_of_ble_eq_true rfl)) dX10_tables_50 ⟨Nat.zero_le _, Nat.zero_le _⟩) hP hD hS hA [0, 2] [1, 3] (Wr := [(q_this_all, .inl (kI, 1080, .inl all_)), (q_this_stood, .inl (kI, 2197, .inl stood_))]) rfl rfl rfl (by decide) (fun H locs hP hD hS => ?_)
        have hP : va_P D vwCl [(q_this_all, .inl (kI, 1080, .inl all_)), (q_this_stood, .inl (kI, 2197, .inl stood_)), (q_this, .inr (10, [.ref q_this_all, v_this_isKept, .ref q_this_refused, .int above_, .int below_, .int at_, .int start_, .int sort_, .int value_, .int fault_, .int men_, .int gos_, v_this_ways, v_this_starts, v_this_homes, v_this_hours, v_this_froms, v_this_tos, v_this_whos, v_this_place, v_this_since, v_this_rows, v_this_few, v_this_most, v_this_parts, v_this_fewParts, v_this_mostParts, v_this_far, v_this_queue, v_this_gone, .ref q_this_stood, v_this_trips, .long sum_])), (q_this_refused, .inl (kI, 3, .inl u50.2))] H := hP
        have hD : va_D A [(q_this_all, .inl (kI, 1080, .inl all_)), (q_this_stood, .inl (kI, 2197, .inl stood_)), (q_this, .inr (10, [.ref q_this_all, v_this_isKept, .ref q_this_refused, .int above_, .int below_, .int at_, .int start_, .int sort_, .int value_, .int fault_, .int men_, .int gos_, v_this_ways, v_this_starts, v_this_homes, v_this_hours, v_this_froms, v_this_tos, v_this_whos, v_this_place, v_this_since, v_this_rows, v_this_few, v_this_most, v_this_parts, v_this_fewParts, v_this_mostParts, v_this_far, v_this_queue, v_this_gone, .ref q_this_stood, v_this_trips, .long sum_])), (q_this_refused, .inl (kI, 3, .inl u50.2))] := hD
        have er := q_inj h
        subst er
        exact hret _ _ _ _ (hP.sub [2, 0, 3, 1] rfl) (hD.sub [2, 0, 3, 1] rfl rfl) hS dX10_tables_53
      · replace h := q_f c23 h
        refine lv_iload hx hb dX10_tables_26 (lv_at hl 4 rfl) ?_
        refine lv_iconst (v := 0) hx hb dX10_tables_28 (by decide) ?_
        refine lv_bipush (v := 24) hx hb dX10_tables_29 (by decide) ?_
        obtain ⟨u31, hu31, h⟩ := q_b h
        refine q_aI (va_runS (As := [.int x4, .int 0, .int 24]) (rest := []) ⟨hx, hb, hml, hown, hts⟩ (c_X10_in l D E kI kB kQ x4 0 24 N u31 hu31 H.size) (va_cwS 3 hts gX10_tables_X10_in rfl rfl rfl nd_X10_in ⟨Nat.le_of_ble_eq_true rfl, Nat.le_of_ble_eq_true rfl⟩) (q_ps hK hN hE hS hA hP hD [] rfl rfl rfl) rfl rfl hl.1 rfl (lv_room (Nat.le_of_ble_eq_true rfl)) dX10_tables_31 ⟨Nat.zero_le _, Nat.zero_le _⟩) hP hD hS hA [] [0, 1, 2, 3] (Wr := [(q_this, .inr (10, [.ref q_this_all, v_this_isKept, .ref q_this_refused, .int above_, .int below_, .int at_, .int start_, .int sort_, .int value_, .int fault_, .int men_, .int gos_, v_this_ways, v_this_starts, v_this_homes, v_this_hours, v_this_froms, v_this_tos, v_this_whos, v_this_place, v_this_since, v_this_rows, v_this_few, v_this_most, v_this_parts, v_this_fewParts, v_this_mostParts, v_this_far, v_this_queue, v_this_gone, .ref q_this_stood, v_this_trips, .long sum_])), (q_this_all, .inl (kI, 1080, .inl all_)), (q_this_refused, .inl (kI, 3, .inl refused_)), (q_this_stood, .inl (kI, 2197, .inl stood_))]) rfl rfl rfl (by decide) (fun H locs hP hD hS => ?_)
        have hP : va_P D vwCl [(q_this, .inr (10, [.ref q_this_all, v_this_isKept, .ref q_this_refused, .int above_, .int below_, .int at_, .int start_, .int sort_, .int value_, .int fault_, .int men_, .int gos_, v_this_ways, v_this_starts, v_this_homes, v_this_hours, v_this_froms, v_this_tos, v_this_whos, v_this_place, v_this_since, v_this_rows, v_this_few, v_this_most, v_this_parts, v_this_fewParts, v_this_mostParts, v_this_far, v_this_queue, v_this_gone, .ref q_this_stood, v_this_trips, .long sum_])), (q_this_all, .inl (kI, 1080, .inl all_)), (q_this_refused, .inl (kI, 3, .inl refused_)), (q_this_stood, .inl (kI, 2197, .inl stood_))] H := hP
        have hD : va_D A [(q_this, .inr (10, [.ref q_this_all, v_this_isKept, .ref q_this_refused, .int above_, .int below_, .int at_, .int start_, .int sort_, .int value_, .int fault_, .int men_, .int gos_, v_this_ways, v_this_starts, v_this_homes, v_this_hours, v_this_froms, v_this_tos, v_this_whos, v_this_place, v_this_since, v_this_rows, v_this_few, v_this_most, v_this_parts, v_this_fewParts, v_this_mostParts, v_this_far, v_this_queue, v_this_gone, .ref q_this_stood, v_this_trips, .long sum_])), (q_this_all, .inl (kI, 1080, .inl all_)), (q_this_refused, .inl (kI, 3, .inl refused_)), (q_this_stood, .inl (kI, 2197, .inl stood_))] := hD
        refine lv_if_eq (tgt := 47) hx hb dX10_tables_34 (by decide) (fun c24 => ?_) (fun c24 => ?_)
        · replace h := q_t c24 h
          refine lv_aload_n hx hb dX10_tables_47 rfl (lv_at hl 0 rfl) ?_
          refine lv_bipush (v := (-2)) hx hb dX10_tables_48 (by decide) ?_
          obtain ⟨u50, hu50, h⟩ := q_b h
          refine q_aI (va_runV (As := [.int (-2)]) (rest := []) ⟨hx, hb, hml, hown, hts⟩ (c_X10_refuse l D E kI kB kQ q_this q_this_refused (.ref q_this_all) v_this_isKept v_this_ways v_this_starts v_this_homes v_this_hours v_this_froms v_this_tos v_this_whos v_this_place v_this_since v_this_rows v_this_few v_this_most v_this_parts v_this_fewParts v_this_mostParts v_this_far v_this_queue v_this_gone (.ref q_this_stood) v_this_trips above_ below_ at_ start_ sort_ value_ fault_ men_ gos_ sum_ refused_ (-2) N u50 hu50 H.size) (cwV 1 hts gX10_tables_X10_refuse rfl rfl rfl vd_X10_refuse ⟨Nat.le_of_ble_eq_true rfl, Nat.le_of_ble_eq_true rfl⟩) (q_pv hK hN hE hS hA hP hD [0, 2] rfl rfl rfl 0 rfl (ci := 10) rfl) rfl rfl hl.1 rfl (lv_room (Nat.le_of_ble_eq_true rfl)) dX10_tables_50 ⟨Nat.zero_le _, Nat.zero_le _⟩) hP hD hS hA [0, 2] [1, 3] (Wr := [(q_this_all, .inl (kI, 1080, .inl all_)), (q_this_stood, .inl (kI, 2197, .inl stood_))]) rfl rfl rfl (by decide) (fun H locs hP hD hS => ?_)
          have hP : va_P D vwCl [(q_this_all, .inl (kI, 1080, .inl all_)), (q_this_stood, .inl (kI, 2197, .inl stood_)), (q_this, .inr (10, [.ref q_this_all, v_this_isKept, .ref q_this_refused, .int above_, .int below_, .int at_, .int start_, .int sort_, .int value_, .int fault_, .int men_, .int gos_, v_this_ways, v_this_starts, v_this_homes, v_this_hours, v_this_froms, v_this_tos, v_this_whos, v_this_place, v_this_since, v_this_rows, v_this_few, v_this_most, v_this_parts, v_this_fewParts, v_this_mostParts, v_this_far, v_this_queue, v_this_gone, .ref q_this_stood, v_this_trips, .long sum_])), (q_this_refused, .inl (kI, 3, .inl u50.2))] H := hP
          have hD : va_D A [(q_this_all, .inl (kI, 1080, .inl all_)), (q_this_stood, .inl (kI, 2197, .inl stood_)), (q_this, .inr (10, [.ref q_this_all, v_this_isKept, .ref q_this_refused, .int above_, .int below_, .int at_, .int start_, .int sort_, .int value_, .int fault_, .int men_, .int gos_, v_this_ways, v_this_starts, v_this_homes, v_this_hours, v_this_froms, v_this_tos, v_this_whos, v_this_place, v_this_since, v_this_rows, v_this_few, v_this_most, v_this_parts, v_this_fewParts, v_this_mostParts, v_this_far, v_this_queue, v_this_gone, .ref q_this_stood, v_this_trips, .long sum_])), (q_this_refused, .inl (kI, 3, .inl u50.2))] := hD
          have er := q_inj h
          subst er
          exact hret _ _ _ _ (hP.sub [2, 0, 3, 1] rfl) (hD.sub [2, 0, 3, 1] rfl rfl) hS dX10_tables_53
        · replace h := q_f c24 h
          refine lv_iload hx hb dX10_tables_37 (lv_at hl 5 rfl) ?_
          refine lv_iconst (v := 0) hx hb dX10_tables_39 (by decide) ?_
          refine lv_iconst (v := 1) hx hb dX10_tables_40 (by decide) ?_
          obtain ⟨u41, hu41, h⟩ := q_b h
          refine q_aI (va_runS (As := [.int x5, .int 0, .int 1]) (rest := []) ⟨hx, hb, hml, hown, hts⟩ (c_X10_in l D E kI kB kQ x5 0 1 N u41 hu41 H.size) (va_cwS 3 hts gX10_tables_X10_in rfl rfl rfl nd_X10_in ⟨Nat.le_of_ble_eq_true rfl, Nat.le_of_ble_eq_true rfl⟩) (q_ps hK hN hE hS hA hP hD [] rfl rfl rfl) rfl rfl hl.1 rfl (lv_room (Nat.le_of_ble_eq_true rfl)) dX10_tables_41 ⟨Nat.zero_le _, Nat.zero_le _⟩) hP hD hS hA [] [0, 1, 2, 3] (Wr := [(q_this, .inr (10, [.ref q_this_all, v_this_isKept, .ref q_this_refused, .int above_, .int below_, .int at_, .int start_, .int sort_, .int value_, .int fault_, .int men_, .int gos_, v_this_ways, v_this_starts, v_this_homes, v_this_hours, v_this_froms, v_this_tos, v_this_whos, v_this_place, v_this_since, v_this_rows, v_this_few, v_this_most, v_this_parts, v_this_fewParts, v_this_mostParts, v_this_far, v_this_queue, v_this_gone, .ref q_this_stood, v_this_trips, .long sum_])), (q_this_all, .inl (kI, 1080, .inl all_)), (q_this_refused, .inl (kI, 3, .inl refused_)), (q_this_stood, .inl (kI, 2197, .inl stood_))]) rfl rfl rfl (by decide) (fun H locs hP hD hS => ?_)
          have hP : va_P D vwCl [(q_this, .inr (10, [.ref q_this_all, v_this_isKept, .ref q_this_refused, .int above_, .int below_, .int at_, .int start_, .int sort_, .int value_, .int fault_, .int men_, .int gos_, v_this_ways, v_this_starts, v_this_homes, v_this_hours, v_this_froms, v_this_tos, v_this_whos, v_this_place, v_this_since, v_this_rows, v_this_few, v_this_most, v_this_parts, v_this_fewParts, v_this_mostParts, v_this_far, v_this_queue, v_this_gone, .ref q_this_stood, v_this_trips, .long sum_])), (q_this_all, .inl (kI, 1080, .inl all_)), (q_this_refused, .inl (kI, 3, .inl refused_)), (q_this_stood, .inl (kI, 2197, .inl stood_))] H := hP
          have hD : va_D A [(q_this, .inr (10, [.ref q_this_all, v_this_isKept, .ref q_this_refused, .int above_, .int below_, .int at_, .int start_, .int sort_, .int value_, .int fault_, .int men_, .int gos_, v_this_ways, v_this_starts, v_this_homes, v_this_hours, v_this_froms, v_this_tos, v_this_whos, v_this_place, v_this_since, v_this_rows, v_this_few, v_this_most, v_this_parts, v_this_fewParts, v_this_mostParts, v_this_far, v_this_queue, v_this_gone, .ref q_this_stood, v_this_trips, .long sum_])), (q_this_all, .inl (kI, 1080, .inl all_)), (q_this_refused, .inl (kI, 3, .inl refused_)), (q_this_stood, .inl (kI, 2197, .inl stood_))] := hD
          refine lv_if_ne (tgt := 54) hx hb dX10_tables_44 (by decide) (fun c25 => ?_) (fun c25 => ?_)
          · replace h := q_f c25 h
            refine lv_iconst (v := 0) hx hb dX10_tables_54 (by decide) ?_
            refine lv_istore (lv' := [(6, .int 0), (0, .ref q_this), (1, .int x1), (2, .int x2), (3, .int x3), (4, .int x4), (5, .int x5)]) hx hb dX10_tables_55 hl (by decide) rfl (fun ls hl => ?_)
            exact J57 N 0 refused_ stood_ h _ _ _ (hP.sub [0, 1, 2, 3] rfl) (hD.sub [0, 1, 2, 3] rfl rfl) hS (lv_sub hl [1, 2, 3, 4, 5, 6, 0] rfl)
          · replace h := q_t c25 h
            refine lv_aload_n hx hb dX10_tables_47 rfl (lv_at hl 0 rfl) ?_
            refine lv_bipush (v := (-2)) hx hb dX10_tables_48 (by decide) ?_
            obtain ⟨u50, hu50, h⟩ := q_b h
            refine q_aI (va_runV (As := [.int (-2)]) (rest := []) ⟨hx, hb, hml, hown, hts⟩ (c_X10_refuse l D E kI kB kQ q_this q_this_refused (.ref q_this_all) v_this_isKept v_this_ways v_this_starts v_this_homes v_this_hours v_this_froms v_this_tos v_this_whos v_this_place v_this_since v_this_rows v_this_few v_this_most v_this_parts v_this_fewParts v_this_mostParts v_this_far v_this_queue v_this_gone (.ref q_this_stood) v_this_trips above_ below_ at_ start_ sort_ value_ fault_ men_ gos_ sum_ refused_ (-2) N u50 hu50 H.size) (cwV 1 hts gX10_tables_X10_refuse rfl rfl rfl vd_X10_refuse ⟨Nat.le_of_ble_eq_true rfl, Nat.le_of_ble_eq_true rfl⟩) (q_pv hK hN hE hS hA hP hD [0, 2] rfl rfl rfl 0 rfl (ci := 10) rfl) rfl rfl hl.1 rfl (lv_room (Nat.le_of_ble_eq_true rfl)) dX10_tables_50 ⟨Nat.zero_le _, Nat.zero_le _⟩) hP hD hS hA [0, 2] [1, 3] (Wr := [(q_this_all, .inl (kI, 1080, .inl all_)), (q_this_stood, .inl (kI, 2197, .inl stood_))]) rfl rfl rfl (by decide) (fun H locs hP hD hS => ?_)
            have hP : va_P D vwCl [(q_this_all, .inl (kI, 1080, .inl all_)), (q_this_stood, .inl (kI, 2197, .inl stood_)), (q_this, .inr (10, [.ref q_this_all, v_this_isKept, .ref q_this_refused, .int above_, .int below_, .int at_, .int start_, .int sort_, .int value_, .int fault_, .int men_, .int gos_, v_this_ways, v_this_starts, v_this_homes, v_this_hours, v_this_froms, v_this_tos, v_this_whos, v_this_place, v_this_since, v_this_rows, v_this_few, v_this_most, v_this_parts, v_this_fewParts, v_this_mostParts, v_this_far, v_this_queue, v_this_gone, .ref q_this_stood, v_this_trips, .long sum_])), (q_this_refused, .inl (kI, 3, .inl u50.2))] H := hP
            have hD : va_D A [(q_this_all, .inl (kI, 1080, .inl all_)), (q_this_stood, .inl (kI, 2197, .inl stood_)), (q_this, .inr (10, [.ref q_this_all, v_this_isKept, .ref q_this_refused, .int above_, .int below_, .int at_, .int start_, .int sort_, .int value_, .int fault_, .int men_, .int gos_, v_this_ways, v_this_starts, v_this_homes, v_this_hours, v_this_froms, v_this_tos, v_this_whos, v_this_place, v_this_since, v_this_rows, v_this_few, v_this_most, v_this_parts, v_this_fewParts, v_this_mostParts, v_this_far, v_this_queue, v_this_gone, .ref q_this_stood, v_this_trips, .long sum_])), (q_this_refused, .inl (kI, 3, .inl u50.2))] := hD
            have er := q_inj h
            subst er
            exact hret _ _ _ _ (hP.sub [2, 0, 3, 1] rfl) (hD.sub [2, 0, 3, 1] rfl rfl) hS dX10_tables_53
abbrev rm_X10_company : Room := { frames := 1, cells := 0, slots := 0, locals := 22 }
theorem lk_X10_company_0 : Cond.fieldLink RX10 7 "OnlyPrimesModel" "all" "[I" ∈ wsX10_company := List.mem_of_getElem? (i := 1) (by decide +kernel)
theorem iw_X10_company_X10 : ∀ w ∈ wsX100, w ∈ wsX10_company := by decide +kernel
theorem nd_X10_company : yX10_company.cls ≠ "java/lang/invoke/MethodHandle" ∧ yX10_company.cls ≠ "java/lang/invoke/VarHandle" ∧ (parseMethodDescriptor yX10_company.desc).map (fun d => d.parameters.length) = some 1 := by decide +kernel
theorem vd_X10_company : yX10_company.cls = RX10 ∧ yX10_company.cls ≠ "java/lang/invoke/MethodHandle" ∧ yX10_company.cls ≠ "java/lang/invoke/VarHandle" ∧ (parseMethodDescriptor yX10_company.desc).map (fun d => d.parameters.length) = some 1 := by decide +kernel
set_option maxHeartbeats 4000000 in
set_option maxRecDepth 100000 in
theorem c_X10_company (l : Launch) (D : va_G) (E : q_En) (kI kB kQ : ClassId) (q_this : Nat) (q_this_all : Nat) (q_this_refused : Nat) (v_this_isKept : Value) (v_this_ways : Value) (v_this_starts : Value) (v_this_homes : Value) (v_this_hours : Value) (v_this_froms : Value) (v_this_tos : Value) (v_this_whos : Value) (v_this_place : Value) (v_this_since : Value) (v_this_rows : Value) (v_this_few : Value) (v_this_most : Value) (v_this_parts : Value) (v_this_fewParts : Value) (v_this_mostParts : Value) (v_this_far : Value) (v_this_queue : Value) (v_this_gone : Value) (v_this_stood : Value) (v_this_trips : Value) (above_ : Int32) (below_ : Int32) (at_ : Int32) (start_ : Int32) (sort_ : Int32) (value_ : Int32) (fault_ : Int32) (men_ : Int32) (gos_ : Int32) (sum_ : Int64) (all_ : Nat → Int32) (refused_ : Nat → Int32) (x1 : Int32) (N : Nat) (r : Int32 × (Nat → Int32) × (Nat → Int32)) (hf : g_X10_company all_ refused_ x1 = some r) : CtI l D E yX10_company wsX10_company rm_X10_company (q_tys kI kB kQ) [.ref q_this, .int x1] [(q_this, .inr (10, [.ref q_this_all, v_this_isKept, .ref q_this_refused, .int above_, .int below_, .int at_, .int start_, .int sort_, .int value_, .int fault_, .int men_, .int gos_, v_this_ways, v_this_starts, v_this_homes, v_this_hours, v_this_froms, v_this_tos, v_this_whos, v_this_place, v_this_since, v_this_rows, v_this_few, v_this_most, v_this_parts, v_this_fewParts, v_this_mostParts, v_this_far, v_this_queue, v_this_gone, v_this_stood, v_this_trips, .long sum_])), (q_this_all, .inl (kI, 1080, .inl all_)), (q_this_refused, .inl (kI, 3, .inl refused_))] [(q_this, .inr (10, [.ref q_this_all, v_this_isKept, .ref q_this_refused, .int above_, .int below_, .int at_, .int start_, .int sort_, .int value_, .int fault_, .int men_, .int gos_, v_this_ways, v_this_starts, v_this_homes, v_this_hours, v_this_froms, v_this_tos, v_this_whos, v_this_place, v_this_since, v_this_rows, v_this_few, v_this_most, v_this_parts, v_this_fewParts, v_this_mostParts, v_this_far, v_this_queue, v_this_gone, v_this_stood, v_this_trips, .long sum_])), (q_this_all, .inl (kI, 1080, .inl r.2.1)), (q_this_refused, .inl (kI, 3, .inl r.2.2))] r.1 := by
  refine q_enterI cX10_company 3 RX10 (by decide) rfl (Nat.le_of_ble_eq_true rfl) rfl ?_
  intro p e s m args below meth c Q A ls H hx hb hml hown hts hK hN hE hA hP hS hD hl hret
  have hl : lv_has ls 3 [(0, .ref q_this), (1, .int x1)] := hl
  have h := hf
  rw [g_X10_company] at h
  refine lv_iload_n hx hb dX10_company_0 rfl (lv_at hl 1 rfl) ?_
  refine lv_iconst (v := 1) hx hb dX10_company_1 (by decide) ?_
  refine lv_bipush (v := 20) hx hb dX10_company_2 (by decide) ?_
  obtain ⟨u4, hu4, h⟩ := q_b h
  refine q_aI (va_runS (As := [.int x1, .int 1, .int 20]) (rest := []) ⟨hx, hb, hml, hown, hts⟩ (c_X10_in l D E kI kB kQ x1 1 20 N u4 hu4 H.size) (va_cwS 3 hts gX10_company_X10_in rfl rfl rfl nd_X10_in ⟨Nat.le_of_ble_eq_true rfl, Nat.le_of_ble_eq_true rfl⟩) (q_ps hK hN hE hS hA hP hD [] rfl rfl rfl) rfl rfl hl.1 rfl (lv_room (Nat.le_of_ble_eq_true rfl)) dX10_company_4 ⟨Nat.zero_le _, Nat.zero_le _⟩) hP hD hS hA [] [0, 1, 2] (Wr := [(q_this, .inr (10, [.ref q_this_all, v_this_isKept, .ref q_this_refused, .int above_, .int below_, .int at_, .int start_, .int sort_, .int value_, .int fault_, .int men_, .int gos_, v_this_ways, v_this_starts, v_this_homes, v_this_hours, v_this_froms, v_this_tos, v_this_whos, v_this_place, v_this_since, v_this_rows, v_this_few, v_this_most, v_this_parts, v_this_fewParts, v_this_mostParts, v_this_far, v_this_queue, v_this_gone, v_this_stood, v_this_trips, .long sum_])), (q_this_all, .inl (kI, 1080, .inl all_)), (q_this_refused, .inl (kI, 3, .inl refused_))]) rfl rfl rfl (by decide) (fun H locs hP hD hS => ?_)
  have hP : va_P D vwCl [(q_this, .inr (10, [.ref q_this_all, v_this_isKept, .ref q_this_refused, .int above_, .int below_, .int at_, .int start_, .int sort_, .int value_, .int fault_, .int men_, .int gos_, v_this_ways, v_this_starts, v_this_homes, v_this_hours, v_this_froms, v_this_tos, v_this_whos, v_this_place, v_this_since, v_this_rows, v_this_few, v_this_most, v_this_parts, v_this_fewParts, v_this_mostParts, v_this_far, v_this_queue, v_this_gone, v_this_stood, v_this_trips, .long sum_])), (q_this_all, .inl (kI, 1080, .inl all_)), (q_this_refused, .inl (kI, 3, .inl refused_))] H := hP
  have hD : va_D A [(q_this, .inr (10, [.ref q_this_all, v_this_isKept, .ref q_this_refused, .int above_, .int below_, .int at_, .int start_, .int sort_, .int value_, .int fault_, .int men_, .int gos_, v_this_ways, v_this_starts, v_this_homes, v_this_hours, v_this_froms, v_this_tos, v_this_whos, v_this_place, v_this_since, v_this_rows, v_this_few, v_this_most, v_this_parts, v_this_fewParts, v_this_mostParts, v_this_far, v_this_queue, v_this_gone, v_this_stood, v_this_trips, .long sum_])), (q_this_all, .inl (kI, 1080, .inl all_)), (q_this_refused, .inl (kI, 3, .inl refused_))] := hD
  refine lv_if_ne (tgt := 17) hx hb dX10_company_7 (by decide) (fun c1 => ?_) (fun c1 => ?_)
  · replace h := q_f c1 h
    refine lv_aload_n hx hb dX10_company_17 rfl (lv_at hl 0 rfl) ?_
    refine va_get (D := D) (ci := 10) (C := RX10) (T := TX10) (N := 33) hx hb hts iw_X10_company_X10 hown hK hP 0 rfl rfl 0 (by decide) (hts _ lk_X10_company_0) (fun _ h9 => h9) rfl dX10_company_18 ?_
    refine lv_bipush (v := 6) hx hb dX10_company_21 (by decide) ?_
    obtain ⟨hg2, h⟩ := q_g h
    refine va_iald hx hb hK hP 1 0 rfl rfl (inb_vp hg2) dX10_company_23 ?_
    refine lv_istore_n (lv' := [(2, .int (all_ (6 : Int32).toNatClampNeg)), (0, .ref q_this), (1, .int x1)]) hx hb dX10_company_24 rfl hl (by decide) rfl (fun ls hl => ?_)
    refine lv_iload_n hx hb dX10_company_25 rfl (lv_at hl 0 rfl) ?_
    refine lv_bipush (v := 8) hx hb dX10_company_26 (by decide) ?_
    refine lv_icmp_ne (tgt := 38) hx hb dX10_company_28 (by decide) (fun c3 => ?_) (fun c3 => ?_)
    · replace h := q_f c3 h
      refine lv_aload_n hx hb dX10_company_38 rfl (lv_at hl 1 rfl) ?_
      refine va_get (D := D) (ci := 10) (C := RX10) (T := TX10) (N := 33) hx hb hts iw_X10_company_X10 hown hK hP 0 rfl rfl 0 (by decide) (hts _ lk_X10_company_0) (fun _ h9 => h9) rfl dX10_company_39 ?_
      refine lv_sipush (v := 349) hx hb dX10_company_42 (by decide) ?_
      refine lv_iload_n hx hb dX10_company_45 rfl (lv_at hl 0 rfl) ?_
      refine lv_iadd hx hb dX10_company_46 ?_
      refine lv_iload_n hx hb dX10_company_47 rfl (lv_at hl 2 rfl) ?_
      obtain ⟨hg4, h⟩ := q_g h
      refine va_iast hx hb hK hP hD hS 1 0 rfl rfl (inb_vp hg4) dX10_company_48 (fun H locs hP hD hS => ?_)
      have hP : va_P D vwCl [(q_this, .inr (10, [.ref q_this_all, v_this_isKept, .ref q_this_refused, .int above_, .int below_, .int at_, .int start_, .int sort_, .int value_, .int fault_, .int men_, .int gos_, v_this_ways, v_this_starts, v_this_homes, v_this_hours, v_this_froms, v_this_tos, v_this_whos, v_this_place, v_this_since, v_this_rows, v_this_few, v_this_most, v_this_parts, v_this_fewParts, v_this_mostParts, v_this_far, v_this_queue, v_this_gone, v_this_stood, v_this_trips, .long sum_])), (q_this_all, .inl (kI, 1080, .inl (upd all_ (349 + (all_ (6 : Int32).toNatClampNeg)).toNatClampNeg x1))), (q_this_refused, .inl (kI, 3, .inl refused_))] H := hP
      have hD : va_D A [(q_this, .inr (10, [.ref q_this_all, v_this_isKept, .ref q_this_refused, .int above_, .int below_, .int at_, .int start_, .int sort_, .int value_, .int fault_, .int men_, .int gos_, v_this_ways, v_this_starts, v_this_homes, v_this_hours, v_this_froms, v_this_tos, v_this_whos, v_this_place, v_this_since, v_this_rows, v_this_few, v_this_most, v_this_parts, v_this_fewParts, v_this_mostParts, v_this_far, v_this_queue, v_this_gone, v_this_stood, v_this_trips, .long sum_])), (q_this_all, .inl (kI, 1080, .inl (upd all_ (349 + (all_ (6 : Int32).toNatClampNeg)).toNatClampNeg x1))), (q_this_refused, .inl (kI, 3, .inl refused_))] := hD
      refine lv_aload_n hx hb dX10_company_49 rfl (lv_at hl 1 rfl) ?_
      refine va_get (D := D) (ci := 10) (C := RX10) (T := TX10) (N := 33) hx hb hts iw_X10_company_X10 hown hK hP 0 rfl rfl 0 (by decide) (hts _ lk_X10_company_0) (fun _ h9 => h9) rfl dX10_company_50 ?_
      refine lv_bipush (v := 6) hx hb dX10_company_53 (by decide) ?_
      refine lv_dup2_11 hx hb dX10_company_55 rfl rfl ?_
      refine va_iald hx hb hK hP 1 0 rfl rfl (inb_vp hg2) dX10_company_56 ?_
      refine lv_iconst (v := 1) hx hb dX10_company_57 (by decide) ?_
      refine lv_iadd hx hb dX10_company_58 ?_
      refine va_iast hx hb hK hP hD hS 1 0 rfl rfl (inb_vp hg2) dX10_company_59 (fun H locs hP hD hS => ?_)
      have hP : va_P D vwCl [(q_this, .inr (10, [.ref q_this_all, v_this_isKept, .ref q_this_refused, .int above_, .int below_, .int at_, .int start_, .int sort_, .int value_, .int fault_, .int men_, .int gos_, v_this_ways, v_this_starts, v_this_homes, v_this_hours, v_this_froms, v_this_tos, v_this_whos, v_this_place, v_this_since, v_this_rows, v_this_few, v_this_most, v_this_parts, v_this_fewParts, v_this_mostParts, v_this_far, v_this_queue, v_this_gone, v_this_stood, v_this_trips, .long sum_])), (q_this_all, .inl (kI, 1080, .inl (upd (upd all_ (349 + (all_ (6 : Int32).toNatClampNeg)).toNatClampNeg x1) (6 : Int32).toNatClampNeg (((upd all_ (349 + (all_ (6 : Int32).toNatClampNeg)).toNatClampNeg x1) (6 : Int32).toNatClampNeg) + 1)))), (q_this_refused, .inl (kI, 3, .inl refused_))] H := hP
      have hD : va_D A [(q_this, .inr (10, [.ref q_this_all, v_this_isKept, .ref q_this_refused, .int above_, .int below_, .int at_, .int start_, .int sort_, .int value_, .int fault_, .int men_, .int gos_, v_this_ways, v_this_starts, v_this_homes, v_this_hours, v_this_froms, v_this_tos, v_this_whos, v_this_place, v_this_since, v_this_rows, v_this_few, v_this_most, v_this_parts, v_this_fewParts, v_this_mostParts, v_this_far, v_this_queue, v_this_gone, v_this_stood, v_this_trips, .long sum_])), (q_this_all, .inl (kI, 1080, .inl (upd (upd all_ (349 + (all_ (6 : Int32).toNatClampNeg)).toNatClampNeg x1) (6 : Int32).toNatClampNeg (((upd all_ (349 + (all_ (6 : Int32).toNatClampNeg)).toNatClampNeg x1) (6 : Int32).toNatClampNeg) + 1)))), (q_this_refused, .inl (kI, 3, .inl refused_))] := hD
      refine lv_iload_n hx hb dX10_company_60 rfl (lv_at hl 0 rfl) ?_
      have er := q_inj h
      subst er
      exact hret _ _ _ _ (hP.sub [0, 1, 2] rfl) (hD.sub [0, 1, 2] rfl rfl) hS dX10_company_61
    · replace h := q_t c3 h
      refine lv_aload_n hx hb dX10_company_31 rfl (lv_at hl 1 rfl) ?_
      refine lv_bipush (v := (-4)) hx hb dX10_company_32 (by decide) ?_
      obtain ⟨u34, hu34, h⟩ := q_b h
      refine q_aI (va_runV (As := [.int (-4)]) (rest := []) ⟨hx, hb, hml, hown, hts⟩ (c_X10_refuse l D E kI kB kQ q_this q_this_refused (.ref q_this_all) v_this_isKept v_this_ways v_this_starts v_this_homes v_this_hours v_this_froms v_this_tos v_this_whos v_this_place v_this_since v_this_rows v_this_few v_this_most v_this_parts v_this_fewParts v_this_mostParts v_this_far v_this_queue v_this_gone v_this_stood v_this_trips above_ below_ at_ start_ sort_ value_ fault_ men_ gos_ sum_ refused_ (-4) N u34 hu34 H.size) (cwV 1 hts gX10_company_X10_refuse rfl rfl rfl vd_X10_refuse ⟨Nat.le_of_ble_eq_true rfl, Nat.le_of_ble_eq_true rfl⟩) (q_pv hK hN hE hS hA hP hD [0, 2] rfl rfl rfl 0 rfl (ci := 10) rfl) rfl rfl hl.1 rfl (lv_room (Nat.le_of_ble_eq_true rfl)) dX10_company_34 ⟨Nat.zero_le _, Nat.zero_le _⟩) hP hD hS hA [0, 2] [1] (Wr := [(q_this_all, .inl (kI, 1080, .inl all_))]) rfl rfl rfl (by decide) (fun H locs hP hD hS => ?_)
      have hP : va_P D vwCl [(q_this_all, .inl (kI, 1080, .inl all_)), (q_this, .inr (10, [.ref q_this_all, v_this_isKept, .ref q_this_refused, .int above_, .int below_, .int at_, .int start_, .int sort_, .int value_, .int fault_, .int men_, .int gos_, v_this_ways, v_this_starts, v_this_homes, v_this_hours, v_this_froms, v_this_tos, v_this_whos, v_this_place, v_this_since, v_this_rows, v_this_few, v_this_most, v_this_parts, v_this_fewParts, v_this_mostParts, v_this_far, v_this_queue, v_this_gone, v_this_stood, v_this_trips, .long sum_])), (q_this_refused, .inl (kI, 3, .inl u34.2))] H := hP
      have hD : va_D A [(q_this_all, .inl (kI, 1080, .inl all_)), (q_this, .inr (10, [.ref q_this_all, v_this_isKept, .ref q_this_refused, .int above_, .int below_, .int at_, .int start_, .int sort_, .int value_, .int fault_, .int men_, .int gos_, v_this_ways, v_this_starts, v_this_homes, v_this_hours, v_this_froms, v_this_tos, v_this_whos, v_this_place, v_this_since, v_this_rows, v_this_few, v_this_most, v_this_parts, v_this_fewParts, v_this_mostParts, v_this_far, v_this_queue, v_this_gone, v_this_stood, v_this_trips, .long sum_])), (q_this_refused, .inl (kI, 3, .inl u34.2))] := hD
      have er := q_inj h
      subst er
      exact hret _ _ _ _ (hP.sub [1, 0, 2] rfl) (hD.sub [1, 0, 2] rfl rfl) hS dX10_company_37
  · replace h := q_t c1 h
    refine lv_aload_n hx hb dX10_company_10 rfl (lv_at hl 0 rfl) ?_
    refine lv_bipush (v := (-2)) hx hb dX10_company_11 (by decide) ?_
    obtain ⟨u13, hu13, h⟩ := q_b h
    refine q_aI (va_runV (As := [.int (-2)]) (rest := []) ⟨hx, hb, hml, hown, hts⟩ (c_X10_refuse l D E kI kB kQ q_this q_this_refused (.ref q_this_all) v_this_isKept v_this_ways v_this_starts v_this_homes v_this_hours v_this_froms v_this_tos v_this_whos v_this_place v_this_since v_this_rows v_this_few v_this_most v_this_parts v_this_fewParts v_this_mostParts v_this_far v_this_queue v_this_gone v_this_stood v_this_trips above_ below_ at_ start_ sort_ value_ fault_ men_ gos_ sum_ refused_ (-2) N u13 hu13 H.size) (cwV 1 hts gX10_company_X10_refuse rfl rfl rfl vd_X10_refuse ⟨Nat.le_of_ble_eq_true rfl, Nat.le_of_ble_eq_true rfl⟩) (q_pv hK hN hE hS hA hP hD [0, 2] rfl rfl rfl 0 rfl (ci := 10) rfl) rfl rfl hl.1 rfl (lv_room (Nat.le_of_ble_eq_true rfl)) dX10_company_13 ⟨Nat.zero_le _, Nat.zero_le _⟩) hP hD hS hA [0, 2] [1] (Wr := [(q_this_all, .inl (kI, 1080, .inl all_))]) rfl rfl rfl (by decide) (fun H locs hP hD hS => ?_)
    have hP : va_P D vwCl [(q_this_all, .inl (kI, 1080, .inl all_)), (q_this, .inr (10, [.ref q_this_all, v_this_isKept, .ref q_this_refused, .int above_, .int below_, .int at_, .int start_, .int sort_, .int value_, .int fault_, .int men_, .int gos_, v_this_ways, v_this_starts, v_this_homes, v_this_hours, v_this_froms, v_this_tos, v_this_whos, v_this_place, v_this_since, v_this_rows, v_this_few, v_this_most, v_this_parts, v_this_fewParts, v_this_mostParts, v_this_far, v_this_queue, v_this_gone, v_this_stood, v_this_trips, .long sum_])), (q_this_refused, .inl (kI, 3, .inl u13.2))] H := hP
    have hD : va_D A [(q_this_all, .inl (kI, 1080, .inl all_)), (q_this, .inr (10, [.ref q_this_all, v_this_isKept, .ref q_this_refused, .int above_, .int below_, .int at_, .int start_, .int sort_, .int value_, .int fault_, .int men_, .int gos_, v_this_ways, v_this_starts, v_this_homes, v_this_hours, v_this_froms, v_this_tos, v_this_whos, v_this_place, v_this_since, v_this_rows, v_this_few, v_this_most, v_this_parts, v_this_fewParts, v_this_mostParts, v_this_far, v_this_queue, v_this_gone, v_this_stood, v_this_trips, .long sum_])), (q_this_refused, .inl (kI, 3, .inl u13.2))] := hD
    have er := q_inj h
    subst er
    exact hret _ _ _ _ (hP.sub [1, 0, 2] rfl) (hD.sub [1, 0, 2] rfl rfl) hS dX10_company_16
abbrev rm_X10_disperse : Room := { frames := 0, cells := 0, slots := 0, locals := 0 }
theorem lk_X10_disperse_0 : Cond.fieldLink RX10 7 "OnlyPrimesModel" "all" "[I" ∈ wsX10_disperse := List.mem_of_getElem? (i := 1) (by decide +kernel)
theorem iw_X10_disperse_X10 : ∀ w ∈ wsX100, w ∈ wsX10_disperse := by decide +kernel
theorem nd_X10_disperse : yX10_disperse.cls ≠ "java/lang/invoke/MethodHandle" ∧ yX10_disperse.cls ≠ "java/lang/invoke/VarHandle" ∧ (parseMethodDescriptor yX10_disperse.desc).map (fun d => d.parameters.length) = some 0 := by decide +kernel
theorem vd_X10_disperse : yX10_disperse.cls = RX10 ∧ yX10_disperse.cls ≠ "java/lang/invoke/MethodHandle" ∧ yX10_disperse.cls ≠ "java/lang/invoke/VarHandle" ∧ (parseMethodDescriptor yX10_disperse.desc).map (fun d => d.parameters.length) = some 0 := by decide +kernel
set_option maxHeartbeats 4000000 in
set_option maxRecDepth 100000 in
theorem c_X10_disperse (l : Launch) (D : va_G) (E : q_En) (kI kB kQ : ClassId) (q_this : Nat) (q_this_all : Nat) (v_this_isKept : Value) (v_this_refused : Value) (v_this_ways : Value) (v_this_starts : Value) (v_this_homes : Value) (v_this_hours : Value) (v_this_froms : Value) (v_this_tos : Value) (v_this_whos : Value) (v_this_place : Value) (v_this_since : Value) (v_this_rows : Value) (v_this_few : Value) (v_this_most : Value) (v_this_parts : Value) (v_this_fewParts : Value) (v_this_mostParts : Value) (v_this_far : Value) (v_this_queue : Value) (v_this_gone : Value) (v_this_stood : Value) (v_this_trips : Value) (above_ : Int32) (below_ : Int32) (at_ : Int32) (start_ : Int32) (sort_ : Int32) (value_ : Int32) (fault_ : Int32) (men_ : Int32) (gos_ : Int32) (sum_ : Int64) (all_ : Nat → Int32) (N : Nat) (r : Int32 × (Nat → Int32)) (hf : g_X10_disperse all_ = some r) : CtI l D E yX10_disperse wsX10_disperse rm_X10_disperse (q_tys kI kB kQ) [.ref q_this] [(q_this, .inr (10, [.ref q_this_all, v_this_isKept, v_this_refused, .int above_, .int below_, .int at_, .int start_, .int sort_, .int value_, .int fault_, .int men_, .int gos_, v_this_ways, v_this_starts, v_this_homes, v_this_hours, v_this_froms, v_this_tos, v_this_whos, v_this_place, v_this_since, v_this_rows, v_this_few, v_this_most, v_this_parts, v_this_fewParts, v_this_mostParts, v_this_far, v_this_queue, v_this_gone, v_this_stood, v_this_trips, .long sum_])), (q_this_all, .inl (kI, 1080, .inl all_))] [(q_this, .inr (10, [.ref q_this_all, v_this_isKept, v_this_refused, .int above_, .int below_, .int at_, .int start_, .int sort_, .int value_, .int fault_, .int men_, .int gos_, v_this_ways, v_this_starts, v_this_homes, v_this_hours, v_this_froms, v_this_tos, v_this_whos, v_this_place, v_this_since, v_this_rows, v_this_few, v_this_most, v_this_parts, v_this_fewParts, v_this_mostParts, v_this_far, v_this_queue, v_this_gone, v_this_stood, v_this_trips, .long sum_])), (q_this_all, .inl (kI, 1080, .inl r.2))] r.1 := by
  refine q_enterI cX10_disperse 2 RX10 (by decide) rfl (Nat.le_of_ble_eq_true rfl) rfl ?_
  intro p e s m args below meth c Q A ls H hx hb hml hown hts hK hN hE hA hP hS hD hl hret
  have hl : lv_has ls 2 [(0, .ref q_this)] := hl
  have h := hf
  rw [g_X10_disperse] at h
  refine lv_aload_n hx hb dX10_disperse_0 rfl (lv_at hl 0 rfl) ?_
  refine va_get (D := D) (ci := 10) (C := RX10) (T := TX10) (N := 33) hx hb hts iw_X10_disperse_X10 hown hK hP 0 rfl rfl 0 (by decide) (hts _ lk_X10_disperse_0) (fun _ h9 => h9) rfl dX10_disperse_1 ?_
  refine lv_bipush (v := 6) hx hb dX10_disperse_4 (by decide) ?_
  obtain ⟨hg1, h⟩ := q_g h
  refine va_iald hx hb hK hP 1 0 rfl rfl (inb_vp hg1) dX10_disperse_6 ?_
  refine lv_istore_n (lv' := [(1, .int (all_ (6 : Int32).toNatClampNeg)), (0, .ref q_this)]) hx hb dX10_disperse_7 rfl hl (by decide) rfl (fun ls hl => ?_)
  refine lv_aload_n hx hb dX10_disperse_8 rfl (lv_at hl 1 rfl) ?_
  refine va_get (D := D) (ci := 10) (C := RX10) (T := TX10) (N := 33) hx hb hts iw_X10_disperse_X10 hown hK hP 0 rfl rfl 0 (by decide) (hts _ lk_X10_disperse_0) (fun _ h9 => h9) rfl dX10_disperse_9 ?_
  refine lv_bipush (v := 6) hx hb dX10_disperse_12 (by decide) ?_
  refine lv_iconst (v := 0) hx hb dX10_disperse_14 (by decide) ?_
  refine va_iast hx hb hK hP hD hS 1 0 rfl rfl (inb_vp hg1) dX10_disperse_15 (fun H locs hP hD hS => ?_)
  have hP : va_P D vwCl [(q_this, .inr (10, [.ref q_this_all, v_this_isKept, v_this_refused, .int above_, .int below_, .int at_, .int start_, .int sort_, .int value_, .int fault_, .int men_, .int gos_, v_this_ways, v_this_starts, v_this_homes, v_this_hours, v_this_froms, v_this_tos, v_this_whos, v_this_place, v_this_since, v_this_rows, v_this_few, v_this_most, v_this_parts, v_this_fewParts, v_this_mostParts, v_this_far, v_this_queue, v_this_gone, v_this_stood, v_this_trips, .long sum_])), (q_this_all, .inl (kI, 1080, .inl (upd all_ (6 : Int32).toNatClampNeg 0)))] H := hP
  have hD : va_D A [(q_this, .inr (10, [.ref q_this_all, v_this_isKept, v_this_refused, .int above_, .int below_, .int at_, .int start_, .int sort_, .int value_, .int fault_, .int men_, .int gos_, v_this_ways, v_this_starts, v_this_homes, v_this_hours, v_this_froms, v_this_tos, v_this_whos, v_this_place, v_this_since, v_this_rows, v_this_few, v_this_most, v_this_parts, v_this_fewParts, v_this_mostParts, v_this_far, v_this_queue, v_this_gone, v_this_stood, v_this_trips, .long sum_])), (q_this_all, .inl (kI, 1080, .inl (upd all_ (6 : Int32).toNatClampNeg 0)))] := hD
  refine lv_iload_n hx hb dX10_disperse_16 rfl (lv_at hl 0 rfl) ?_
  have er := q_inj h
  subst er
  exact hret _ _ _ _ (hP.sub [0, 1] rfl) (hD.sub [0, 1] rfl rfl) hS dX10_disperse_17
abbrev rm_X10_put : Room := { frames := 1, cells := 0, slots := 0, locals := 22 }
theorem lk_X10_put_0 : Cond.fieldLink RX10 7 "OnlyPrimesModel" "all" "[I" ∈ wsX10_put := List.mem_of_getElem? (i := 1) (by decide +kernel)
theorem iw_X10_put_X10 : ∀ w ∈ wsX100, w ∈ wsX10_put := by decide +kernel
theorem nd_X10_put : yX10_put.cls ≠ "java/lang/invoke/MethodHandle" ∧ yX10_put.cls ≠ "java/lang/invoke/VarHandle" ∧ (parseMethodDescriptor yX10_put.desc).map (fun d => d.parameters.length) = some 2 := by decide +kernel
theorem vd_X10_put : yX10_put.cls = RX10 ∧ yX10_put.cls ≠ "java/lang/invoke/MethodHandle" ∧ yX10_put.cls ≠ "java/lang/invoke/VarHandle" ∧ (parseMethodDescriptor yX10_put.desc).map (fun d => d.parameters.length) = some 2 := by decide +kernel
set_option maxHeartbeats 4000000 in
set_option maxRecDepth 100000 in
theorem c_X10_put (l : Launch) (D : va_G) (E : q_En) (kI kB kQ : ClassId) (q_this : Nat) (q_this_all : Nat) (q_this_refused : Nat) (v_this_isKept : Value) (v_this_ways : Value) (v_this_starts : Value) (v_this_homes : Value) (v_this_hours : Value) (v_this_froms : Value) (v_this_tos : Value) (v_this_whos : Value) (v_this_place : Value) (v_this_since : Value) (v_this_rows : Value) (v_this_few : Value) (v_this_most : Value) (v_this_parts : Value) (v_this_fewParts : Value) (v_this_mostParts : Value) (v_this_far : Value) (v_this_queue : Value) (v_this_gone : Value) (v_this_stood : Value) (v_this_trips : Value) (above_ : Int32) (below_ : Int32) (at_ : Int32) (start_ : Int32) (sort_ : Int32) (value_ : Int32) (fault_ : Int32) (men_ : Int32) (gos_ : Int32) (sum_ : Int64) (all_ : Nat → Int32) (refused_ : Nat → Int32) (x1 : Int32) (x2 : Int32) (N : Nat) (r : Int32 × (Nat → Int32) × (Nat → Int32)) (hf : g_X10_put all_ refused_ x1 x2 = some r) : CtI l D E yX10_put wsX10_put rm_X10_put (q_tys kI kB kQ) [.ref q_this, .int x1, .int x2] [(q_this, .inr (10, [.ref q_this_all, v_this_isKept, .ref q_this_refused, .int above_, .int below_, .int at_, .int start_, .int sort_, .int value_, .int fault_, .int men_, .int gos_, v_this_ways, v_this_starts, v_this_homes, v_this_hours, v_this_froms, v_this_tos, v_this_whos, v_this_place, v_this_since, v_this_rows, v_this_few, v_this_most, v_this_parts, v_this_fewParts, v_this_mostParts, v_this_far, v_this_queue, v_this_gone, v_this_stood, v_this_trips, .long sum_])), (q_this_all, .inl (kI, 1080, .inl all_)), (q_this_refused, .inl (kI, 3, .inl refused_))] [(q_this, .inr (10, [.ref q_this_all, v_this_isKept, .ref q_this_refused, .int above_, .int below_, .int at_, .int start_, .int sort_, .int value_, .int fault_, .int men_, .int gos_, v_this_ways, v_this_starts, v_this_homes, v_this_hours, v_this_froms, v_this_tos, v_this_whos, v_this_place, v_this_since, v_this_rows, v_this_few, v_this_most, v_this_parts, v_this_fewParts, v_this_mostParts, v_this_far, v_this_queue, v_this_gone, v_this_stood, v_this_trips, .long sum_])), (q_this_all, .inl (kI, 1080, .inl r.2.1)), (q_this_refused, .inl (kI, 3, .inl r.2.2))] r.1 := by
  refine q_enterI cX10_put 4 RX10 (by decide) rfl (Nat.le_of_ble_eq_true rfl) rfl ?_
  intro p e s m args below meth c Q A ls H hx hb hml hown hts hK hN hE hA hP hS hD hl hret
  have hl : lv_has ls 4 [(0, .ref q_this), (1, .int x1), (2, .int x2)] := hl
  have h := hf
  rw [g_X10_put] at h
  have J19 : ∀ (t0 : Int32) (t1 : Int32) (all_ : Nat → Int32) (refused_ : Nat → Int32), g_X10_put_19 x1 x2 t0 t1 all_ refused_ = some r → ∀ (H : Heap) (locs : List Loc) (ls : Array Slot), va_P D vwCl [(q_this, .inr (10, [.ref q_this_all, v_this_isKept, .ref q_this_refused, .int above_, .int below_, .int at_, .int start_, .int sort_, .int value_, .int fault_, .int men_, .int gos_, v_this_ways, v_this_starts, v_this_homes, v_this_hours, v_this_froms, v_this_tos, v_this_whos, v_this_place, v_this_since, v_this_rows, v_this_few, v_this_most, v_this_parts, v_this_fewParts, v_this_mostParts, v_this_far, v_this_queue, v_this_gone, v_this_stood, v_this_trips, .long sum_])), (q_this_all, .inl (kI, 1080, .inl all_)), (q_this_refused, .inl (kI, 3, .inl refused_))] H → va_D A [(q_this, .inr (10, [.ref q_this_all, v_this_isKept, .ref q_this_refused, .int above_, .int below_, .int at_, .int start_, .int sort_, .int value_, .int fault_, .int men_, .int gos_, v_this_ways, v_this_starts, v_this_homes, v_this_hours, v_this_froms, v_this_tos, v_this_whos, v_this_place, v_this_since, v_this_rows, v_this_few, v_this_most, v_this_parts, v_this_fewParts, v_this_mostParts, v_this_far, v_this_queue, v_this_gone, v_this_stood, v_this_trips, .long sum_])), (q_this_all, .inl (kI, 1080, .inl all_)), (q_this_refused, .inl (kI, 3, .inl refused_))] → va_S A s.heap H locs → lv_has ls 4 [(0, .ref q_this), (1, .int x1), (2, .int x2)] → W p l e rm_X10_put s m args below meth c H locs 0 0 Q (F0 m 19 ls [.int t1, .int t0]) := by
    intro t0 t1 all_ refused_ h H locs ls hP hD hS hl
    rw [g_X10_put_19] at h
    have J29 : ∀ (t0 : Int32) (t1 : Int32) (t2 : Int32) (all_ : Nat → Int32) (refused_ : Nat → Int32), g_X10_put_29 x1 x2 t0 t1 t2 all_ refused_ = some r → ∀ (H : Heap) (locs : List Loc) (ls : Array Slot), va_P D vwCl [(q_this, .inr (10, [.ref q_this_all, v_this_isKept, .ref q_this_refused, .int above_, .int below_, .int at_, .int start_, .int sort_, .int value_, .int fault_, .int men_, .int gos_, v_this_ways, v_this_starts, v_this_homes, v_this_hours, v_this_froms, v_this_tos, v_this_whos, v_this_place, v_this_since, v_this_rows, v_this_few, v_this_most, v_this_parts, v_this_fewParts, v_this_mostParts, v_this_far, v_this_queue, v_this_gone, v_this_stood, v_this_trips, .long sum_])), (q_this_all, .inl (kI, 1080, .inl all_)), (q_this_refused, .inl (kI, 3, .inl refused_))] H → va_D A [(q_this, .inr (10, [.ref q_this_all, v_this_isKept, .ref q_this_refused, .int above_, .int below_, .int at_, .int start_, .int sort_, .int value_, .int fault_, .int men_, .int gos_, v_this_ways, v_this_starts, v_this_homes, v_this_hours, v_this_froms, v_this_tos, v_this_whos, v_this_place, v_this_since, v_this_rows, v_this_few, v_this_most, v_this_parts, v_this_fewParts, v_this_mostParts, v_this_far, v_this_queue, v_this_gone, v_this_stood, v_this_trips, .long sum_])), (q_this_all, .inl (kI, 1080, .inl all_)), (q_this_refused, .inl (kI, 3, .inl refused_))] → va_S A s.heap H locs → lv_has ls 4 [(0, .ref q_this), (1, .int x1), (2, .int x2)] → W p l e rm_X10_put s m args below meth c H locs 0 0 Q (F0 m 29 ls [.int t2, .int t1, .int t0]) := by
      intro t0 t1 t2 all_ refused_ h H locs ls hP hD hS hl
      rw [g_X10_put_29] at h
      obtain ⟨u29, hu29, h⟩ := q_b h
      refine q_aI (va_runS (As := [.int t0, .int t1, .int t2]) (rest := []) ⟨hx, hb, hml, hown, hts⟩ (c_X10_in l D E kI kB kQ t0 t1 t2 N u29 hu29 H.size) (va_cwS 3 hts gX10_put_X10_in rfl rfl rfl nd_X10_in ⟨Nat.le_of_ble_eq_true rfl, Nat.le_of_ble_eq_true rfl⟩) (q_ps hK hN hE hS hA hP hD [] rfl rfl rfl) rfl rfl hl.1 rfl (lv_room (Nat.le_of_ble_eq_true rfl)) dX10_put_29 ⟨Nat.zero_le _, Nat.zero_le _⟩) hP hD hS hA [] [0, 1, 2] (Wr := [(q_this, .inr (10, [.ref q_this_all, v_this_isKept, .ref q_this_refused, .int above_, .int below_, .int at_, .int start_, .int sort_, .int value_, .int fault_, .int men_, .int gos_, v_this_ways, v_this_starts, v_this_homes, v_this_hours, v_this_froms, v_this_tos, v_this_whos, v_this_place, v_this_since, v_this_rows, v_this_few, v_this_most, v_this_parts, v_this_fewParts, v_this_mostParts, v_this_far, v_this_queue, v_this_gone, v_this_stood, v_this_trips, .long sum_])), (q_this_all, .inl (kI, 1080, .inl all_)), (q_this_refused, .inl (kI, 3, .inl refused_))]) rfl rfl rfl (by decide) (fun H locs hP hD hS => ?_)
      have hP : va_P D vwCl [(q_this, .inr (10, [.ref q_this_all, v_this_isKept, .ref q_this_refused, .int above_, .int below_, .int at_, .int start_, .int sort_, .int value_, .int fault_, .int men_, .int gos_, v_this_ways, v_this_starts, v_this_homes, v_this_hours, v_this_froms, v_this_tos, v_this_whos, v_this_place, v_this_since, v_this_rows, v_this_few, v_this_most, v_this_parts, v_this_fewParts, v_this_mostParts, v_this_far, v_this_queue, v_this_gone, v_this_stood, v_this_trips, .long sum_])), (q_this_all, .inl (kI, 1080, .inl all_)), (q_this_refused, .inl (kI, 3, .inl refused_))] H := hP
      have hD : va_D A [(q_this, .inr (10, [.ref q_this_all, v_this_isKept, .ref q_this_refused, .int above_, .int below_, .int at_, .int start_, .int sort_, .int value_, .int fault_, .int men_, .int gos_, v_this_ways, v_this_starts, v_this_homes, v_this_hours, v_this_froms, v_this_tos, v_this_whos, v_this_place, v_this_since, v_this_rows, v_this_few, v_this_most, v_this_parts, v_this_fewParts, v_this_mostParts, v_this_far, v_this_queue, v_this_gone, v_this_stood, v_this_trips, .long sum_])), (q_this_all, .inl (kI, 1080, .inl all_)), (q_this_refused, .inl (kI, 3, .inl refused_))] := hD
      refine lv_if_ne (tgt := 42) hx hb dX10_put_32 (by decide) (fun c1 => ?_) (fun c1 => ?_)
      · replace h := q_f c1 h
        refine lv_aload_n hx hb dX10_put_42 rfl (lv_at hl 0 rfl) ?_
        refine va_get (D := D) (ci := 10) (C := RX10) (T := TX10) (N := 33) hx hb hts iw_X10_put_X10 hown hK hP 0 rfl rfl 0 (by decide) (hts _ lk_X10_put_0) (fun _ h9 => h9) rfl dX10_put_43 ?_
        refine lv_sipush (v := 357) hx hb dX10_put_46 (by decide) ?_
        refine lv_iload_n hx hb dX10_put_49 rfl (lv_at hl 1 rfl) ?_
        refine lv_iadd hx hb dX10_put_50 ?_
        obtain ⟨hg2, h⟩ := q_g h
        refine va_iald hx hb hK hP 1 0 rfl rfl (inb_vp hg2) dX10_put_51 ?_
        refine lv_istore_n (lv' := [(3, .int (all_ (357 + x1).toNatClampNeg)), (0, .ref q_this), (1, .int x1), (2, .int x2)]) hx hb dX10_put_52 rfl hl (by decide) rfl (fun ls hl => ?_)
        refine lv_aload_n hx hb dX10_put_53 rfl (lv_at hl 1 rfl) ?_
        refine va_get (D := D) (ci := 10) (C := RX10) (T := TX10) (N := 33) hx hb hts iw_X10_put_X10 hown hK hP 0 rfl rfl 0 (by decide) (hts _ lk_X10_put_0) (fun _ h9 => h9) rfl dX10_put_54 ?_
        refine lv_sipush (v := 357) hx hb dX10_put_57 (by decide) ?_
        refine lv_iload_n hx hb dX10_put_60 rfl (lv_at hl 2 rfl) ?_
        refine lv_iadd hx hb dX10_put_61 ?_
        refine lv_iload_n hx hb dX10_put_62 rfl (lv_at hl 3 rfl) ?_
        refine va_iast hx hb hK hP hD hS 1 0 rfl rfl (inb_vp hg2) dX10_put_63 (fun H locs hP hD hS => ?_)
        have hP : va_P D vwCl [(q_this, .inr (10, [.ref q_this_all, v_this_isKept, .ref q_this_refused, .int above_, .int below_, .int at_, .int start_, .int sort_, .int value_, .int fault_, .int men_, .int gos_, v_this_ways, v_this_starts, v_this_homes, v_this_hours, v_this_froms, v_this_tos, v_this_whos, v_this_place, v_this_since, v_this_rows, v_this_few, v_this_most, v_this_parts, v_this_fewParts, v_this_mostParts, v_this_far, v_this_queue, v_this_gone, v_this_stood, v_this_trips, .long sum_])), (q_this_all, .inl (kI, 1080, .inl (upd all_ (357 + x1).toNatClampNeg x2))), (q_this_refused, .inl (kI, 3, .inl refused_))] H := hP
        have hD : va_D A [(q_this, .inr (10, [.ref q_this_all, v_this_isKept, .ref q_this_refused, .int above_, .int below_, .int at_, .int start_, .int sort_, .int value_, .int fault_, .int men_, .int gos_, v_this_ways, v_this_starts, v_this_homes, v_this_hours, v_this_froms, v_this_tos, v_this_whos, v_this_place, v_this_since, v_this_rows, v_this_few, v_this_most, v_this_parts, v_this_fewParts, v_this_mostParts, v_this_far, v_this_queue, v_this_gone, v_this_stood, v_this_trips, .long sum_])), (q_this_all, .inl (kI, 1080, .inl (upd all_ (357 + x1).toNatClampNeg x2))), (q_this_refused, .inl (kI, 3, .inl refused_))] := hD
        refine lv_iload_n hx hb dX10_put_64 rfl (lv_at hl 0 rfl) ?_
        have er := q_inj h
        subst er
        exact hret _ _ _ _ (hP.sub [0, 1, 2] rfl) (hD.sub [0, 1, 2] rfl rfl) hS dX10_put_65
      · replace h := q_t c1 h
        refine lv_aload_n hx hb dX10_put_35 rfl (lv_at hl 0 rfl) ?_
        refine lv_bipush (v := (-2)) hx hb dX10_put_36 (by decide) ?_
        obtain ⟨u38, hu38, h⟩ := q_b h
        refine q_aI (va_runV (As := [.int (-2)]) (rest := []) ⟨hx, hb, hml, hown, hts⟩ (c_X10_refuse l D E kI kB kQ q_this q_this_refused (.ref q_this_all) v_this_isKept v_this_ways v_this_starts v_this_homes v_this_hours v_this_froms v_this_tos v_this_whos v_this_place v_this_since v_this_rows v_this_few v_this_most v_this_parts v_this_fewParts v_this_mostParts v_this_far v_this_queue v_this_gone v_this_stood v_this_trips above_ below_ at_ start_ sort_ value_ fault_ men_ gos_ sum_ refused_ (-2) N u38 hu38 H.size) (cwV 1 hts gX10_put_X10_refuse rfl rfl rfl vd_X10_refuse ⟨Nat.le_of_ble_eq_true rfl, Nat.le_of_ble_eq_true rfl⟩) (q_pv hK hN hE hS hA hP hD [0, 2] rfl rfl rfl 0 rfl (ci := 10) rfl) rfl rfl hl.1 rfl (lv_room (Nat.le_of_ble_eq_true rfl)) dX10_put_38 ⟨Nat.zero_le _, Nat.zero_le _⟩) hP hD hS hA [0, 2] [1] (Wr := [(q_this_all, .inl (kI, 1080, .inl all_))]) rfl rfl rfl (by decide) (fun H locs hP hD hS => ?_)
        have hP : va_P D vwCl [(q_this_all, .inl (kI, 1080, .inl all_)), (q_this, .inr (10, [.ref q_this_all, v_this_isKept, .ref q_this_refused, .int above_, .int below_, .int at_, .int start_, .int sort_, .int value_, .int fault_, .int men_, .int gos_, v_this_ways, v_this_starts, v_this_homes, v_this_hours, v_this_froms, v_this_tos, v_this_whos, v_this_place, v_this_since, v_this_rows, v_this_few, v_this_most, v_this_parts, v_this_fewParts, v_this_mostParts, v_this_far, v_this_queue, v_this_gone, v_this_stood, v_this_trips, .long sum_])), (q_this_refused, .inl (kI, 3, .inl u38.2))] H := hP
        have hD : va_D A [(q_this_all, .inl (kI, 1080, .inl all_)), (q_this, .inr (10, [.ref q_this_all, v_this_isKept, .ref q_this_refused, .int above_, .int below_, .int at_, .int start_, .int sort_, .int value_, .int fault_, .int men_, .int gos_, v_this_ways, v_this_starts, v_this_homes, v_this_hours, v_this_froms, v_this_tos, v_this_whos, v_this_place, v_this_since, v_this_rows, v_this_few, v_this_most, v_this_parts, v_this_fewParts, v_this_mostParts, v_this_far, v_this_queue, v_this_gone, v_this_stood, v_this_trips, .long sum_])), (q_this_refused, .inl (kI, 3, .inl u38.2))] := hD
        have er := q_inj h
        subst er
        exact hret _ _ _ _ (hP.sub [1, 0, 2] rfl) (hD.sub [1, 0, 2] rfl rfl) hS dX10_put_41
    refine lv_iload_n hx hb dX10_put_19 rfl (lv_at hl 1 rfl) ?_
    refine lv_if_ne (tgt := 28) hx hb dX10_put_20 (by decide) (fun c3 => ?_) (fun c3 => ?_)
    · replace h := q_f c3 h
      refine lv_iconst (v := 3) hx hb dX10_put_28 (by decide) ?_
      exact J29 t0 t1 3 all_ refused_ h _ _ _ (hP.sub [0, 1, 2] rfl) (hD.sub [0, 1, 2] rfl rfl) hS (lv_sub hl [0, 1, 2] rfl)
    · replace h := q_t c3 h
      refine lv_bipush (v := 60) hx hb dX10_put_23 (by decide) ?_
      refine lv_goto (tgt := 29) hx hb dX10_put_25 (by decide) ?_
      exact J29 t0 t1 60 all_ refused_ h _ _ _ (hP.sub [0, 1, 2] rfl) (hD.sub [0, 1, 2] rfl rfl) hS (lv_sub hl [0, 1, 2] rfl)
  refine lv_iload_n hx hb dX10_put_0 rfl (lv_at hl 1 rfl) ?_
  refine lv_iconst (v := 0) hx hb dX10_put_1 (by decide) ?_
  refine lv_iconst (v := 1) hx hb dX10_put_2 (by decide) ?_
  obtain ⟨u3, hu3, h⟩ := q_b h
  refine q_aI (va_runS (As := [.int x1, .int 0, .int 1]) (rest := []) ⟨hx, hb, hml, hown, hts⟩ (c_X10_in l D E kI kB kQ x1 0 1 N u3 hu3 H.size) (va_cwS 3 hts gX10_put_X10_in rfl rfl rfl nd_X10_in ⟨Nat.le_of_ble_eq_true rfl, Nat.le_of_ble_eq_true rfl⟩) (q_ps hK hN hE hS hA hP hD [] rfl rfl rfl) rfl rfl hl.1 rfl (lv_room (Nat.le_of_ble_eq_true rfl)) dX10_put_3 ⟨Nat.zero_le _, Nat.zero_le _⟩) hP hD hS hA [] [0, 1, 2] (Wr := [(q_this, .inr (10, [.ref q_this_all, v_this_isKept, .ref q_this_refused, .int above_, .int below_, .int at_, .int start_, .int sort_, .int value_, .int fault_, .int men_, .int gos_, v_this_ways, v_this_starts, v_this_homes, v_this_hours, v_this_froms, v_this_tos, v_this_whos, v_this_place, v_this_since, v_this_rows, v_this_few, v_this_most, v_this_parts, v_this_fewParts, v_this_mostParts, v_this_far, v_this_queue, v_this_gone, v_this_stood, v_this_trips, .long sum_])), (q_this_all, .inl (kI, 1080, .inl all_)), (q_this_refused, .inl (kI, 3, .inl refused_))]) rfl rfl rfl (by decide) (fun H locs hP hD hS => ?_)
  have hP : va_P D vwCl [(q_this, .inr (10, [.ref q_this_all, v_this_isKept, .ref q_this_refused, .int above_, .int below_, .int at_, .int start_, .int sort_, .int value_, .int fault_, .int men_, .int gos_, v_this_ways, v_this_starts, v_this_homes, v_this_hours, v_this_froms, v_this_tos, v_this_whos, v_this_place, v_this_since, v_this_rows, v_this_few, v_this_most, v_this_parts, v_this_fewParts, v_this_mostParts, v_this_far, v_this_queue, v_this_gone, v_this_stood, v_this_trips, .long sum_])), (q_this_all, .inl (kI, 1080, .inl all_)), (q_this_refused, .inl (kI, 3, .inl refused_))] H := hP
  have hD : va_D A [(q_this, .inr (10, [.ref q_this_all, v_this_isKept, .ref q_this_refused, .int above_, .int below_, .int at_, .int start_, .int sort_, .int value_, .int fault_, .int men_, .int gos_, v_this_ways, v_this_starts, v_this_homes, v_this_hours, v_this_froms, v_this_tos, v_this_whos, v_this_place, v_this_since, v_this_rows, v_this_few, v_this_most, v_this_parts, v_this_fewParts, v_this_mostParts, v_this_far, v_this_queue, v_this_gone, v_this_stood, v_this_trips, .long sum_])), (q_this_all, .inl (kI, 1080, .inl all_)), (q_this_refused, .inl (kI, 3, .inl refused_))] := hD
  refine lv_if_eq (tgt := 35) hx hb dX10_put_6 (by decide) (fun c4 => ?_) (fun c4 => ?_)
  · replace h := q_t c4 h
    refine lv_aload_n hx hb dX10_put_35 rfl (lv_at hl 0 rfl) ?_
    refine lv_bipush (v := (-2)) hx hb dX10_put_36 (by decide) ?_
    obtain ⟨u38, hu38, h⟩ := q_b h
    refine q_aI (va_runV (As := [.int (-2)]) (rest := []) ⟨hx, hb, hml, hown, hts⟩ (c_X10_refuse l D E kI kB kQ q_this q_this_refused (.ref q_this_all) v_this_isKept v_this_ways v_this_starts v_this_homes v_this_hours v_this_froms v_this_tos v_this_whos v_this_place v_this_since v_this_rows v_this_few v_this_most v_this_parts v_this_fewParts v_this_mostParts v_this_far v_this_queue v_this_gone v_this_stood v_this_trips above_ below_ at_ start_ sort_ value_ fault_ men_ gos_ sum_ refused_ (-2) N u38 hu38 H.size) (cwV 1 hts gX10_put_X10_refuse rfl rfl rfl vd_X10_refuse ⟨Nat.le_of_ble_eq_true rfl, Nat.le_of_ble_eq_true rfl⟩) (q_pv hK hN hE hS hA hP hD [0, 2] rfl rfl rfl 0 rfl (ci := 10) rfl) rfl rfl hl.1 rfl (lv_room (Nat.le_of_ble_eq_true rfl)) dX10_put_38 ⟨Nat.zero_le _, Nat.zero_le _⟩) hP hD hS hA [0, 2] [1] (Wr := [(q_this_all, .inl (kI, 1080, .inl all_))]) rfl rfl rfl (by decide) (fun H locs hP hD hS => ?_)
    have hP : va_P D vwCl [(q_this_all, .inl (kI, 1080, .inl all_)), (q_this, .inr (10, [.ref q_this_all, v_this_isKept, .ref q_this_refused, .int above_, .int below_, .int at_, .int start_, .int sort_, .int value_, .int fault_, .int men_, .int gos_, v_this_ways, v_this_starts, v_this_homes, v_this_hours, v_this_froms, v_this_tos, v_this_whos, v_this_place, v_this_since, v_this_rows, v_this_few, v_this_most, v_this_parts, v_this_fewParts, v_this_mostParts, v_this_far, v_this_queue, v_this_gone, v_this_stood, v_this_trips, .long sum_])), (q_this_refused, .inl (kI, 3, .inl u38.2))] H := hP
    have hD : va_D A [(q_this_all, .inl (kI, 1080, .inl all_)), (q_this, .inr (10, [.ref q_this_all, v_this_isKept, .ref q_this_refused, .int above_, .int below_, .int at_, .int start_, .int sort_, .int value_, .int fault_, .int men_, .int gos_, v_this_ways, v_this_starts, v_this_homes, v_this_hours, v_this_froms, v_this_tos, v_this_whos, v_this_place, v_this_since, v_this_rows, v_this_few, v_this_most, v_this_parts, v_this_fewParts, v_this_mostParts, v_this_far, v_this_queue, v_this_gone, v_this_stood, v_this_trips, .long sum_])), (q_this_refused, .inl (kI, 3, .inl u38.2))] := hD
    have er := q_inj h
    subst er
    exact hret _ _ _ _ (hP.sub [1, 0, 2] rfl) (hD.sub [1, 0, 2] rfl rfl) hS dX10_put_41
  · replace h := q_f c4 h
    refine lv_iload_n hx hb dX10_put_9 rfl (lv_at hl 2 rfl) ?_
    refine lv_iload_n hx hb dX10_put_10 rfl (lv_at hl 1 rfl) ?_
    refine lv_if_ne (tgt := 18) hx hb dX10_put_11 (by decide) (fun c5 => ?_) (fun c5 => ?_)
    · replace h := q_f c5 h
      refine lv_iconst (v := 0) hx hb dX10_put_18 (by decide) ?_
      exact J19 x2 0 all_ refused_ h _ _ _ (hP.sub [0, 1, 2] rfl) (hD.sub [0, 1, 2] rfl rfl) hS (lv_sub hl [0, 1, 2] rfl)
    · replace h := q_t c5 h
      refine lv_iconst (v := 1) hx hb dX10_put_14 (by decide) ?_
      refine lv_goto (tgt := 19) hx hb dX10_put_15 (by decide) ?_
      exact J19 x2 1 all_ refused_ h _ _ _ (hP.sub [0, 1, 2] rfl) (hD.sub [0, 1, 2] rfl rfl) hS (lv_sub hl [0, 1, 2] rfl)
abbrev rm_X10_isTrip : Room := { frames := 2, cells := 0, slots := 0, locals := 44 }
theorem lk_X10_isTrip_0 : Cond.fieldLink RX10 7 "OnlyPrimesModel" "all" "[I" ∈ wsX10_isTrip := List.mem_of_getElem? (i := 1) (by decide +kernel)
theorem iw_X10_isTrip_X10 : ∀ w ∈ wsX100, w ∈ wsX10_isTrip := by decide +kernel
theorem nd_X10_isTrip : yX10_isTrip.cls ≠ "java/lang/invoke/MethodHandle" ∧ yX10_isTrip.cls ≠ "java/lang/invoke/VarHandle" ∧ (parseMethodDescriptor yX10_isTrip.desc).map (fun d => d.parameters.length) = some 2 := by decide +kernel
theorem vd_X10_isTrip : yX10_isTrip.cls = RX10 ∧ yX10_isTrip.cls ≠ "java/lang/invoke/MethodHandle" ∧ yX10_isTrip.cls ≠ "java/lang/invoke/VarHandle" ∧ (parseMethodDescriptor yX10_isTrip.desc).map (fun d => d.parameters.length) = some 2 := by decide +kernel
set_option maxHeartbeats 4000000 in
set_option maxRecDepth 100000 in
theorem c_X10_isTrip (l : Launch) (D : va_G) (E : q_En) (kI kB kQ : ClassId) (q_this : Nat) (q_this_all : Nat) (v_this_isKept : Value) (v_this_refused : Value) (v_this_ways : Value) (v_this_starts : Value) (v_this_homes : Value) (v_this_hours : Value) (v_this_froms : Value) (v_this_tos : Value) (v_this_whos : Value) (v_this_place : Value) (v_this_since : Value) (v_this_rows : Value) (v_this_few : Value) (v_this_most : Value) (v_this_parts : Value) (v_this_fewParts : Value) (v_this_mostParts : Value) (v_this_far : Value) (v_this_queue : Value) (v_this_gone : Value) (v_this_stood : Value) (v_this_trips : Value) (above_ : Int32) (below_ : Int32) (at_ : Int32) (start_ : Int32) (sort_ : Int32) (value_ : Int32) (fault_ : Int32) (men_ : Int32) (gos_ : Int32) (sum_ : Int64) (all_ : Nat → Int32) (x1 : Int32) (x2 : Int32) (N : Nat) (r : Int32) (hf : g_X10_isTrip N all_ x1 x2 = some r) : CtI l D E yX10_isTrip wsX10_isTrip rm_X10_isTrip (q_tys kI kB kQ) [.ref q_this, .int x1, .int x2] [(q_this, .inr (10, [.ref q_this_all, v_this_isKept, v_this_refused, .int above_, .int below_, .int at_, .int start_, .int sort_, .int value_, .int fault_, .int men_, .int gos_, v_this_ways, v_this_starts, v_this_homes, v_this_hours, v_this_froms, v_this_tos, v_this_whos, v_this_place, v_this_since, v_this_rows, v_this_few, v_this_most, v_this_parts, v_this_fewParts, v_this_mostParts, v_this_far, v_this_queue, v_this_gone, v_this_stood, v_this_trips, .long sum_])), (q_this_all, .inl (kI, 1080, .inl all_))] [(q_this, .inr (10, [.ref q_this_all, v_this_isKept, v_this_refused, .int above_, .int below_, .int at_, .int start_, .int sort_, .int value_, .int fault_, .int men_, .int gos_, v_this_ways, v_this_starts, v_this_homes, v_this_hours, v_this_froms, v_this_tos, v_this_whos, v_this_place, v_this_since, v_this_rows, v_this_few, v_this_most, v_this_parts, v_this_fewParts, v_this_mostParts, v_this_far, v_this_queue, v_this_gone, v_this_stood, v_this_trips, .long sum_])), (q_this_all, .inl (kI, 1080, .inl all_))] r := by
  refine q_enterZ cX10_isTrip 5 RX10 (by decide) rfl (Nat.le_of_ble_eq_true rfl) rfl ?_
  intro p e s m args below meth c Q A ls H hx hb hml hown hts hK hN hE hA hP hS hD hl hret
  have hl : lv_has ls 5 [(0, .ref q_this), (1, .int x1), (2, .int x2)] := hl
  have h := hf
  rw [g_X10_isTrip] at h
  have J12 : ∀ (n12 : Nat) (x3 : Int32) (x4 : Int32), g_X10_isTrip_12 N all_ x1 x2 n12 x3 x4 = some r → ∀ (H : Heap) (locs : List Loc) (ls : Array Slot), va_P D vwCl [(q_this, .inr (10, [.ref q_this_all, v_this_isKept, v_this_refused, .int above_, .int below_, .int at_, .int start_, .int sort_, .int value_, .int fault_, .int men_, .int gos_, v_this_ways, v_this_starts, v_this_homes, v_this_hours, v_this_froms, v_this_tos, v_this_whos, v_this_place, v_this_since, v_this_rows, v_this_few, v_this_most, v_this_parts, v_this_fewParts, v_this_mostParts, v_this_far, v_this_queue, v_this_gone, v_this_stood, v_this_trips, .long sum_])), (q_this_all, .inl (kI, 1080, .inl all_))] H → va_D A [(q_this, .inr (10, [.ref q_this_all, v_this_isKept, v_this_refused, .int above_, .int below_, .int at_, .int start_, .int sort_, .int value_, .int fault_, .int men_, .int gos_, v_this_ways, v_this_starts, v_this_homes, v_this_hours, v_this_froms, v_this_tos, v_this_whos, v_this_place, v_this_since, v_this_rows, v_this_few, v_this_most, v_this_parts, v_this_fewParts, v_this_mostParts, v_this_far, v_this_queue, v_this_gone, v_this_stood, v_this_trips, .long sum_])), (q_this_all, .inl (kI, 1080, .inl all_))] → va_S A s.heap H locs → lv_has ls 5 [(0, .ref q_this), (1, .int x1), (2, .int x2), (3, .int x3), (4, .int x4)] → W p l e rm_X10_isTrip s m args below meth c H locs 0 0 Q (F0 m 12 ls []) := by
    intro n12
    induction n12 with
    | zero => intro x3 x4 h; exact absurd h (by rw [g_X10_isTrip_12]; exact fun q => nomatch q)
    | succ n12 ih12 =>
      intro x3 x4 h H locs ls hP hD hS hl
      rw [g_X10_isTrip_12] at h
      refine lv_iload hx hb dX10_isTrip_12 (lv_at hl 4 rfl) ?_
      refine lv_aload_n hx hb dX10_isTrip_14 rfl (lv_at hl 0 rfl) ?_
      refine va_get (D := D) (ci := 10) (C := RX10) (T := TX10) (N := 33) hx hb hts iw_X10_isTrip_X10 hown hK hP 0 rfl rfl 0 (by decide) (hts _ lk_X10_isTrip_0) (fun _ h9 => h9) rfl dX10_isTrip_15 ?_
      refine lv_bipush (v := 6) hx hb dX10_isTrip_18 (by decide) ?_
      obtain ⟨hg1, h⟩ := q_g h
      refine va_iald hx hb hK hP 1 0 rfl rfl (inb_vp hg1) dX10_isTrip_20 ?_
      refine lv_icmp_ge (tgt := 58) hx hb dX10_isTrip_21 (by decide) (fun c2 => ?_) (fun c2 => ?_)
      · replace h := q_t c2 h
        refine lv_iload_n hx hb dX10_isTrip_58 rfl (lv_at hl 3 rfl) ?_
        refine lv_aload_n hx hb dX10_isTrip_59 rfl (lv_at hl 0 rfl) ?_
        refine va_get (D := D) (ci := 10) (C := RX10) (T := TX10) (N := 33) hx hb hts iw_X10_isTrip_X10 hown hK hP 0 rfl rfl 0 (by decide) (hts _ lk_X10_isTrip_0) (fun _ h9 => h9) rfl dX10_isTrip_60 ?_
        refine lv_sipush (v := 357) hx hb dX10_isTrip_63 (by decide) ?_
        obtain ⟨hg3, h⟩ := q_g h
        refine va_iald hx hb hK hP 1 0 rfl rfl (inb_vp hg3) dX10_isTrip_66 ?_
        refine lv_icmp_gt (tgt := 83) hx hb dX10_isTrip_67 (by decide) (fun c4 => ?_) (fun c4 => ?_)
        · replace h := q_t c4 h
          refine lv_iconst (v := 0) hx hb dX10_isTrip_83 (by decide) ?_
          have er := q_inj h
          subst er
          exact hret _ _ _ _ nar0 (hP.sub [0, 1] rfl) (hD.sub [0, 1] rfl rfl) hS dX10_isTrip_84
        · replace h := q_f c4 h
          refine lv_aload_n hx hb dX10_isTrip_70 rfl (lv_at hl 0 rfl) ?_
          refine lv_iload_n hx hb dX10_isTrip_71 rfl (lv_at hl 1 rfl) ?_
          refine lv_iload_n hx hb dX10_isTrip_72 rfl (lv_at hl 3 rfl) ?_
          obtain ⟨u73, hu73, h⟩ := q_b h
          refine q_aI (va_runV (As := [.int x1, .int x3]) (rest := []) ⟨hx, hb, hml, hown, hts⟩ (c_X10_may l D E kI kB kQ q_this q_this_all v_this_isKept v_this_refused v_this_ways v_this_starts v_this_homes v_this_hours v_this_froms v_this_tos v_this_whos v_this_place v_this_since v_this_rows v_this_few v_this_most v_this_parts v_this_fewParts v_this_mostParts v_this_far v_this_queue v_this_gone v_this_stood v_this_trips above_ below_ at_ start_ sort_ value_ fault_ men_ gos_ sum_ all_ x1 x3 N u73 hu73 H.size) (cwV 2 hts gX10_isTrip_X10_may rfl rfl rfl vd_X10_may ⟨Nat.le_of_ble_eq_true rfl, Nat.le_of_ble_eq_true rfl⟩) (q_pv hK hN hE hS hA hP hD [0, 1] rfl rfl rfl 0 rfl (ci := 10) rfl) rfl rfl hl.1 rfl (lv_room (Nat.le_of_ble_eq_true rfl)) dX10_isTrip_73 ⟨Nat.zero_le _, Nat.zero_le _⟩) hP hD hS hA [0, 1] [] (Wr := []) rfl rfl rfl (by decide) (fun H locs hP hD hS => ?_)
          have hP : va_P D vwCl [(q_this, .inr (10, [.ref q_this_all, v_this_isKept, v_this_refused, .int above_, .int below_, .int at_, .int start_, .int sort_, .int value_, .int fault_, .int men_, .int gos_, v_this_ways, v_this_starts, v_this_homes, v_this_hours, v_this_froms, v_this_tos, v_this_whos, v_this_place, v_this_since, v_this_rows, v_this_few, v_this_most, v_this_parts, v_this_fewParts, v_this_mostParts, v_this_far, v_this_queue, v_this_gone, v_this_stood, v_this_trips, .long sum_])), (q_this_all, .inl (kI, 1080, .inl all_))] H := hP
          have hD : va_D A [(q_this, .inr (10, [.ref q_this_all, v_this_isKept, v_this_refused, .int above_, .int below_, .int at_, .int start_, .int sort_, .int value_, .int fault_, .int men_, .int gos_, v_this_ways, v_this_starts, v_this_homes, v_this_hours, v_this_froms, v_this_tos, v_this_whos, v_this_place, v_this_since, v_this_rows, v_this_few, v_this_most, v_this_parts, v_this_fewParts, v_this_mostParts, v_this_far, v_this_queue, v_this_gone, v_this_stood, v_this_trips, .long sum_])), (q_this_all, .inl (kI, 1080, .inl all_))] := hD
          refine lv_if_eq (tgt := 83) hx hb dX10_isTrip_76 (by decide) (fun c5 => ?_) (fun c5 => ?_)
          · replace h := q_t c5 h
            refine lv_iconst (v := 0) hx hb dX10_isTrip_83 (by decide) ?_
            have er := q_inj h
            subst er
            exact hret _ _ _ _ nar0 (hP.sub [0, 1] rfl) (hD.sub [0, 1] rfl rfl) hS dX10_isTrip_84
          · replace h := q_f c5 h
            refine lv_iconst (v := 1) hx hb dX10_isTrip_79 (by decide) ?_
            refine lv_goto (tgt := 84) hx hb dX10_isTrip_80 (by decide) ?_
            have er := q_inj h
            subst er
            exact hret _ _ _ _ nar1 (hP.sub [0, 1] rfl) (hD.sub [0, 1] rfl rfl) hS dX10_isTrip_84
      · replace h := q_f c2 h
        refine lv_iload_n hx hb dX10_isTrip_24 rfl (lv_at hl 3 rfl) ?_
        refine lv_iload_n hx hb dX10_isTrip_25 rfl (lv_at hl 2 rfl) ?_
        refine lv_iload hx hb dX10_isTrip_26 (lv_at hl 4 rfl) ?_
        refine lv_ishr hx hb dX10_isTrip_28 ?_
        refine lv_iconst (v := 1) hx hb dX10_isTrip_29 (by decide) ?_
        refine lv_iand hx hb dX10_isTrip_30 ?_
        refine lv_iconst (v := 1) hx hb dX10_isTrip_31 (by decide) ?_
        refine lv_icmp_ne (tgt := 49) hx hb dX10_isTrip_32 (by decide) (fun c6 => ?_) (fun c6 => ?_)
        · replace h := q_f c6 h
          refine lv_iconst (v := 0) hx hb dX10_isTrip_49 (by decide) ?_
          refine lv_iadd hx hb dX10_isTrip_50 ?_
          refine lv_istore_n (lv' := [(3, .int (x3 + 0)), (0, .ref q_this), (1, .int x1), (2, .int x2), (4, .int x4)]) hx hb dX10_isTrip_51 rfl hl (by decide) rfl (fun ls hl => ?_)
          refine lv_iinc (v := (x4 + 1)) (lv' := [(4, .int (x4 + 1)), (3, .int (x3 + 0)), (0, .ref q_this), (1, .int x1), (2, .int x2)]) hx hb dX10_isTrip_52 hl (k := 4) rfl rfl (by decide) rfl (fun ls hl => ?_)
          refine lv_goto (tgt := 12) hx hb dX10_isTrip_55 (by decide) ?_
          exact ih12 (x3 + 0) (x4 + 1) h _ _ _ (hP.sub [0, 1] rfl) (hD.sub [0, 1] rfl rfl) hS (lv_sub hl [2, 3, 4, 1, 0] rfl)
        · replace h := q_t c6 h
          refine lv_aload_n hx hb dX10_isTrip_35 rfl (lv_at hl 0 rfl) ?_
          refine va_get (D := D) (ci := 10) (C := RX10) (T := TX10) (N := 33) hx hb hts iw_X10_isTrip_X10 hown hK hP 0 rfl rfl 0 (by decide) (hts _ lk_X10_isTrip_0) (fun _ h9 => h9) rfl dX10_isTrip_36 ?_
          refine lv_sipush (v := 349) hx hb dX10_isTrip_39 (by decide) ?_
          refine lv_iload hx hb dX10_isTrip_42 (lv_at hl 4 rfl) ?_
          refine lv_iadd hx hb dX10_isTrip_44 ?_
          obtain ⟨hg7, h⟩ := q_g h
          refine va_iald hx hb hK hP 1 0 rfl rfl (inb_vp hg7) dX10_isTrip_45 ?_
          refine lv_goto (tgt := 50) hx hb dX10_isTrip_46 (by decide) ?_
          refine lv_iadd hx hb dX10_isTrip_50 ?_
          refine lv_istore_n (lv' := [(3, .int (x3 + (all_ (349 + x4).toNatClampNeg))), (0, .ref q_this), (1, .int x1), (2, .int x2), (4, .int x4)]) hx hb dX10_isTrip_51 rfl hl (by decide) rfl (fun ls hl => ?_)
          refine lv_iinc (v := (x4 + 1)) (lv' := [(4, .int (x4 + 1)), (3, .int (x3 + (all_ (349 + x4).toNatClampNeg))), (0, .ref q_this), (1, .int x1), (2, .int x2)]) hx hb dX10_isTrip_52 hl (k := 4) rfl rfl (by decide) rfl (fun ls hl => ?_)
          refine lv_goto (tgt := 12) hx hb dX10_isTrip_55 (by decide) ?_
          exact ih12 (x3 + (all_ (349 + x4).toNatClampNeg)) (x4 + 1) h _ _ _ (hP.sub [0, 1] rfl) (hD.sub [0, 1] rfl rfl) hS (lv_sub hl [2, 3, 4, 1, 0] rfl)
  refine lv_aload_n hx hb dX10_isTrip_0 rfl (lv_at hl 0 rfl) ?_
  refine va_get (D := D) (ci := 10) (C := RX10) (T := TX10) (N := 33) hx hb hts iw_X10_isTrip_X10 hown hK hP 0 rfl rfl 0 (by decide) (hts _ lk_X10_isTrip_0) (fun _ h9 => h9) rfl dX10_isTrip_1 ?_
  refine lv_sipush (v := 358) hx hb dX10_isTrip_4 (by decide) ?_
  obtain ⟨hg8, h⟩ := q_g h
  refine va_iald hx hb hK hP 1 0 rfl rfl (inb_vp hg8) dX10_isTrip_7 ?_
  refine lv_istore_n (lv' := [(3, .int (all_ (358 : Int32).toNatClampNeg)), (0, .ref q_this), (1, .int x1), (2, .int x2)]) hx hb dX10_isTrip_8 rfl hl (by decide) rfl (fun ls hl => ?_)
  refine lv_iconst (v := 0) hx hb dX10_isTrip_9 (by decide) ?_
  refine lv_istore (lv' := [(4, .int 0), (3, .int (all_ (358 : Int32).toNatClampNeg)), (0, .ref q_this), (1, .int x1), (2, .int x2)]) hx hb dX10_isTrip_10 hl (by decide) rfl (fun ls hl => ?_)
  exact J12 N (all_ (358 : Int32).toNatClampNeg) 0 h _ _ _ (hP.sub [0, 1] rfl) (hD.sub [0, 1] rfl rfl) hS (lv_sub hl [2, 3, 4, 1, 0] rfl)
abbrev rm_X10_ferry : Room := { frames := 3, cells := 0, slots := 0, locals := 68 }
theorem lk_X10_ferry_0 : Cond.fieldLink RX10 81 "OnlyPrimesModel" "trips" "[I" ∈ wsX10_ferry := List.mem_of_getElem? (i := 2) (by decide +kernel)
theorem iw_X10_ferry_X10 : ∀ w ∈ wsX100, w ∈ wsX10_ferry := by decide +kernel
theorem lk_X10_ferry_1 : Cond.fieldLink RX10 7 "OnlyPrimesModel" "all" "[I" ∈ wsX10_ferry := List.mem_of_getElem? (i := 1) (by decide +kernel)
theorem nd_X10_ferry : yX10_ferry.cls ≠ "java/lang/invoke/MethodHandle" ∧ yX10_ferry.cls ≠ "java/lang/invoke/VarHandle" ∧ (parseMethodDescriptor yX10_ferry.desc).map (fun d => d.parameters.length) = some 2 := by decide +kernel
theorem vd_X10_ferry : yX10_ferry.cls = RX10 ∧ yX10_ferry.cls ≠ "java/lang/invoke/MethodHandle" ∧ yX10_ferry.cls ≠ "java/lang/invoke/VarHandle" ∧ (parseMethodDescriptor yX10_ferry.desc).map (fun d => d.parameters.length) = some 2 := by decide +kernel
set_option maxHeartbeats 4000000 in
set_option maxRecDepth 100000 in
theorem c_X10_ferry (l : Launch) (D : va_G) (E : q_En) (kI kB kQ : ClassId) (q_this : Nat) (q_this_all : Nat) (q_this_refused : Nat) (q_this_trips : Nat) (v_this_isKept : Value) (v_this_ways : Value) (v_this_starts : Value) (v_this_homes : Value) (v_this_hours : Value) (v_this_froms : Value) (v_this_tos : Value) (v_this_whos : Value) (v_this_place : Value) (v_this_since : Value) (v_this_rows : Value) (v_this_few : Value) (v_this_most : Value) (v_this_parts : Value) (v_this_fewParts : Value) (v_this_mostParts : Value) (v_this_far : Value) (v_this_queue : Value) (v_this_gone : Value) (v_this_stood : Value) (above_ : Int32) (below_ : Int32) (at_ : Int32) (start_ : Int32) (sort_ : Int32) (value_ : Int32) (fault_ : Int32) (men_ : Int32) (gos_ : Int32) (sum_ : Int64) (all_ : Nat → Int32) (refused_ : Nat → Int32) (trips_ : Nat → Int32) (x1 : Int32) (x2 : Int32) (N : Nat) (r : Int32 × (Nat → Int32) × (Nat → Int32)) (hf : g_X10_ferry N all_ refused_ trips_ x1 x2 = some r) : CtI l D E yX10_ferry wsX10_ferry rm_X10_ferry (q_tys kI kB kQ) [.ref q_this, .int x1, .int x2] [(q_this, .inr (10, [.ref q_this_all, v_this_isKept, .ref q_this_refused, .int above_, .int below_, .int at_, .int start_, .int sort_, .int value_, .int fault_, .int men_, .int gos_, v_this_ways, v_this_starts, v_this_homes, v_this_hours, v_this_froms, v_this_tos, v_this_whos, v_this_place, v_this_since, v_this_rows, v_this_few, v_this_most, v_this_parts, v_this_fewParts, v_this_mostParts, v_this_far, v_this_queue, v_this_gone, v_this_stood, .ref q_this_trips, .long sum_])), (q_this_all, .inl (kI, 1080, .inl all_)), (q_this_refused, .inl (kI, 3, .inl refused_)), (q_this_trips, .inl (kI, 256, .inl trips_))] [(q_this, .inr (10, [.ref q_this_all, v_this_isKept, .ref q_this_refused, .int above_, .int below_, .int at_, .int start_, .int sort_, .int value_, .int fault_, .int men_, .int gos_, v_this_ways, v_this_starts, v_this_homes, v_this_hours, v_this_froms, v_this_tos, v_this_whos, v_this_place, v_this_since, v_this_rows, v_this_few, v_this_most, v_this_parts, v_this_fewParts, v_this_mostParts, v_this_far, v_this_queue, v_this_gone, v_this_stood, .ref q_this_trips, .long sum_])), (q_this_all, .inl (kI, 1080, .inl all_)), (q_this_refused, .inl (kI, 3, .inl r.2.1)), (q_this_trips, .inl (kI, 256, .inl r.2.2))] r.1 := by
  refine q_enterI cX10_ferry 7 RX10 (by decide) rfl (Nat.le_of_ble_eq_true rfl) rfl ?_
  intro p e s m args below meth c Q A ls H hx hb hml hown hts hK hN hE hA hP hS hD hl hret
  have hl : lv_has ls 7 [(0, .ref q_this), (1, .int x1), (2, .int x2)] := hl
  have h := hf
  rw [g_X10_ferry] at h
  have J179 : ∀ (n179 : Nat) (x3 : Int32) (x4 : Int32) (refused_ : Nat → Int32) (trips_ : Nat → Int32), g_X10_ferry_179 N all_ x1 n179 x3 x4 refused_ trips_ = some r → ∀ (H : Heap) (locs : List Loc) (ls : Array Slot), va_P D vwCl [(q_this, .inr (10, [.ref q_this_all, v_this_isKept, .ref q_this_refused, .int above_, .int below_, .int at_, .int start_, .int sort_, .int value_, .int fault_, .int men_, .int gos_, v_this_ways, v_this_starts, v_this_homes, v_this_hours, v_this_froms, v_this_tos, v_this_whos, v_this_place, v_this_since, v_this_rows, v_this_few, v_this_most, v_this_parts, v_this_fewParts, v_this_mostParts, v_this_far, v_this_queue, v_this_gone, v_this_stood, .ref q_this_trips, .long sum_])), (q_this_all, .inl (kI, 1080, .inl all_)), (q_this_refused, .inl (kI, 3, .inl refused_)), (q_this_trips, .inl (kI, 256, .inl trips_))] H → va_D A [(q_this, .inr (10, [.ref q_this_all, v_this_isKept, .ref q_this_refused, .int above_, .int below_, .int at_, .int start_, .int sort_, .int value_, .int fault_, .int men_, .int gos_, v_this_ways, v_this_starts, v_this_homes, v_this_hours, v_this_froms, v_this_tos, v_this_whos, v_this_place, v_this_since, v_this_rows, v_this_few, v_this_most, v_this_parts, v_this_fewParts, v_this_mostParts, v_this_far, v_this_queue, v_this_gone, v_this_stood, .ref q_this_trips, .long sum_])), (q_this_all, .inl (kI, 1080, .inl all_)), (q_this_refused, .inl (kI, 3, .inl refused_)), (q_this_trips, .inl (kI, 256, .inl trips_))] → va_S A s.heap H locs → lv_has ls 7 [(0, .ref q_this), (1, .int x1), (3, .int x3), (4, .int x4)] → W p l e rm_X10_ferry s m args below meth c H locs 0 0 Q (F0 m 179 ls []) := by
    intro n179
    induction n179 with
    | zero => intro x3 x4 refused_ trips_ h; exact absurd h (by rw [g_X10_ferry_179]; exact fun q => nomatch q)
    | succ n179 ih179 =>
      intro x3 x4 refused_ trips_ h H locs ls hP hD hS hl
      rw [g_X10_ferry_179] at h
      refine lv_iload hx hb dX10_ferry_179 (lv_at hl 3 rfl) ?_
      refine lv_iconst (v := 1) hx hb dX10_ferry_181 (by decide) ?_
      refine lv_iand hx hb dX10_ferry_182 ?_
      refine lv_if_eq (tgt := 218) hx hb dX10_ferry_183 (by decide) (fun c1 => ?_) (fun c1 => ?_)
      · replace h := q_t c1 h
        refine lv_iinc (v := (x4 + 1)) (lv' := [(4, .int (x4 + 1)), (0, .ref q_this), (1, .int x1), (3, .int x3)]) hx hb dX10_ferry_218 hl (k := 3) rfl rfl (by decide) rfl (fun ls hl => ?_)
        refine lv_goto (tgt := 179) hx hb dX10_ferry_221 (by decide) ?_
        exact ih179 x3 (x4 + 1) refused_ trips_ h _ _ _ (hP.sub [0, 1, 2, 3] rfl) (hD.sub [0, 1, 2, 3] rfl rfl) hS (lv_sub hl [1, 2, 3, 0] rfl)
      · replace h := q_f c1 h
        refine lv_aload_n hx hb dX10_ferry_186 rfl (lv_at hl 0 rfl) ?_
        refine va_get (D := D) (ci := 10) (C := RX10) (T := TX10) (N := 33) hx hb hts iw_X10_ferry_X10 hown hK hP 0 rfl rfl 31 (by decide) (hts _ lk_X10_ferry_0) (fun _ h9 => h9) rfl dX10_ferry_187 ?_
        refine lv_iload_n hx hb dX10_ferry_190 rfl (lv_at hl 2 rfl) ?_
        refine lv_iload hx hb dX10_ferry_191 (lv_at hl 3 rfl) ?_
        refine lv_iconst (v := (-1)) hx hb dX10_ferry_193 (by decide) ?_
        refine lv_ixor hx hb dX10_ferry_194 ?_
        refine lv_iand hx hb dX10_ferry_195 ?_
        obtain ⟨hg2, h⟩ := q_g h
        refine va_iald hx hb hK hP 3 0 rfl rfl (inb_vp hg2) dX10_ferry_196 ?_
        refine lv_iconst (v := 1) hx hb dX10_ferry_197 (by decide) ?_
        refine lv_iadd hx hb dX10_ferry_198 ?_
        refine lv_aload_n hx hb dX10_ferry_199 rfl (lv_at hl 0 rfl) ?_
        refine va_get (D := D) (ci := 10) (C := RX10) (T := TX10) (N := 33) hx hb hts iw_X10_ferry_X10 hown hK hP 0 rfl rfl 31 (by decide) (hts _ lk_X10_ferry_0) (fun _ h9 => h9) rfl dX10_ferry_200 ?_
        refine lv_iload_n hx hb dX10_ferry_203 rfl (lv_at hl 2 rfl) ?_
        obtain ⟨hg3, h⟩ := q_g h
        refine va_iald hx hb hK hP 3 0 rfl rfl (inb_vp hg3) dX10_ferry_204 ?_
        refine lv_icmp_ne (tgt := 218) hx hb dX10_ferry_205 (by decide) (fun c4 => ?_) (fun c4 => ?_)
        · replace h := q_f c4 h
          refine lv_iinc (v := (x4 + 1)) (lv' := [(4, .int (x4 + 1)), (0, .ref q_this), (1, .int x1), (3, .int x3)]) hx hb dX10_ferry_218 hl (k := 3) rfl rfl (by decide) rfl (fun ls hl => ?_)
          refine lv_goto (tgt := 179) hx hb dX10_ferry_221 (by decide) ?_
          exact ih179 x3 (x4 + 1) refused_ trips_ h _ _ _ (hP.sub [0, 1, 2, 3] rfl) (hD.sub [0, 1, 2, 3] rfl rfl) hS (lv_sub hl [1, 2, 3, 0] rfl)
        · replace h := q_t c4 h
          refine lv_aload_n hx hb dX10_ferry_208 rfl (lv_at hl 0 rfl) ?_
          refine lv_iload_n hx hb dX10_ferry_209 rfl (lv_at hl 1 rfl) ?_
          refine lv_iload hx hb dX10_ferry_210 (lv_at hl 3 rfl) ?_
          obtain ⟨u212, hu212, h⟩ := q_b h
          refine q_aI (va_runV (As := [.int x1, .int x4]) (rest := []) ⟨hx, hb, hml, hown, hts⟩ (c_X10_isTrip l D E kI kB kQ q_this q_this_all v_this_isKept (.ref q_this_refused) v_this_ways v_this_starts v_this_homes v_this_hours v_this_froms v_this_tos v_this_whos v_this_place v_this_since v_this_rows v_this_few v_this_most v_this_parts v_this_fewParts v_this_mostParts v_this_far v_this_queue v_this_gone v_this_stood (.ref q_this_trips) above_ below_ at_ start_ sort_ value_ fault_ men_ gos_ sum_ all_ x1 x4 N u212 hu212 H.size) (cwV 2 hts gX10_ferry_X10_isTrip rfl rfl rfl vd_X10_isTrip ⟨Nat.le_of_ble_eq_true rfl, Nat.le_of_ble_eq_true rfl⟩) (q_pv hK hN hE hS hA hP hD [0, 1] rfl rfl rfl 0 rfl (ci := 10) rfl) rfl rfl hl.1 rfl (lv_room (Nat.le_of_ble_eq_true rfl)) dX10_ferry_212 ⟨Nat.zero_le _, Nat.zero_le _⟩) hP hD hS hA [0, 1] [2, 3] (Wr := [(q_this_refused, .inl (kI, 3, .inl refused_)), (q_this_trips, .inl (kI, 256, .inl trips_))]) rfl rfl rfl (by decide) (fun H locs hP hD hS => ?_)
          have hP : va_P D vwCl [(q_this_refused, .inl (kI, 3, .inl refused_)), (q_this_trips, .inl (kI, 256, .inl trips_)), (q_this, .inr (10, [.ref q_this_all, v_this_isKept, .ref q_this_refused, .int above_, .int below_, .int at_, .int start_, .int sort_, .int value_, .int fault_, .int men_, .int gos_, v_this_ways, v_this_starts, v_this_homes, v_this_hours, v_this_froms, v_this_tos, v_this_whos, v_this_place, v_this_since, v_this_rows, v_this_few, v_this_most, v_this_parts, v_this_fewParts, v_this_mostParts, v_this_far, v_this_queue, v_this_gone, v_this_stood, .ref q_this_trips, .long sum_])), (q_this_all, .inl (kI, 1080, .inl all_))] H := hP
          have hD : va_D A [(q_this_refused, .inl (kI, 3, .inl refused_)), (q_this_trips, .inl (kI, 256, .inl trips_)), (q_this, .inr (10, [.ref q_this_all, v_this_isKept, .ref q_this_refused, .int above_, .int below_, .int at_, .int start_, .int sort_, .int value_, .int fault_, .int men_, .int gos_, v_this_ways, v_this_starts, v_this_homes, v_this_hours, v_this_froms, v_this_tos, v_this_whos, v_this_place, v_this_since, v_this_rows, v_this_few, v_this_most, v_this_parts, v_this_fewParts, v_this_mostParts, v_this_far, v_this_queue, v_this_gone, v_this_stood, .ref q_this_trips, .long sum_])), (q_this_all, .inl (kI, 1080, .inl all_))] := hD
          refine lv_if_ne (tgt := 224) hx hb dX10_ferry_215 (by decide) (fun c5 => ?_) (fun c5 => ?_)
          · replace h := q_f c5 h
            refine lv_iload hx hb dX10_ferry_224 (lv_at hl 3 rfl) ?_
            have er := q_inj h
            subst er
            exact hret _ _ _ _ (hP.sub [2, 3, 0, 1] rfl) (hD.sub [2, 3, 0, 1] rfl rfl) hS dX10_ferry_226
          · replace h := q_t c5 h
            refine lv_iinc (v := (x4 + 1)) (lv' := [(4, .int (x4 + 1)), (0, .ref q_this), (1, .int x1), (3, .int x3)]) hx hb dX10_ferry_218 hl (k := 3) rfl rfl (by decide) rfl (fun ls hl => ?_)
            refine lv_goto (tgt := 179) hx hb dX10_ferry_221 (by decide) ?_
            exact ih179 x3 (x4 + 1) refused_ trips_ h _ _ _ (hP.sub [2, 3, 0, 1] rfl) (hD.sub [2, 3, 0, 1] rfl rfl) hS (lv_sub hl [1, 2, 3, 0] rfl)
  have J45 : ∀ (n45 : Nat) (x3 : Int32) (x4 : Int32) (refused_ : Nat → Int32) (trips_ : Nat → Int32), g_X10_ferry_45 N all_ x1 x2 n45 x3 x4 refused_ trips_ = some r → ∀ (H : Heap) (locs : List Loc) (ls : Array Slot), va_P D vwCl [(q_this, .inr (10, [.ref q_this_all, v_this_isKept, .ref q_this_refused, .int above_, .int below_, .int at_, .int start_, .int sort_, .int value_, .int fault_, .int men_, .int gos_, v_this_ways, v_this_starts, v_this_homes, v_this_hours, v_this_froms, v_this_tos, v_this_whos, v_this_place, v_this_since, v_this_rows, v_this_few, v_this_most, v_this_parts, v_this_fewParts, v_this_mostParts, v_this_far, v_this_queue, v_this_gone, v_this_stood, .ref q_this_trips, .long sum_])), (q_this_all, .inl (kI, 1080, .inl all_)), (q_this_refused, .inl (kI, 3, .inl refused_)), (q_this_trips, .inl (kI, 256, .inl trips_))] H → va_D A [(q_this, .inr (10, [.ref q_this_all, v_this_isKept, .ref q_this_refused, .int above_, .int below_, .int at_, .int start_, .int sort_, .int value_, .int fault_, .int men_, .int gos_, v_this_ways, v_this_starts, v_this_homes, v_this_hours, v_this_froms, v_this_tos, v_this_whos, v_this_place, v_this_since, v_this_rows, v_this_few, v_this_most, v_this_parts, v_this_fewParts, v_this_mostParts, v_this_far, v_this_queue, v_this_gone, v_this_stood, .ref q_this_trips, .long sum_])), (q_this_all, .inl (kI, 1080, .inl all_)), (q_this_refused, .inl (kI, 3, .inl refused_)), (q_this_trips, .inl (kI, 256, .inl trips_))] → va_S A s.heap H locs → lv_has ls 7 [(0, .ref q_this), (1, .int x1), (2, .int x2), (3, .int x3), (4, .int x4)] → W p l e rm_X10_ferry s m args below meth c H locs 0 0 Q (F0 m 45 ls []) := by
    intro n45
    induction n45 with
    | zero => intro x3 x4 refused_ trips_ h; exact absurd h (by rw [g_X10_ferry_45]; exact fun q => nomatch q)
    | succ n45 ih45 =>
      intro x3 x4 refused_ trips_ h H locs ls hP hD hS hl
      rw [g_X10_ferry_45] at h
      have J65 : ∀ (n65 : Nat) (x3 : Int32) (x4 : Int32) (x5 : Int32) (refused_ : Nat → Int32) (trips_ : Nat → Int32), g_X10_ferry_65 N all_ x1 (g_X10_ferry_45 N all_ x1 x2 n45) n65 x3 x4 x5 refused_ trips_ = some r → ∀ (H : Heap) (locs : List Loc) (ls : Array Slot), va_P D vwCl [(q_this, .inr (10, [.ref q_this_all, v_this_isKept, .ref q_this_refused, .int above_, .int below_, .int at_, .int start_, .int sort_, .int value_, .int fault_, .int men_, .int gos_, v_this_ways, v_this_starts, v_this_homes, v_this_hours, v_this_froms, v_this_tos, v_this_whos, v_this_place, v_this_since, v_this_rows, v_this_few, v_this_most, v_this_parts, v_this_fewParts, v_this_mostParts, v_this_far, v_this_queue, v_this_gone, v_this_stood, .ref q_this_trips, .long sum_])), (q_this_all, .inl (kI, 1080, .inl all_)), (q_this_refused, .inl (kI, 3, .inl refused_)), (q_this_trips, .inl (kI, 256, .inl trips_))] H → va_D A [(q_this, .inr (10, [.ref q_this_all, v_this_isKept, .ref q_this_refused, .int above_, .int below_, .int at_, .int start_, .int sort_, .int value_, .int fault_, .int men_, .int gos_, v_this_ways, v_this_starts, v_this_homes, v_this_hours, v_this_froms, v_this_tos, v_this_whos, v_this_place, v_this_since, v_this_rows, v_this_few, v_this_most, v_this_parts, v_this_fewParts, v_this_mostParts, v_this_far, v_this_queue, v_this_gone, v_this_stood, .ref q_this_trips, .long sum_])), (q_this_all, .inl (kI, 1080, .inl all_)), (q_this_refused, .inl (kI, 3, .inl refused_)), (q_this_trips, .inl (kI, 256, .inl trips_))] → va_S A s.heap H locs → lv_has ls 7 [(0, .ref q_this), (1, .int x1), (2, .int x2), (3, .int x3), (4, .int x4), (5, .int x5)] → W p l e rm_X10_ferry s m args below meth c H locs 0 0 Q (F0 m 65 ls []) := by
        intro n65
        induction n65 with
        | zero => intro x3 x4 x5 refused_ trips_ h; exact absurd h (by rw [g_X10_ferry_65]; exact fun q => nomatch q)
        | succ n65 ih65 =>
          intro x3 x4 x5 refused_ trips_ h H locs ls hP hD hS hl
          rw [g_X10_ferry_65] at h
          refine lv_iload hx hb dX10_ferry_65 (lv_at hl 5 rfl) ?_
          refine lv_if_le (tgt := 141) hx hb dX10_ferry_67 (by decide) (fun c6 => ?_) (fun c6 => ?_)
          · replace h := q_t c6 h
            refine lv_iinc (v := (x4 + 1)) (lv' := [(4, .int (x4 + 1)), (0, .ref q_this), (1, .int x1), (2, .int x2), (3, .int x3), (5, .int x5)]) hx hb dX10_ferry_141 hl (k := 4) rfl rfl (by decide) rfl (fun ls hl => ?_)
            refine lv_goto (tgt := 45) hx hb dX10_ferry_144 (by decide) ?_
            exact ih45 x3 (x4 + 1) refused_ trips_ h _ _ _ (hP.sub [0, 1, 2, 3] rfl) (hD.sub [0, 1, 2, 3] rfl rfl) hS (lv_sub hl [1, 2, 3, 4, 0] rfl)
          · replace h := q_f c6 h
            refine lv_aload_n hx hb dX10_ferry_70 rfl (lv_at hl 0 rfl) ?_
            refine va_get (D := D) (ci := 10) (C := RX10) (T := TX10) (N := 33) hx hb hts iw_X10_ferry_X10 hown hK hP 0 rfl rfl 31 (by decide) (hts _ lk_X10_ferry_0) (fun _ h9 => h9) rfl dX10_ferry_71 ?_
            refine lv_iload hx hb dX10_ferry_74 (lv_at hl 4 rfl) ?_
            refine lv_iload hx hb dX10_ferry_76 (lv_at hl 5 rfl) ?_
            refine lv_iconst (v := (-1)) hx hb dX10_ferry_78 (by decide) ?_
            refine lv_ixor hx hb dX10_ferry_79 ?_
            refine lv_iand hx hb dX10_ferry_80 ?_
            obtain ⟨hg7, h⟩ := q_g h
            refine va_iald hx hb hK hP 3 0 rfl rfl (inb_vp hg7) dX10_ferry_81 ?_
            refine lv_iconst (v := 1) hx hb dX10_ferry_82 (by decide) ?_
            refine lv_iadd hx hb dX10_ferry_83 ?_
            refine lv_istore (lv' := [(6, .int ((trips_ (x4 &&& (x5 ^^^ (-1))).toNatClampNeg) + 1)), (0, .ref q_this), (1, .int x1), (2, .int x2), (3, .int x3), (4, .int x4), (5, .int x5)]) hx hb dX10_ferry_84 hl (by decide) rfl (fun ls hl => ?_)
            refine lv_iload hx hb dX10_ferry_86 (lv_at hl 6 rfl) ?_
            refine lv_iload hx hb dX10_ferry_88 (lv_at hl 5 rfl) ?_
            refine lv_iand hx hb dX10_ferry_90 ?_
            refine lv_iload hx hb dX10_ferry_91 (lv_at hl 5 rfl) ?_
            refine lv_ineg hx hb dX10_ferry_93 ?_
            refine lv_iand hx hb dX10_ferry_94 ?_
            refine lv_if_eq (tgt := 129) hx hb dX10_ferry_95 (by decide) (fun c8 => ?_) (fun c8 => ?_)
            · replace h := q_t c8 h
              refine lv_iload hx hb dX10_ferry_129 (lv_at hl 6 rfl) ?_
              refine lv_iconst (v := 1) hx hb dX10_ferry_131 (by decide) ?_
              refine lv_isub hx hb dX10_ferry_132 ?_
              refine lv_iload hx hb dX10_ferry_133 (lv_at hl 5 rfl) ?_
              refine lv_iand hx hb dX10_ferry_135 ?_
              refine lv_istore (lv' := [(5, .int ((x5 - 1) &&& x4)), (6, .int ((trips_ (x4 &&& (x5 ^^^ (-1))).toNatClampNeg) + 1)), (0, .ref q_this), (1, .int x1), (2, .int x2), (3, .int x3), (4, .int x4)]) hx hb dX10_ferry_136 hl (by decide) rfl (fun ls hl => ?_)
              refine lv_goto (tgt := 65) hx hb dX10_ferry_138 (by decide) ?_
              exact ih65 x3 x4 ((x5 - 1) &&& x4) refused_ trips_ h _ _ _ (hP.sub [0, 1, 2, 3] rfl) (hD.sub [0, 1, 2, 3] rfl rfl) hS (lv_sub hl [2, 3, 4, 5, 6, 0] rfl)
            · replace h := q_f c8 h
              refine lv_iload hx hb dX10_ferry_98 (lv_at hl 0 rfl) ?_
              refine lv_aload_n hx hb dX10_ferry_100 rfl (lv_at hl 1 rfl) ?_
              refine va_get (D := D) (ci := 10) (C := RX10) (T := TX10) (N := 33) hx hb hts iw_X10_ferry_X10 hown hK hP 0 rfl rfl 31 (by decide) (hts _ lk_X10_ferry_0) (fun _ h9 => h9) rfl dX10_ferry_101 ?_
              refine lv_iload hx hb dX10_ferry_104 (lv_at hl 5 rfl) ?_
              obtain ⟨hg9, h⟩ := q_g h
              refine va_iald hx hb hK hP 3 0 rfl rfl (inb_vp hg9) dX10_ferry_106 ?_
              refine lv_icmp_ge (tgt := 129) hx hb dX10_ferry_107 (by decide) (fun c10 => ?_) (fun c10 => ?_)
              · replace h := q_t c10 h
                refine lv_iload hx hb dX10_ferry_129 (lv_at hl 6 rfl) ?_
                refine lv_iconst (v := 1) hx hb dX10_ferry_131 (by decide) ?_
                refine lv_isub hx hb dX10_ferry_132 ?_
                refine lv_iload hx hb dX10_ferry_133 (lv_at hl 5 rfl) ?_
                refine lv_iand hx hb dX10_ferry_135 ?_
                refine lv_istore (lv' := [(5, .int ((x5 - 1) &&& x4)), (6, .int ((trips_ (x4 &&& (x5 ^^^ (-1))).toNatClampNeg) + 1)), (0, .ref q_this), (1, .int x1), (2, .int x2), (3, .int x3), (4, .int x4)]) hx hb dX10_ferry_136 hl (by decide) rfl (fun ls hl => ?_)
                refine lv_goto (tgt := 65) hx hb dX10_ferry_138 (by decide) ?_
                exact ih65 x3 x4 ((x5 - 1) &&& x4) refused_ trips_ h _ _ _ (hP.sub [0, 1, 2, 3] rfl) (hD.sub [0, 1, 2, 3] rfl rfl) hS (lv_sub hl [2, 3, 4, 5, 6, 0] rfl)
              · replace h := q_f c10 h
                refine lv_aload_n hx hb dX10_ferry_110 rfl (lv_at hl 1 rfl) ?_
                refine lv_iload_n hx hb dX10_ferry_111 rfl (lv_at hl 2 rfl) ?_
                refine lv_iload hx hb dX10_ferry_112 (lv_at hl 6 rfl) ?_
                obtain ⟨u114, hu114, h⟩ := q_b h
                refine q_aI (va_runV (As := [.int x1, .int x5]) (rest := []) ⟨hx, hb, hml, hown, hts⟩ (c_X10_isTrip l D E kI kB kQ q_this q_this_all v_this_isKept (.ref q_this_refused) v_this_ways v_this_starts v_this_homes v_this_hours v_this_froms v_this_tos v_this_whos v_this_place v_this_since v_this_rows v_this_few v_this_most v_this_parts v_this_fewParts v_this_mostParts v_this_far v_this_queue v_this_gone v_this_stood (.ref q_this_trips) above_ below_ at_ start_ sort_ value_ fault_ men_ gos_ sum_ all_ x1 x5 N u114 hu114 H.size) (cwV 2 hts gX10_ferry_X10_isTrip rfl rfl rfl vd_X10_isTrip ⟨Nat.le_of_ble_eq_true rfl, Nat.le_of_ble_eq_true rfl⟩) (q_pv hK hN hE hS hA hP hD [0, 1] rfl rfl rfl 0 rfl (ci := 10) rfl) rfl rfl hl.1 rfl (lv_room (Nat.le_of_ble_eq_true rfl)) dX10_ferry_114 ⟨Nat.zero_le _, Nat.zero_le _⟩) hP hD hS hA [0, 1] [2, 3] (Wr := [(q_this_refused, .inl (kI, 3, .inl refused_)), (q_this_trips, .inl (kI, 256, .inl trips_))]) rfl rfl rfl (by decide) (fun H locs hP hD hS => ?_)
                have hP : va_P D vwCl [(q_this_refused, .inl (kI, 3, .inl refused_)), (q_this_trips, .inl (kI, 256, .inl trips_)), (q_this, .inr (10, [.ref q_this_all, v_this_isKept, .ref q_this_refused, .int above_, .int below_, .int at_, .int start_, .int sort_, .int value_, .int fault_, .int men_, .int gos_, v_this_ways, v_this_starts, v_this_homes, v_this_hours, v_this_froms, v_this_tos, v_this_whos, v_this_place, v_this_since, v_this_rows, v_this_few, v_this_most, v_this_parts, v_this_fewParts, v_this_mostParts, v_this_far, v_this_queue, v_this_gone, v_this_stood, .ref q_this_trips, .long sum_])), (q_this_all, .inl (kI, 1080, .inl all_))] H := hP
                have hD : va_D A [(q_this_refused, .inl (kI, 3, .inl refused_)), (q_this_trips, .inl (kI, 256, .inl trips_)), (q_this, .inr (10, [.ref q_this_all, v_this_isKept, .ref q_this_refused, .int above_, .int below_, .int at_, .int start_, .int sort_, .int value_, .int fault_, .int men_, .int gos_, v_this_ways, v_this_starts, v_this_homes, v_this_hours, v_this_froms, v_this_tos, v_this_whos, v_this_place, v_this_since, v_this_rows, v_this_few, v_this_most, v_this_parts, v_this_fewParts, v_this_mostParts, v_this_far, v_this_queue, v_this_gone, v_this_stood, .ref q_this_trips, .long sum_])), (q_this_all, .inl (kI, 1080, .inl all_))] := hD
                refine lv_if_eq (tgt := 129) hx hb dX10_ferry_117 (by decide) (fun c11 => ?_) (fun c11 => ?_)
                · replace h := q_t c11 h
                  refine lv_iload hx hb dX10_ferry_129 (lv_at hl 6 rfl) ?_
                  refine lv_iconst (v := 1) hx hb dX10_ferry_131 (by decide) ?_
                  refine lv_isub hx hb dX10_ferry_132 ?_
                  refine lv_iload hx hb dX10_ferry_133 (lv_at hl 5 rfl) ?_
                  refine lv_iand hx hb dX10_ferry_135 ?_
                  refine lv_istore (lv' := [(5, .int ((x5 - 1) &&& x4)), (6, .int ((trips_ (x4 &&& (x5 ^^^ (-1))).toNatClampNeg) + 1)), (0, .ref q_this), (1, .int x1), (2, .int x2), (3, .int x3), (4, .int x4)]) hx hb dX10_ferry_136 hl (by decide) rfl (fun ls hl => ?_)
                  refine lv_goto (tgt := 65) hx hb dX10_ferry_138 (by decide) ?_
                  exact ih65 x3 x4 ((x5 - 1) &&& x4) refused_ trips_ h _ _ _ (hP.sub [2, 3, 0, 1] rfl) (hD.sub [2, 3, 0, 1] rfl rfl) hS (lv_sub hl [2, 3, 4, 5, 6, 0] rfl)
                · replace h := q_f c11 h
                  refine lv_aload_n hx hb dX10_ferry_120 rfl (lv_at hl 1 rfl) ?_
                  refine va_get (D := D) (ci := 10) (C := RX10) (T := TX10) (N := 33) hx hb hts iw_X10_ferry_X10 hown hK hP 2 rfl rfl 31 (by decide) (hts _ lk_X10_ferry_0) (fun _ h9 => h9) rfl dX10_ferry_121 ?_
                  refine lv_iload hx hb dX10_ferry_124 (lv_at hl 5 rfl) ?_
                  refine lv_iload hx hb dX10_ferry_126 (lv_at hl 0 rfl) ?_
                  refine va_iast hx hb hK hP hD hS 1 0 rfl rfl (inb_vp hg9) dX10_ferry_128 (fun H locs hP hD hS => ?_)
                  have hP : va_P D vwCl [(q_this_refused, .inl (kI, 3, .inl refused_)), (q_this_trips, .inl (kI, 256, .inl (upd trips_ x4.toNatClampNeg ((trips_ (x4 &&& (x5 ^^^ (-1))).toNatClampNeg) + 1)))), (q_this, .inr (10, [.ref q_this_all, v_this_isKept, .ref q_this_refused, .int above_, .int below_, .int at_, .int start_, .int sort_, .int value_, .int fault_, .int men_, .int gos_, v_this_ways, v_this_starts, v_this_homes, v_this_hours, v_this_froms, v_this_tos, v_this_whos, v_this_place, v_this_since, v_this_rows, v_this_few, v_this_most, v_this_parts, v_this_fewParts, v_this_mostParts, v_this_far, v_this_queue, v_this_gone, v_this_stood, .ref q_this_trips, .long sum_])), (q_this_all, .inl (kI, 1080, .inl all_))] H := hP
                  have hD : va_D A [(q_this_refused, .inl (kI, 3, .inl refused_)), (q_this_trips, .inl (kI, 256, .inl (upd trips_ x4.toNatClampNeg ((trips_ (x4 &&& (x5 ^^^ (-1))).toNatClampNeg) + 1)))), (q_this, .inr (10, [.ref q_this_all, v_this_isKept, .ref q_this_refused, .int above_, .int below_, .int at_, .int start_, .int sort_, .int value_, .int fault_, .int men_, .int gos_, v_this_ways, v_this_starts, v_this_homes, v_this_hours, v_this_froms, v_this_tos, v_this_whos, v_this_place, v_this_since, v_this_rows, v_this_few, v_this_most, v_this_parts, v_this_fewParts, v_this_mostParts, v_this_far, v_this_queue, v_this_gone, v_this_stood, .ref q_this_trips, .long sum_])), (q_this_all, .inl (kI, 1080, .inl all_))] := hD
                  refine lv_iload hx hb dX10_ferry_129 (lv_at hl 6 rfl) ?_
                  refine lv_iconst (v := 1) hx hb dX10_ferry_131 (by decide) ?_
                  refine lv_isub hx hb dX10_ferry_132 ?_
                  refine lv_iload hx hb dX10_ferry_133 (lv_at hl 5 rfl) ?_
                  refine lv_iand hx hb dX10_ferry_135 ?_
                  refine lv_istore (lv' := [(5, .int ((x5 - 1) &&& x4)), (6, .int ((trips_ (x4 &&& (x5 ^^^ (-1))).toNatClampNeg) + 1)), (0, .ref q_this), (1, .int x1), (2, .int x2), (3, .int x3), (4, .int x4)]) hx hb dX10_ferry_136 hl (by decide) rfl (fun ls hl => ?_)
                  refine lv_goto (tgt := 65) hx hb dX10_ferry_138 (by decide) ?_
                  exact ih65 x3 x4 ((x5 - 1) &&& x4) refused_ (upd trips_ x4.toNatClampNeg ((trips_ (x4 &&& (x5 ^^^ (-1))).toNatClampNeg) + 1)) h _ _ _ (hP.sub [2, 3, 0, 1] rfl) (hD.sub [2, 3, 0, 1] rfl rfl) hS (lv_sub hl [2, 3, 4, 5, 6, 0] rfl)
      refine lv_iload hx hb dX10_ferry_45 (lv_at hl 4 rfl) ?_
      refine lv_iload_n hx hb dX10_ferry_47 rfl (lv_at hl 3 rfl) ?_
      refine lv_icmp_gt (tgt := 147) hx hb dX10_ferry_48 (by decide) (fun c12 => ?_) (fun c12 => ?_)
      · replace h := q_t c12 h
        refine lv_aload_n hx hb dX10_ferry_147 rfl (lv_at hl 0 rfl) ?_
        refine va_get (D := D) (ci := 10) (C := RX10) (T := TX10) (N := 33) hx hb hts iw_X10_ferry_X10 hown hK hP 0 rfl rfl 31 (by decide) (hts _ lk_X10_ferry_0) (fun _ h9 => h9) rfl dX10_ferry_148 ?_
        refine lv_iload_n hx hb dX10_ferry_151 rfl (lv_at hl 3 rfl) ?_
        obtain ⟨hg13, h⟩ := q_g h
        refine va_iald hx hb hK hP 3 0 rfl rfl (inb_vp hg13) dX10_ferry_152 ?_
        refine lv_sipush (v := 9999) hx hb dX10_ferry_153 (by decide) ?_
        refine lv_icmp_lt (tgt := 161) hx hb dX10_ferry_156 (by decide) (fun c14 => ?_) (fun c14 => ?_)
        · replace h := q_t c14 h
          refine lv_iload_n hx hb dX10_ferry_161 rfl (lv_at hl 2 rfl) ?_
          refine lv_if_eq (tgt := 169) hx hb dX10_ferry_162 (by decide) (fun c15 => ?_) (fun c15 => ?_)
          · replace h := q_t c15 h
            refine lv_aload_n hx hb dX10_ferry_169 rfl (lv_at hl 0 rfl) ?_
            refine va_get (D := D) (ci := 10) (C := RX10) (T := TX10) (N := 33) hx hb hts iw_X10_ferry_X10 hown hK hP 0 rfl rfl 31 (by decide) (hts _ lk_X10_ferry_0) (fun _ h9 => h9) rfl dX10_ferry_170 ?_
            refine lv_iload_n hx hb dX10_ferry_173 rfl (lv_at hl 3 rfl) ?_
            refine va_iald hx hb hK hP 3 0 rfl rfl (inb_vp hg13) dX10_ferry_174 ?_
            have er := q_inj h
            subst er
            exact hret _ _ _ _ (hP.sub [0, 1, 2, 3] rfl) (hD.sub [0, 1, 2, 3] rfl rfl) hS dX10_ferry_175
          · replace h := q_f c15 h
            refine lv_iload_n hx hb dX10_ferry_165 rfl (lv_at hl 3 rfl) ?_
            refine lv_if_ne (tgt := 176) hx hb dX10_ferry_166 (by decide) (fun c16 => ?_) (fun c16 => ?_)
            · replace h := q_f c16 h
              refine lv_iconst (v := 1) hx hb dX10_ferry_176 (by decide) ?_
              refine lv_istore (lv' := [(4, .int 1), (0, .ref q_this), (1, .int x1), (2, .int x2), (3, .int x3)]) hx hb dX10_ferry_177 hl (by decide) rfl (fun ls hl => ?_)
              exact J179 N x3 1 refused_ trips_ h _ _ _ (hP.sub [0, 1, 2, 3] rfl) (hD.sub [0, 1, 2, 3] rfl rfl) hS (lv_sub hl [1, 2, 4, 0] rfl)
            · replace h := q_t c16 h
              refine lv_aload_n hx hb dX10_ferry_169 rfl (lv_at hl 0 rfl) ?_
              refine va_get (D := D) (ci := 10) (C := RX10) (T := TX10) (N := 33) hx hb hts iw_X10_ferry_X10 hown hK hP 0 rfl rfl 31 (by decide) (hts _ lk_X10_ferry_0) (fun _ h9 => h9) rfl dX10_ferry_170 ?_
              refine lv_iload_n hx hb dX10_ferry_173 rfl (lv_at hl 3 rfl) ?_
              refine va_iald hx hb hK hP 3 0 rfl rfl (inb_vp hg13) dX10_ferry_174 ?_
              have er := q_inj h
              subst er
              exact hret _ _ _ _ (hP.sub [0, 1, 2, 3] rfl) (hD.sub [0, 1, 2, 3] rfl rfl) hS dX10_ferry_175
        · replace h := q_f c14 h
          refine lv_iconst (v := (-1)) hx hb dX10_ferry_159 (by decide) ?_
          have er := q_inj h
          subst er
          exact hret _ _ _ _ (hP.sub [0, 1, 2, 3] rfl) (hD.sub [0, 1, 2, 3] rfl rfl) hS dX10_ferry_160
      · replace h := q_f c12 h
        refine lv_aload_n hx hb dX10_ferry_51 rfl (lv_at hl 0 rfl) ?_
        refine va_get (D := D) (ci := 10) (C := RX10) (T := TX10) (N := 33) hx hb hts iw_X10_ferry_X10 hown hK hP 0 rfl rfl 31 (by decide) (hts _ lk_X10_ferry_0) (fun _ h9 => h9) rfl dX10_ferry_52 ?_
        refine lv_iload hx hb dX10_ferry_55 (lv_at hl 4 rfl) ?_
        refine lv_sipush (v := 9999) hx hb dX10_ferry_57 (by decide) ?_
        obtain ⟨hg17, h⟩ := q_g h
        refine va_iast hx hb hK hP hD hS 3 0 rfl rfl (inb_vp hg17) dX10_ferry_60 (fun H locs hP hD hS => ?_)
        have hP : va_P D vwCl [(q_this, .inr (10, [.ref q_this_all, v_this_isKept, .ref q_this_refused, .int above_, .int below_, .int at_, .int start_, .int sort_, .int value_, .int fault_, .int men_, .int gos_, v_this_ways, v_this_starts, v_this_homes, v_this_hours, v_this_froms, v_this_tos, v_this_whos, v_this_place, v_this_since, v_this_rows, v_this_few, v_this_most, v_this_parts, v_this_fewParts, v_this_mostParts, v_this_far, v_this_queue, v_this_gone, v_this_stood, .ref q_this_trips, .long sum_])), (q_this_all, .inl (kI, 1080, .inl all_)), (q_this_refused, .inl (kI, 3, .inl refused_)), (q_this_trips, .inl (kI, 256, .inl (upd trips_ x4.toNatClampNeg 9999)))] H := hP
        have hD : va_D A [(q_this, .inr (10, [.ref q_this_all, v_this_isKept, .ref q_this_refused, .int above_, .int below_, .int at_, .int start_, .int sort_, .int value_, .int fault_, .int men_, .int gos_, v_this_ways, v_this_starts, v_this_homes, v_this_hours, v_this_froms, v_this_tos, v_this_whos, v_this_place, v_this_since, v_this_rows, v_this_few, v_this_most, v_this_parts, v_this_fewParts, v_this_mostParts, v_this_far, v_this_queue, v_this_gone, v_this_stood, .ref q_this_trips, .long sum_])), (q_this_all, .inl (kI, 1080, .inl all_)), (q_this_refused, .inl (kI, 3, .inl refused_)), (q_this_trips, .inl (kI, 256, .inl (upd trips_ x4.toNatClampNeg 9999)))] := hD
        refine lv_iload hx hb dX10_ferry_61 (lv_at hl 4 rfl) ?_
        refine lv_istore (lv' := [(5, .int x4), (0, .ref q_this), (1, .int x1), (2, .int x2), (3, .int x3), (4, .int x4)]) hx hb dX10_ferry_63 hl (by decide) rfl (fun ls hl => ?_)
        exact J65 N x3 x4 x4 refused_ (upd trips_ x4.toNatClampNeg 9999) h _ _ _ (hP.sub [0, 1, 2, 3] rfl) (hD.sub [0, 1, 2, 3] rfl rfl) hS (lv_sub hl [1, 2, 3, 4, 5, 0] rfl)
  refine lv_iload_n hx hb dX10_ferry_0 rfl (lv_at hl 1 rfl) ?_
  obtain ⟨u1, hu1, h⟩ := q_b h
  refine q_aI (va_runS (As := [.int x1]) (rest := []) ⟨hx, hb, hml, hown, hts⟩ (c_X10_isRule l D E kI kB kQ x1 N u1 hu1 H.size) (va_cwS 1 hts gX10_ferry_X10_isRule rfl rfl rfl nd_X10_isRule ⟨Nat.le_of_ble_eq_true rfl, Nat.le_of_ble_eq_true rfl⟩) (q_ps hK hN hE hS hA hP hD [] rfl rfl rfl) rfl rfl hl.1 rfl (lv_room (Nat.le_of_ble_eq_true rfl)) dX10_ferry_1 ⟨Nat.zero_le _, Nat.zero_le _⟩) hP hD hS hA [] [0, 1, 2, 3] (Wr := [(q_this, .inr (10, [.ref q_this_all, v_this_isKept, .ref q_this_refused, .int above_, .int below_, .int at_, .int start_, .int sort_, .int value_, .int fault_, .int men_, .int gos_, v_this_ways, v_this_starts, v_this_homes, v_this_hours, v_this_froms, v_this_tos, v_this_whos, v_this_place, v_this_since, v_this_rows, v_this_few, v_this_most, v_this_parts, v_this_fewParts, v_this_mostParts, v_this_far, v_this_queue, v_this_gone, v_this_stood, .ref q_this_trips, .long sum_])), (q_this_all, .inl (kI, 1080, .inl all_)), (q_this_refused, .inl (kI, 3, .inl refused_)), (q_this_trips, .inl (kI, 256, .inl trips_))]) rfl rfl rfl (by decide) (fun H locs hP hD hS => ?_)
  have hP : va_P D vwCl [(q_this, .inr (10, [.ref q_this_all, v_this_isKept, .ref q_this_refused, .int above_, .int below_, .int at_, .int start_, .int sort_, .int value_, .int fault_, .int men_, .int gos_, v_this_ways, v_this_starts, v_this_homes, v_this_hours, v_this_froms, v_this_tos, v_this_whos, v_this_place, v_this_since, v_this_rows, v_this_few, v_this_most, v_this_parts, v_this_fewParts, v_this_mostParts, v_this_far, v_this_queue, v_this_gone, v_this_stood, .ref q_this_trips, .long sum_])), (q_this_all, .inl (kI, 1080, .inl all_)), (q_this_refused, .inl (kI, 3, .inl refused_)), (q_this_trips, .inl (kI, 256, .inl trips_))] H := hP
  have hD : va_D A [(q_this, .inr (10, [.ref q_this_all, v_this_isKept, .ref q_this_refused, .int above_, .int below_, .int at_, .int start_, .int sort_, .int value_, .int fault_, .int men_, .int gos_, v_this_ways, v_this_starts, v_this_homes, v_this_hours, v_this_froms, v_this_tos, v_this_whos, v_this_place, v_this_since, v_this_rows, v_this_few, v_this_most, v_this_parts, v_this_fewParts, v_this_mostParts, v_this_far, v_this_queue, v_this_gone, v_this_stood, .ref q_this_trips, .long sum_])), (q_this_all, .inl (kI, 1080, .inl all_)), (q_this_refused, .inl (kI, 3, .inl refused_)), (q_this_trips, .inl (kI, 256, .inl trips_))] := hD
  refine lv_if_eq (tgt := 16) hx hb dX10_ferry_4 (by decide) (fun c18 => ?_) (fun c18 => ?_)
  · replace h := q_t c18 h
    refine lv_aload_n hx hb dX10_ferry_16 rfl (lv_at hl 0 rfl) ?_
    refine lv_bipush (v := (-2)) hx hb dX10_ferry_17 (by decide) ?_
    obtain ⟨u19, hu19, h⟩ := q_b h
    refine q_aI (va_runV (As := [.int (-2)]) (rest := []) ⟨hx, hb, hml, hown, hts⟩ (c_X10_refuse l D E kI kB kQ q_this q_this_refused (.ref q_this_all) v_this_isKept v_this_ways v_this_starts v_this_homes v_this_hours v_this_froms v_this_tos v_this_whos v_this_place v_this_since v_this_rows v_this_few v_this_most v_this_parts v_this_fewParts v_this_mostParts v_this_far v_this_queue v_this_gone v_this_stood (.ref q_this_trips) above_ below_ at_ start_ sort_ value_ fault_ men_ gos_ sum_ refused_ (-2) N u19 hu19 H.size) (cwV 1 hts gX10_ferry_X10_refuse rfl rfl rfl vd_X10_refuse ⟨Nat.le_of_ble_eq_true rfl, Nat.le_of_ble_eq_true rfl⟩) (q_pv hK hN hE hS hA hP hD [0, 2] rfl rfl rfl 0 rfl (ci := 10) rfl) rfl rfl hl.1 rfl (lv_room (Nat.le_of_ble_eq_true rfl)) dX10_ferry_19 ⟨Nat.zero_le _, Nat.zero_le _⟩) hP hD hS hA [0, 2] [1, 3] (Wr := [(q_this_all, .inl (kI, 1080, .inl all_)), (q_this_trips, .inl (kI, 256, .inl trips_))]) rfl rfl rfl (by decide) (fun H locs hP hD hS => ?_)
    have hP : va_P D vwCl [(q_this_all, .inl (kI, 1080, .inl all_)), (q_this_trips, .inl (kI, 256, .inl trips_)), (q_this, .inr (10, [.ref q_this_all, v_this_isKept, .ref q_this_refused, .int above_, .int below_, .int at_, .int start_, .int sort_, .int value_, .int fault_, .int men_, .int gos_, v_this_ways, v_this_starts, v_this_homes, v_this_hours, v_this_froms, v_this_tos, v_this_whos, v_this_place, v_this_since, v_this_rows, v_this_few, v_this_most, v_this_parts, v_this_fewParts, v_this_mostParts, v_this_far, v_this_queue, v_this_gone, v_this_stood, .ref q_this_trips, .long sum_])), (q_this_refused, .inl (kI, 3, .inl u19.2))] H := hP
    have hD : va_D A [(q_this_all, .inl (kI, 1080, .inl all_)), (q_this_trips, .inl (kI, 256, .inl trips_)), (q_this, .inr (10, [.ref q_this_all, v_this_isKept, .ref q_this_refused, .int above_, .int below_, .int at_, .int start_, .int sort_, .int value_, .int fault_, .int men_, .int gos_, v_this_ways, v_this_starts, v_this_homes, v_this_hours, v_this_froms, v_this_tos, v_this_whos, v_this_place, v_this_since, v_this_rows, v_this_few, v_this_most, v_this_parts, v_this_fewParts, v_this_mostParts, v_this_far, v_this_queue, v_this_gone, v_this_stood, .ref q_this_trips, .long sum_])), (q_this_refused, .inl (kI, 3, .inl u19.2))] := hD
    have er := q_inj h
    subst er
    exact hret _ _ _ _ (hP.sub [2, 0, 3, 1] rfl) (hD.sub [2, 0, 3, 1] rfl rfl) hS dX10_ferry_22
  · replace h := q_f c18 h
    refine lv_iload_n hx hb dX10_ferry_7 rfl (lv_at hl 2 rfl) ?_
    refine lv_iconst (v := 0) hx hb dX10_ferry_8 (by decide) ?_
    refine lv_iconst (v := 1) hx hb dX10_ferry_9 (by decide) ?_
    obtain ⟨u10, hu10, h⟩ := q_b h
    refine q_aI (va_runS (As := [.int x2, .int 0, .int 1]) (rest := []) ⟨hx, hb, hml, hown, hts⟩ (c_X10_in l D E kI kB kQ x2 0 1 N u10 hu10 H.size) (va_cwS 3 hts gX10_ferry_X10_in rfl rfl rfl nd_X10_in ⟨Nat.le_of_ble_eq_true rfl, Nat.le_of_ble_eq_true rfl⟩) (q_ps hK hN hE hS hA hP hD [] rfl rfl rfl) rfl rfl hl.1 rfl (lv_room (Nat.le_of_ble_eq_true rfl)) dX10_ferry_10 ⟨Nat.zero_le _, Nat.zero_le _⟩) hP hD hS hA [] [0, 1, 2, 3] (Wr := [(q_this, .inr (10, [.ref q_this_all, v_this_isKept, .ref q_this_refused, .int above_, .int below_, .int at_, .int start_, .int sort_, .int value_, .int fault_, .int men_, .int gos_, v_this_ways, v_this_starts, v_this_homes, v_this_hours, v_this_froms, v_this_tos, v_this_whos, v_this_place, v_this_since, v_this_rows, v_this_few, v_this_most, v_this_parts, v_this_fewParts, v_this_mostParts, v_this_far, v_this_queue, v_this_gone, v_this_stood, .ref q_this_trips, .long sum_])), (q_this_all, .inl (kI, 1080, .inl all_)), (q_this_refused, .inl (kI, 3, .inl refused_)), (q_this_trips, .inl (kI, 256, .inl trips_))]) rfl rfl rfl (by decide) (fun H locs hP hD hS => ?_)
    have hP : va_P D vwCl [(q_this, .inr (10, [.ref q_this_all, v_this_isKept, .ref q_this_refused, .int above_, .int below_, .int at_, .int start_, .int sort_, .int value_, .int fault_, .int men_, .int gos_, v_this_ways, v_this_starts, v_this_homes, v_this_hours, v_this_froms, v_this_tos, v_this_whos, v_this_place, v_this_since, v_this_rows, v_this_few, v_this_most, v_this_parts, v_this_fewParts, v_this_mostParts, v_this_far, v_this_queue, v_this_gone, v_this_stood, .ref q_this_trips, .long sum_])), (q_this_all, .inl (kI, 1080, .inl all_)), (q_this_refused, .inl (kI, 3, .inl refused_)), (q_this_trips, .inl (kI, 256, .inl trips_))] H := hP
    have hD : va_D A [(q_this, .inr (10, [.ref q_this_all, v_this_isKept, .ref q_this_refused, .int above_, .int below_, .int at_, .int start_, .int sort_, .int value_, .int fault_, .int men_, .int gos_, v_this_ways, v_this_starts, v_this_homes, v_this_hours, v_this_froms, v_this_tos, v_this_whos, v_this_place, v_this_since, v_this_rows, v_this_few, v_this_most, v_this_parts, v_this_fewParts, v_this_mostParts, v_this_far, v_this_queue, v_this_gone, v_this_stood, .ref q_this_trips, .long sum_])), (q_this_all, .inl (kI, 1080, .inl all_)), (q_this_refused, .inl (kI, 3, .inl refused_)), (q_this_trips, .inl (kI, 256, .inl trips_))] := hD
    refine lv_if_ne (tgt := 23) hx hb dX10_ferry_13 (by decide) (fun c19 => ?_) (fun c19 => ?_)
    · replace h := q_f c19 h
      refine lv_iconst (v := 1) hx hb dX10_ferry_23 (by decide) ?_
      refine lv_aload_n hx hb dX10_ferry_24 rfl (lv_at hl 0 rfl) ?_
      refine va_get (D := D) (ci := 10) (C := RX10) (T := TX10) (N := 33) hx hb hts iw_X10_ferry_X10 hown hK hP 0 rfl rfl 0 (by decide) (hts _ lk_X10_ferry_1) (fun _ h9 => h9) rfl dX10_ferry_25 ?_
      refine lv_bipush (v := 6) hx hb dX10_ferry_28 (by decide) ?_
      obtain ⟨hg20, h⟩ := q_g h
      refine va_iald hx hb hK hP 1 0 rfl rfl (inb_vp hg20) dX10_ferry_30 ?_
      refine lv_ishl hx hb dX10_ferry_31 ?_
      refine lv_iconst (v := 1) hx hb dX10_ferry_32 (by decide) ?_
      refine lv_isub hx hb dX10_ferry_33 ?_
      refine lv_istore_n (lv' := [(3, .int ((1 <<< ((all_ (6 : Int32).toNatClampNeg) &&& 31)) - 1)), (0, .ref q_this), (1, .int x1), (2, .int x2)]) hx hb dX10_ferry_34 rfl hl (by decide) rfl (fun ls hl => ?_)
      refine lv_aload_n hx hb dX10_ferry_35 rfl (lv_at hl 1 rfl) ?_
      refine va_get (D := D) (ci := 10) (C := RX10) (T := TX10) (N := 33) hx hb hts iw_X10_ferry_X10 hown hK hP 0 rfl rfl 31 (by decide) (hts _ lk_X10_ferry_0) (fun _ h9 => h9) rfl dX10_ferry_36 ?_
      refine lv_iconst (v := 0) hx hb dX10_ferry_39 (by decide) ?_
      refine lv_iconst (v := 0) hx hb dX10_ferry_40 (by decide) ?_
      obtain ⟨hg21, h⟩ := q_g h
      refine va_iast hx hb hK hP hD hS 3 0 rfl rfl (inb_vp hg21) dX10_ferry_41 (fun H locs hP hD hS => ?_)
      have hP : va_P D vwCl [(q_this, .inr (10, [.ref q_this_all, v_this_isKept, .ref q_this_refused, .int above_, .int below_, .int at_, .int start_, .int sort_, .int value_, .int fault_, .int men_, .int gos_, v_this_ways, v_this_starts, v_this_homes, v_this_hours, v_this_froms, v_this_tos, v_this_whos, v_this_place, v_this_since, v_this_rows, v_this_few, v_this_most, v_this_parts, v_this_fewParts, v_this_mostParts, v_this_far, v_this_queue, v_this_gone, v_this_stood, .ref q_this_trips, .long sum_])), (q_this_all, .inl (kI, 1080, .inl all_)), (q_this_refused, .inl (kI, 3, .inl refused_)), (q_this_trips, .inl (kI, 256, .inl (upd trips_ (0 : Int32).toNatClampNeg 0)))] H := hP
      have hD : va_D A [(q_this, .inr (10, [.ref q_this_all, v_this_isKept, .ref q_this_refused, .int above_, .int below_, .int at_, .int start_, .int sort_, .int value_, .int fault_, .int men_, .int gos_, v_this_ways, v_this_starts, v_this_homes, v_this_hours, v_this_froms, v_this_tos, v_this_whos, v_this_place, v_this_since, v_this_rows, v_this_few, v_this_most, v_this_parts, v_this_fewParts, v_this_mostParts, v_this_far, v_this_queue, v_this_gone, v_this_stood, .ref q_this_trips, .long sum_])), (q_this_all, .inl (kI, 1080, .inl all_)), (q_this_refused, .inl (kI, 3, .inl refused_)), (q_this_trips, .inl (kI, 256, .inl (upd trips_ (0 : Int32).toNatClampNeg 0)))] := hD
      refine lv_iconst (v := 1) hx hb dX10_ferry_42 (by decide) ?_
      refine lv_istore (lv' := [(4, .int 1), (3, .int ((1 <<< ((all_ (6 : Int32).toNatClampNeg) &&& 31)) - 1)), (0, .ref q_this), (1, .int x1), (2, .int x2)]) hx hb dX10_ferry_43 hl (by decide) rfl (fun ls hl => ?_)
      exact J45 N ((1 <<< ((all_ (6 : Int32).toNatClampNeg) &&& 31)) - 1) 1 refused_ (upd trips_ (0 : Int32).toNatClampNeg 0) h _ _ _ (hP.sub [0, 1, 2, 3] rfl) (hD.sub [0, 1, 2, 3] rfl rfl) hS (lv_sub hl [2, 3, 4, 1, 0] rfl)
    · replace h := q_t c19 h
      refine lv_aload_n hx hb dX10_ferry_16 rfl (lv_at hl 0 rfl) ?_
      refine lv_bipush (v := (-2)) hx hb dX10_ferry_17 (by decide) ?_
      obtain ⟨u19, hu19, h⟩ := q_b h
      refine q_aI (va_runV (As := [.int (-2)]) (rest := []) ⟨hx, hb, hml, hown, hts⟩ (c_X10_refuse l D E kI kB kQ q_this q_this_refused (.ref q_this_all) v_this_isKept v_this_ways v_this_starts v_this_homes v_this_hours v_this_froms v_this_tos v_this_whos v_this_place v_this_since v_this_rows v_this_few v_this_most v_this_parts v_this_fewParts v_this_mostParts v_this_far v_this_queue v_this_gone v_this_stood (.ref q_this_trips) above_ below_ at_ start_ sort_ value_ fault_ men_ gos_ sum_ refused_ (-2) N u19 hu19 H.size) (cwV 1 hts gX10_ferry_X10_refuse rfl rfl rfl vd_X10_refuse ⟨Nat.le_of_ble_eq_true rfl, Nat.le_of_ble_eq_true rfl⟩) (q_pv hK hN hE hS hA hP hD [0, 2] rfl rfl rfl 0 rfl (ci := 10) rfl) rfl rfl hl.1 rfl (lv_room (Nat.le_of_ble_eq_true rfl)) dX10_ferry_19 ⟨Nat.zero_le _, Nat.zero_le _⟩) hP hD hS hA [0, 2] [1, 3] (Wr := [(q_this_all, .inl (kI, 1080, .inl all_)), (q_this_trips, .inl (kI, 256, .inl trips_))]) rfl rfl rfl (by decide) (fun H locs hP hD hS => ?_)
      have hP : va_P D vwCl [(q_this_all, .inl (kI, 1080, .inl all_)), (q_this_trips, .inl (kI, 256, .inl trips_)), (q_this, .inr (10, [.ref q_this_all, v_this_isKept, .ref q_this_refused, .int above_, .int below_, .int at_, .int start_, .int sort_, .int value_, .int fault_, .int men_, .int gos_, v_this_ways, v_this_starts, v_this_homes, v_this_hours, v_this_froms, v_this_tos, v_this_whos, v_this_place, v_this_since, v_this_rows, v_this_few, v_this_most, v_this_parts, v_this_fewParts, v_this_mostParts, v_this_far, v_this_queue, v_this_gone, v_this_stood, .ref q_this_trips, .long sum_])), (q_this_refused, .inl (kI, 3, .inl u19.2))] H := hP
      have hD : va_D A [(q_this_all, .inl (kI, 1080, .inl all_)), (q_this_trips, .inl (kI, 256, .inl trips_)), (q_this, .inr (10, [.ref q_this_all, v_this_isKept, .ref q_this_refused, .int above_, .int below_, .int at_, .int start_, .int sort_, .int value_, .int fault_, .int men_, .int gos_, v_this_ways, v_this_starts, v_this_homes, v_this_hours, v_this_froms, v_this_tos, v_this_whos, v_this_place, v_this_since, v_this_rows, v_this_few, v_this_most, v_this_parts, v_this_fewParts, v_this_mostParts, v_this_far, v_this_queue, v_this_gone, v_this_stood, .ref q_this_trips, .long sum_])), (q_this_refused, .inl (kI, 3, .inl u19.2))] := hD
      have er := q_inj h
      subst er
      exact hret _ _ _ _ (hP.sub [2, 0, 3, 1] rfl) (hD.sub [2, 0, 3, 1] rfl rfl) hS dX10_ferry_22
abbrev rm_X10_part : Room := { frames := 1, cells := 0, slots := 0, locals := 21 }
theorem lk_X10_part_0 : Cond.fieldLink RX10 20 "OnlyPrimesModel" "below" "I" ∈ wsX10_part := List.mem_of_getElem? (i := 2) (by decide +kernel)
theorem iw_X10_part_X10 : ∀ w ∈ wsX100, w ∈ wsX10_part := by decide +kernel
theorem lk_X10_part_1 : Cond.fieldLink RX10 192 "OnlyPrimesModel" "above" "I" ∈ wsX10_part := List.mem_of_getElem? (i := 1) (by decide +kernel)
theorem nd_X10_part : yX10_part.cls ≠ "java/lang/invoke/MethodHandle" ∧ yX10_part.cls ≠ "java/lang/invoke/VarHandle" ∧ (parseMethodDescriptor yX10_part.desc).map (fun d => d.parameters.length) = some 1 := by decide +kernel
theorem vd_X10_part : yX10_part.cls = RX10 ∧ yX10_part.cls ≠ "java/lang/invoke/MethodHandle" ∧ yX10_part.cls ≠ "java/lang/invoke/VarHandle" ∧ (parseMethodDescriptor yX10_part.desc).map (fun d => d.parameters.length) = some 1 := by decide +kernel
set_option maxHeartbeats 4000000 in
set_option maxRecDepth 100000 in
theorem c_X10_part (l : Launch) (D : va_G) (E : q_En) (kI kB kQ : ClassId) (q_this : Nat) (q_this_refused : Nat) (v_this_all : Value) (v_this_isKept : Value) (v_this_ways : Value) (v_this_starts : Value) (v_this_homes : Value) (v_this_hours : Value) (v_this_froms : Value) (v_this_tos : Value) (v_this_whos : Value) (v_this_place : Value) (v_this_since : Value) (v_this_rows : Value) (v_this_few : Value) (v_this_most : Value) (v_this_parts : Value) (v_this_fewParts : Value) (v_this_mostParts : Value) (v_this_far : Value) (v_this_queue : Value) (v_this_gone : Value) (v_this_stood : Value) (v_this_trips : Value) (above_ : Int32) (below_ : Int32) (at_ : Int32) (start_ : Int32) (sort_ : Int32) (value_ : Int32) (fault_ : Int32) (men_ : Int32) (gos_ : Int32) (sum_ : Int64) (refused_ : Nat → Int32) (x1 : Int32) (N : Nat) (r : Int32 × (Nat → Int32)) (hf : g_X10_part above_ below_ refused_ x1 = some r) : CtI l D E yX10_part wsX10_part rm_X10_part (q_tys kI kB kQ) [.ref q_this, .int x1] [(q_this, .inr (10, [v_this_all, v_this_isKept, .ref q_this_refused, .int above_, .int below_, .int at_, .int start_, .int sort_, .int value_, .int fault_, .int men_, .int gos_, v_this_ways, v_this_starts, v_this_homes, v_this_hours, v_this_froms, v_this_tos, v_this_whos, v_this_place, v_this_since, v_this_rows, v_this_few, v_this_most, v_this_parts, v_this_fewParts, v_this_mostParts, v_this_far, v_this_queue, v_this_gone, v_this_stood, v_this_trips, .long sum_])), (q_this_refused, .inl (kI, 3, .inl refused_))] [(q_this, .inr (10, [v_this_all, v_this_isKept, .ref q_this_refused, .int above_, .int below_, .int at_, .int start_, .int sort_, .int value_, .int fault_, .int men_, .int gos_, v_this_ways, v_this_starts, v_this_homes, v_this_hours, v_this_froms, v_this_tos, v_this_whos, v_this_place, v_this_since, v_this_rows, v_this_few, v_this_most, v_this_parts, v_this_fewParts, v_this_mostParts, v_this_far, v_this_queue, v_this_gone, v_this_stood, v_this_trips, .long sum_])), (q_this_refused, .inl (kI, 3, .inl r.2))] r.1 := by
  refine q_enterI cX10_part 2 RX10 (by decide) rfl (Nat.le_of_ble_eq_true rfl) rfl ?_
  intro p e s m args below meth c Q A ls H hx hb hml hown hts hK hN hE hA hP hS hD hl hret
  have hl : lv_has ls 2 [(0, .ref q_this), (1, .int x1)] := hl
  have h := hf
  rw [g_X10_part] at h
  refine lv_iload_n hx hb dX10_part_0 rfl (lv_at hl 1 rfl) ?_
  refine lv_if_ne (tgt := 11) hx hb dX10_part_1 (by decide) (fun c1 => ?_) (fun c1 => ?_)
  · replace h := q_f c1 h
    refine lv_iload_n hx hb dX10_part_11 rfl (lv_at hl 1 rfl) ?_
    refine lv_iconst (v := 1) hx hb dX10_part_12 (by decide) ?_
    refine lv_icmp_ne (tgt := 23) hx hb dX10_part_13 (by decide) (fun c2 => ?_) (fun c2 => ?_)
    · replace h := q_f c2 h
      refine lv_aload_n hx hb dX10_part_23 rfl (lv_at hl 0 rfl) ?_
      refine lv_bipush (v := (-2)) hx hb dX10_part_24 (by decide) ?_
      obtain ⟨u26, hu26, h⟩ := q_b h
      refine q_aI (va_runV (As := [.int (-2)]) (rest := []) ⟨hx, hb, hml, hown, hts⟩ (c_X10_refuse l D E kI kB kQ q_this q_this_refused v_this_all v_this_isKept v_this_ways v_this_starts v_this_homes v_this_hours v_this_froms v_this_tos v_this_whos v_this_place v_this_since v_this_rows v_this_few v_this_most v_this_parts v_this_fewParts v_this_mostParts v_this_far v_this_queue v_this_gone v_this_stood v_this_trips above_ below_ at_ start_ sort_ value_ fault_ men_ gos_ sum_ refused_ (-2) N u26 hu26 H.size) (cwV 1 hts gX10_part_X10_refuse rfl rfl rfl vd_X10_refuse ⟨Nat.le_of_ble_eq_true rfl, Nat.le_of_ble_eq_true rfl⟩) (q_pv hK hN hE hS hA hP hD [0, 1] rfl rfl rfl 0 rfl (ci := 10) rfl) rfl rfl hl.1 rfl (lv_room (Nat.le_of_ble_eq_true rfl)) dX10_part_26 ⟨Nat.zero_le _, Nat.zero_le _⟩) hP hD hS hA [0, 1] [] (Wr := []) rfl rfl rfl (by decide) (fun H locs hP hD hS => ?_)
      have hP : va_P D vwCl [(q_this, .inr (10, [v_this_all, v_this_isKept, .ref q_this_refused, .int above_, .int below_, .int at_, .int start_, .int sort_, .int value_, .int fault_, .int men_, .int gos_, v_this_ways, v_this_starts, v_this_homes, v_this_hours, v_this_froms, v_this_tos, v_this_whos, v_this_place, v_this_since, v_this_rows, v_this_few, v_this_most, v_this_parts, v_this_fewParts, v_this_mostParts, v_this_far, v_this_queue, v_this_gone, v_this_stood, v_this_trips, .long sum_])), (q_this_refused, .inl (kI, 3, .inl u26.2))] H := hP
      have hD : va_D A [(q_this, .inr (10, [v_this_all, v_this_isKept, .ref q_this_refused, .int above_, .int below_, .int at_, .int start_, .int sort_, .int value_, .int fault_, .int men_, .int gos_, v_this_ways, v_this_starts, v_this_homes, v_this_hours, v_this_froms, v_this_tos, v_this_whos, v_this_place, v_this_since, v_this_rows, v_this_few, v_this_most, v_this_parts, v_this_fewParts, v_this_mostParts, v_this_far, v_this_queue, v_this_gone, v_this_stood, v_this_trips, .long sum_])), (q_this_refused, .inl (kI, 3, .inl u26.2))] := hD
      have er := q_inj h
      subst er
      exact hret _ _ _ _ (hP.sub [0, 1] rfl) (hD.sub [0, 1] rfl rfl) hS dX10_part_29
    · replace h := q_t c2 h
      refine lv_aload_n hx hb dX10_part_16 rfl (lv_at hl 0 rfl) ?_
      refine va_get (D := D) (ci := 10) (C := RX10) (T := TX10) (N := 33) hx hb hts iw_X10_part_X10 hown hK hP 0 rfl rfl 4 (by decide) (hts _ lk_X10_part_0) (fun _ h9 => h9) rfl dX10_part_17 ?_
      refine lv_goto (tgt := 29) hx hb dX10_part_20 (by decide) ?_
      have er := q_inj h
      subst er
      exact hret _ _ _ _ (hP.sub [0, 1] rfl) (hD.sub [0, 1] rfl rfl) hS dX10_part_29
  · replace h := q_t c1 h
    refine lv_aload_n hx hb dX10_part_4 rfl (lv_at hl 0 rfl) ?_
    refine va_get (D := D) (ci := 10) (C := RX10) (T := TX10) (N := 33) hx hb hts iw_X10_part_X10 hown hK hP 0 rfl rfl 3 (by decide) (hts _ lk_X10_part_1) (fun _ h9 => h9) rfl dX10_part_5 ?_
    refine lv_goto (tgt := 29) hx hb dX10_part_8 (by decide) ?_
    have er := q_inj h
    subst er
    exact hret _ _ _ _ (hP.sub [0, 1] rfl) (hD.sub [0, 1] rfl rfl) hS dX10_part_29
abbrev rm_X10_copyAll : Room := { frames := 0, cells := 0, slots := 0, locals := 0 }
theorem lk_X10_copyAll_0 : Cond.fieldLink RX10 7 "OnlyPrimesModel" "all" "[I" ∈ wsX10_copyAll := List.mem_of_getElem? (i := 1) (by decide +kernel)
theorem iw_X10_copyAll_X10 : ∀ w ∈ wsX100, w ∈ wsX10_copyAll := by decide +kernel
theorem nd_X10_copyAll : yX10_copyAll.cls ≠ "java/lang/invoke/MethodHandle" ∧ yX10_copyAll.cls ≠ "java/lang/invoke/VarHandle" ∧ (parseMethodDescriptor yX10_copyAll.desc).map (fun d => d.parameters.length) = some 2 := by decide +kernel
theorem vd_X10_copyAll : yX10_copyAll.cls = RX10 ∧ yX10_copyAll.cls ≠ "java/lang/invoke/MethodHandle" ∧ yX10_copyAll.cls ≠ "java/lang/invoke/VarHandle" ∧ (parseMethodDescriptor yX10_copyAll.desc).map (fun d => d.parameters.length) = some 2 := by decide +kernel
set_option maxHeartbeats 4000000 in
set_option maxRecDepth 100000 in
theorem c_X10_copyAll (l : Launch) (D : va_G) (E : q_En) (kI kB kQ : ClassId) (q_this : Nat) (q_this_all : Nat) (v_this_isKept : Value) (v_this_refused : Value) (v_this_ways : Value) (v_this_starts : Value) (v_this_homes : Value) (v_this_hours : Value) (v_this_froms : Value) (v_this_tos : Value) (v_this_whos : Value) (v_this_place : Value) (v_this_since : Value) (v_this_rows : Value) (v_this_few : Value) (v_this_most : Value) (v_this_parts : Value) (v_this_fewParts : Value) (v_this_mostParts : Value) (v_this_far : Value) (v_this_queue : Value) (v_this_gone : Value) (v_this_stood : Value) (v_this_trips : Value) (above_ : Int32) (below_ : Int32) (at_ : Int32) (start_ : Int32) (sort_ : Int32) (value_ : Int32) (fault_ : Int32) (men_ : Int32) (gos_ : Int32) (sum_ : Int64) (all_ : Nat → Int32) (x1 : Int32) (x2 : Int32) (N : Nat) (r : (Nat → Int32)) (hf : g_X10_copyAll N all_ x1 x2 = some r) : CtV l D E yX10_copyAll wsX10_copyAll rm_X10_copyAll (q_tys kI kB kQ) [.ref q_this, .int x1, .int x2] [(q_this, .inr (10, [.ref q_this_all, v_this_isKept, v_this_refused, .int above_, .int below_, .int at_, .int start_, .int sort_, .int value_, .int fault_, .int men_, .int gos_, v_this_ways, v_this_starts, v_this_homes, v_this_hours, v_this_froms, v_this_tos, v_this_whos, v_this_place, v_this_since, v_this_rows, v_this_few, v_this_most, v_this_parts, v_this_fewParts, v_this_mostParts, v_this_far, v_this_queue, v_this_gone, v_this_stood, v_this_trips, .long sum_])), (q_this_all, .inl (kI, 1080, .inl all_))] [(q_this, .inr (10, [.ref q_this_all, v_this_isKept, v_this_refused, .int above_, .int below_, .int at_, .int start_, .int sort_, .int value_, .int fault_, .int men_, .int gos_, v_this_ways, v_this_starts, v_this_homes, v_this_hours, v_this_froms, v_this_tos, v_this_whos, v_this_place, v_this_since, v_this_rows, v_this_few, v_this_most, v_this_parts, v_this_fewParts, v_this_mostParts, v_this_far, v_this_queue, v_this_gone, v_this_stood, v_this_trips, .long sum_])), (q_this_all, .inl (kI, 1080, .inl r))] := by
  refine q_enterV cX10_copyAll 4 RX10 (by decide) rfl (Nat.le_of_ble_eq_true rfl) rfl ?_
  intro p e s m args below meth c Q A ls H hx hb hml hown hts hK hN hE hA hP hS hD hl hret
  have hl : lv_has ls 4 [(0, .ref q_this), (1, .int x1), (2, .int x2)] := hl
  have h := hf
  rw [g_X10_copyAll] at h
  have J2 : ∀ (n2 : Nat) (x3 : Int32) (all_ : Nat → Int32), g_X10_copyAll_2 x1 x2 n2 x3 all_ = some r → ∀ (H : Heap) (locs : List Loc) (ls : Array Slot), va_P D vwCl [(q_this, .inr (10, [.ref q_this_all, v_this_isKept, v_this_refused, .int above_, .int below_, .int at_, .int start_, .int sort_, .int value_, .int fault_, .int men_, .int gos_, v_this_ways, v_this_starts, v_this_homes, v_this_hours, v_this_froms, v_this_tos, v_this_whos, v_this_place, v_this_since, v_this_rows, v_this_few, v_this_most, v_this_parts, v_this_fewParts, v_this_mostParts, v_this_far, v_this_queue, v_this_gone, v_this_stood, v_this_trips, .long sum_])), (q_this_all, .inl (kI, 1080, .inl all_))] H → va_D A [(q_this, .inr (10, [.ref q_this_all, v_this_isKept, v_this_refused, .int above_, .int below_, .int at_, .int start_, .int sort_, .int value_, .int fault_, .int men_, .int gos_, v_this_ways, v_this_starts, v_this_homes, v_this_hours, v_this_froms, v_this_tos, v_this_whos, v_this_place, v_this_since, v_this_rows, v_this_few, v_this_most, v_this_parts, v_this_fewParts, v_this_mostParts, v_this_far, v_this_queue, v_this_gone, v_this_stood, v_this_trips, .long sum_])), (q_this_all, .inl (kI, 1080, .inl all_))] → va_S A s.heap H locs → lv_has ls 4 [(0, .ref q_this), (1, .int x1), (2, .int x2), (3, .int x3)] → W p l e rm_X10_copyAll s m args below meth c H locs 0 0 Q (F0 m 2 ls []) := by
    intro n2
    induction n2 with
    | zero => intro x3 all_ h; exact absurd h (by rw [g_X10_copyAll_2]; exact fun q => nomatch q)
    | succ n2 ih2 =>
      intro x3 all_ h H locs ls hP hD hS hl
      rw [g_X10_copyAll_2] at h
      refine lv_iload_n hx hb dX10_copyAll_2 rfl (lv_at hl 3 rfl) ?_
      refine lv_sipush (v := 360) hx hb dX10_copyAll_3 (by decide) ?_
      refine lv_icmp_ge (tgt := 39) hx hb dX10_copyAll_6 (by decide) (fun c1 => ?_) (fun c1 => ?_)
      · replace h := q_t c1 h
        have er := q_inj h
        subst er
        exact hret _ _ _ _ (hP.sub [0, 1] rfl) (hD.sub [0, 1] rfl rfl) hS dX10_copyAll_39
      · replace h := q_f c1 h
        refine lv_aload_n hx hb dX10_copyAll_9 rfl (lv_at hl 0 rfl) ?_
        refine va_get (D := D) (ci := 10) (C := RX10) (T := TX10) (N := 33) hx hb hts iw_X10_copyAll_X10 hown hK hP 0 rfl rfl 0 (by decide) (hts _ lk_X10_copyAll_0) (fun _ h9 => h9) rfl dX10_copyAll_10 ?_
        refine lv_sipush (v := 360) hx hb dX10_copyAll_13 (by decide) ?_
        refine lv_iload_n hx hb dX10_copyAll_16 rfl (lv_at hl 2 rfl) ?_
        refine lv_imul hx hb dX10_copyAll_17 ?_
        refine lv_iload_n hx hb dX10_copyAll_18 rfl (lv_at hl 3 rfl) ?_
        refine lv_iadd hx hb dX10_copyAll_19 ?_
        refine lv_aload_n hx hb dX10_copyAll_20 rfl (lv_at hl 0 rfl) ?_
        refine va_get (D := D) (ci := 10) (C := RX10) (T := TX10) (N := 33) hx hb hts iw_X10_copyAll_X10 hown hK hP 0 rfl rfl 0 (by decide) (hts _ lk_X10_copyAll_0) (fun _ h9 => h9) rfl dX10_copyAll_21 ?_
        refine lv_sipush (v := 360) hx hb dX10_copyAll_24 (by decide) ?_
        refine lv_iload_n hx hb dX10_copyAll_27 rfl (lv_at hl 1 rfl) ?_
        refine lv_imul hx hb dX10_copyAll_28 ?_
        refine lv_iload_n hx hb dX10_copyAll_29 rfl (lv_at hl 3 rfl) ?_
        refine lv_iadd hx hb dX10_copyAll_30 ?_
        obtain ⟨hg2, h⟩ := q_g h
        refine va_iald hx hb hK hP 1 0 rfl rfl (inb_vp hg2) dX10_copyAll_31 ?_
        obtain ⟨hg3, h⟩ := q_g h
        refine va_iast hx hb hK hP hD hS 1 0 rfl rfl (inb_vp hg3) dX10_copyAll_32 (fun H locs hP hD hS => ?_)
        have hP : va_P D vwCl [(q_this, .inr (10, [.ref q_this_all, v_this_isKept, v_this_refused, .int above_, .int below_, .int at_, .int start_, .int sort_, .int value_, .int fault_, .int men_, .int gos_, v_this_ways, v_this_starts, v_this_homes, v_this_hours, v_this_froms, v_this_tos, v_this_whos, v_this_place, v_this_since, v_this_rows, v_this_few, v_this_most, v_this_parts, v_this_fewParts, v_this_mostParts, v_this_far, v_this_queue, v_this_gone, v_this_stood, v_this_trips, .long sum_])), (q_this_all, .inl (kI, 1080, .inl (upd all_ ((360 * x2) + x3).toNatClampNeg (all_ ((360 * x1) + x3).toNatClampNeg))))] H := hP
        have hD : va_D A [(q_this, .inr (10, [.ref q_this_all, v_this_isKept, v_this_refused, .int above_, .int below_, .int at_, .int start_, .int sort_, .int value_, .int fault_, .int men_, .int gos_, v_this_ways, v_this_starts, v_this_homes, v_this_hours, v_this_froms, v_this_tos, v_this_whos, v_this_place, v_this_since, v_this_rows, v_this_few, v_this_most, v_this_parts, v_this_fewParts, v_this_mostParts, v_this_far, v_this_queue, v_this_gone, v_this_stood, v_this_trips, .long sum_])), (q_this_all, .inl (kI, 1080, .inl (upd all_ ((360 * x2) + x3).toNatClampNeg (all_ ((360 * x1) + x3).toNatClampNeg))))] := hD
        refine lv_iinc (v := (x3 + 1)) (lv' := [(3, .int (x3 + 1)), (0, .ref q_this), (1, .int x1), (2, .int x2)]) hx hb dX10_copyAll_33 hl (k := 3) rfl rfl (by decide) rfl (fun ls hl => ?_)
        refine lv_goto (tgt := 2) hx hb dX10_copyAll_36 (by decide) ?_
        exact ih2 (x3 + 1) (upd all_ ((360 * x2) + x3).toNatClampNeg (all_ ((360 * x1) + x3).toNatClampNeg)) h _ _ _ (hP.sub [0, 1] rfl) (hD.sub [0, 1] rfl rfl) hS (lv_sub hl [1, 2, 3, 0] rfl)
  refine lv_iconst (v := 0) hx hb dX10_copyAll_0 (by decide) ?_
  refine lv_istore_n (lv' := [(3, .int 0), (0, .ref q_this), (1, .int x1), (2, .int x2)]) hx hb dX10_copyAll_1 rfl hl (by decide) rfl (fun ls hl => ?_)
  exact J2 N 0 all_ h _ _ _ (hP.sub [0, 1] rfl) (hD.sub [0, 1] rfl rfl) hS (lv_sub hl [1, 2, 3, 0] rfl)
abbrev rm_X10_image : Room := { frames := 1, cells := 0, slots := 0, locals := 23 }
theorem lk_X10_image_0 : Cond.fieldLink RX10 13 "OnlyPrimesModel" "isKept" "[Z" ∈ wsX10_image := List.mem_of_getElem? (i := 1) (by decide +kernel)
theorem iw_X10_image_X10 : ∀ w ∈ wsX100, w ∈ wsX10_image := by decide +kernel
theorem nd_X10_image : yX10_image.cls ≠ "java/lang/invoke/MethodHandle" ∧ yX10_image.cls ≠ "java/lang/invoke/VarHandle" ∧ (parseMethodDescriptor yX10_image.desc).map (fun d => d.parameters.length) = some 1 := by decide +kernel
theorem vd_X10_image : yX10_image.cls = RX10 ∧ yX10_image.cls ≠ "java/lang/invoke/MethodHandle" ∧ yX10_image.cls ≠ "java/lang/invoke/VarHandle" ∧ (parseMethodDescriptor yX10_image.desc).map (fun d => d.parameters.length) = some 1 := by decide +kernel
set_option maxHeartbeats 4000000 in
set_option maxRecDepth 100000 in
theorem c_X10_image (l : Launch) (D : va_G) (E : q_En) (kI kB kQ : ClassId) (q_this : Nat) (q_this_all : Nat) (q_this_isKept : Nat) (q_this_refused : Nat) (v_this_ways : Value) (v_this_starts : Value) (v_this_homes : Value) (v_this_hours : Value) (v_this_froms : Value) (v_this_tos : Value) (v_this_whos : Value) (v_this_place : Value) (v_this_since : Value) (v_this_rows : Value) (v_this_few : Value) (v_this_most : Value) (v_this_parts : Value) (v_this_fewParts : Value) (v_this_mostParts : Value) (v_this_far : Value) (v_this_queue : Value) (v_this_gone : Value) (v_this_stood : Value) (v_this_trips : Value) (above_ : Int32) (below_ : Int32) (at_ : Int32) (start_ : Int32) (sort_ : Int32) (value_ : Int32) (fault_ : Int32) (men_ : Int32) (gos_ : Int32) (sum_ : Int64) (all_ : Nat → Int32) (isKept_ : Nat → Int32) (refused_ : Nat → Int32) (x1 : Int32) (N : Nat) (r : Int32 × (Nat → Int32) × (Nat → Int32) × (Nat → Int32)) (hf : g_X10_image N all_ isKept_ refused_ x1 = some r) : CtI l D E yX10_image wsX10_image rm_X10_image (q_tys kI kB kQ) [.ref q_this, .int x1] [(q_this, .inr (10, [.ref q_this_all, .ref q_this_isKept, .ref q_this_refused, .int above_, .int below_, .int at_, .int start_, .int sort_, .int value_, .int fault_, .int men_, .int gos_, v_this_ways, v_this_starts, v_this_homes, v_this_hours, v_this_froms, v_this_tos, v_this_whos, v_this_place, v_this_since, v_this_rows, v_this_few, v_this_most, v_this_parts, v_this_fewParts, v_this_mostParts, v_this_far, v_this_queue, v_this_gone, v_this_stood, v_this_trips, .long sum_])), (q_this_all, .inl (kI, 1080, .inl all_)), (q_this_isKept, .inl (kB, 2, .inl isKept_)), (q_this_refused, .inl (kI, 3, .inl refused_))] [(q_this, .inr (10, [.ref q_this_all, .ref q_this_isKept, .ref q_this_refused, .int above_, .int below_, .int at_, .int start_, .int sort_, .int value_, .int fault_, .int men_, .int gos_, v_this_ways, v_this_starts, v_this_homes, v_this_hours, v_this_froms, v_this_tos, v_this_whos, v_this_place, v_this_since, v_this_rows, v_this_few, v_this_most, v_this_parts, v_this_fewParts, v_this_mostParts, v_this_far, v_this_queue, v_this_gone, v_this_stood, v_this_trips, .long sum_])), (q_this_all, .inl (kI, 1080, .inl r.2.1)), (q_this_isKept, .inl (kB, 2, .inl r.2.2.1)), (q_this_refused, .inl (kI, 3, .inl r.2.2.2))] r.1 := by
  refine q_enterI cX10_image 2 RX10 (by decide) rfl (Nat.le_of_ble_eq_true rfl) rfl ?_
  intro p e s m args below meth c Q A ls H hx hb hml hown hts hK hN hE hA hP hS hD hl hret
  have hl : lv_has ls 2 [(0, .ref q_this), (1, .int x1)] := hl
  have h := hf
  rw [g_X10_image] at h
  refine lv_iload_n hx hb dX10_image_0 rfl (lv_at hl 1 rfl) ?_
  refine lv_iconst (v := 0) hx hb dX10_image_1 (by decide) ?_
  refine lv_iconst (v := 1) hx hb dX10_image_2 (by decide) ?_
  obtain ⟨u3, hu3, h⟩ := q_b h
  refine q_aI (va_runS (As := [.int x1, .int 0, .int 1]) (rest := []) ⟨hx, hb, hml, hown, hts⟩ (c_X10_in l D E kI kB kQ x1 0 1 N u3 hu3 H.size) (va_cwS 3 hts gX10_image_X10_in rfl rfl rfl nd_X10_in ⟨Nat.le_of_ble_eq_true rfl, Nat.le_of_ble_eq_true rfl⟩) (q_ps hK hN hE hS hA hP hD [] rfl rfl rfl) rfl rfl hl.1 rfl (lv_room (Nat.le_of_ble_eq_true rfl)) dX10_image_3 ⟨Nat.zero_le _, Nat.zero_le _⟩) hP hD hS hA [] [0, 1, 2, 3] (Wr := [(q_this, .inr (10, [.ref q_this_all, .ref q_this_isKept, .ref q_this_refused, .int above_, .int below_, .int at_, .int start_, .int sort_, .int value_, .int fault_, .int men_, .int gos_, v_this_ways, v_this_starts, v_this_homes, v_this_hours, v_this_froms, v_this_tos, v_this_whos, v_this_place, v_this_since, v_this_rows, v_this_few, v_this_most, v_this_parts, v_this_fewParts, v_this_mostParts, v_this_far, v_this_queue, v_this_gone, v_this_stood, v_this_trips, .long sum_])), (q_this_all, .inl (kI, 1080, .inl all_)), (q_this_isKept, .inl (kB, 2, .inl isKept_)), (q_this_refused, .inl (kI, 3, .inl refused_))]) rfl rfl rfl (by decide) (fun H locs hP hD hS => ?_)
  have hP : va_P D vwCl [(q_this, .inr (10, [.ref q_this_all, .ref q_this_isKept, .ref q_this_refused, .int above_, .int below_, .int at_, .int start_, .int sort_, .int value_, .int fault_, .int men_, .int gos_, v_this_ways, v_this_starts, v_this_homes, v_this_hours, v_this_froms, v_this_tos, v_this_whos, v_this_place, v_this_since, v_this_rows, v_this_few, v_this_most, v_this_parts, v_this_fewParts, v_this_mostParts, v_this_far, v_this_queue, v_this_gone, v_this_stood, v_this_trips, .long sum_])), (q_this_all, .inl (kI, 1080, .inl all_)), (q_this_isKept, .inl (kB, 2, .inl isKept_)), (q_this_refused, .inl (kI, 3, .inl refused_))] H := hP
  have hD : va_D A [(q_this, .inr (10, [.ref q_this_all, .ref q_this_isKept, .ref q_this_refused, .int above_, .int below_, .int at_, .int start_, .int sort_, .int value_, .int fault_, .int men_, .int gos_, v_this_ways, v_this_starts, v_this_homes, v_this_hours, v_this_froms, v_this_tos, v_this_whos, v_this_place, v_this_since, v_this_rows, v_this_few, v_this_most, v_this_parts, v_this_fewParts, v_this_mostParts, v_this_far, v_this_queue, v_this_gone, v_this_stood, v_this_trips, .long sum_])), (q_this_all, .inl (kI, 1080, .inl all_)), (q_this_isKept, .inl (kB, 2, .inl isKept_)), (q_this_refused, .inl (kI, 3, .inl refused_))] := hD
  refine lv_if_ne (tgt := 16) hx hb dX10_image_6 (by decide) (fun c1 => ?_) (fun c1 => ?_)
  · replace h := q_f c1 h
    refine lv_aload_n hx hb dX10_image_16 rfl (lv_at hl 0 rfl) ?_
    refine lv_iconst (v := 0) hx hb dX10_image_17 (by decide) ?_
    refine lv_iconst (v := 1) hx hb dX10_image_18 (by decide) ?_
    refine lv_iload_n hx hb dX10_image_19 rfl (lv_at hl 1 rfl) ?_
    refine lv_iadd hx hb dX10_image_20 ?_
    obtain ⟨u21, hu21, h⟩ := q_b h
    refine q_aV (va_runV (As := [.int 0, .int (1 + x1)]) (rest := []) ⟨hx, hb, hml, hown, hts⟩ (c_X10_copyAll l D E kI kB kQ q_this q_this_all (.ref q_this_isKept) (.ref q_this_refused) v_this_ways v_this_starts v_this_homes v_this_hours v_this_froms v_this_tos v_this_whos v_this_place v_this_since v_this_rows v_this_few v_this_most v_this_parts v_this_fewParts v_this_mostParts v_this_far v_this_queue v_this_gone v_this_stood v_this_trips above_ below_ at_ start_ sort_ value_ fault_ men_ gos_ sum_ all_ 0 (1 + x1) N u21 hu21 H.size) (cwV 2 hts gX10_image_X10_copyAll rfl rfl rfl vd_X10_copyAll ⟨Nat.le_of_ble_eq_true rfl, Nat.le_of_ble_eq_true rfl⟩) (q_pv hK hN hE hS hA hP hD [0, 1] rfl rfl rfl 0 rfl (ci := 10) rfl) rfl rfl hl.1 rfl (lv_room (Nat.le_of_ble_eq_true rfl)) dX10_image_21 ⟨Nat.zero_le _, Nat.zero_le _⟩) hP hD hS hA [0, 1] [2, 3] (Wr := [(q_this_isKept, .inl (kB, 2, .inl isKept_)), (q_this_refused, .inl (kI, 3, .inl refused_))]) rfl rfl rfl (by decide) (fun H locs hP hD hS => ?_)
    have hP : va_P D vwCl [(q_this_isKept, .inl (kB, 2, .inl isKept_)), (q_this_refused, .inl (kI, 3, .inl refused_)), (q_this, .inr (10, [.ref q_this_all, .ref q_this_isKept, .ref q_this_refused, .int above_, .int below_, .int at_, .int start_, .int sort_, .int value_, .int fault_, .int men_, .int gos_, v_this_ways, v_this_starts, v_this_homes, v_this_hours, v_this_froms, v_this_tos, v_this_whos, v_this_place, v_this_since, v_this_rows, v_this_few, v_this_most, v_this_parts, v_this_fewParts, v_this_mostParts, v_this_far, v_this_queue, v_this_gone, v_this_stood, v_this_trips, .long sum_])), (q_this_all, .inl (kI, 1080, .inl u21))] H := hP
    have hD : va_D A [(q_this_isKept, .inl (kB, 2, .inl isKept_)), (q_this_refused, .inl (kI, 3, .inl refused_)), (q_this, .inr (10, [.ref q_this_all, .ref q_this_isKept, .ref q_this_refused, .int above_, .int below_, .int at_, .int start_, .int sort_, .int value_, .int fault_, .int men_, .int gos_, v_this_ways, v_this_starts, v_this_homes, v_this_hours, v_this_froms, v_this_tos, v_this_whos, v_this_place, v_this_since, v_this_rows, v_this_few, v_this_most, v_this_parts, v_this_fewParts, v_this_mostParts, v_this_far, v_this_queue, v_this_gone, v_this_stood, v_this_trips, .long sum_])), (q_this_all, .inl (kI, 1080, .inl u21))] := hD
    refine lv_aload_n hx hb dX10_image_24 rfl (lv_at hl 0 rfl) ?_
    refine va_get (D := D) (ci := 10) (C := RX10) (T := TX10) (N := 33) hx hb hts iw_X10_image_X10 hown hK hP 2 rfl rfl 1 (by decide) (hts _ lk_X10_image_0) (fun _ h9 => h9) rfl dX10_image_25 ?_
    refine lv_iload_n hx hb dX10_image_28 rfl (lv_at hl 1 rfl) ?_
    refine lv_iconst (v := 1) hx hb dX10_image_29 (by decide) ?_
    obtain ⟨hg2, h⟩ := q_g h
    refine va_zast hx hb hK hP hD hS 0 1 rfl rfl (inb_vp hg2) dX10_image_30 (fun H locs hP hD hS => ?_)
    have hP : va_P D vwCl [(q_this_isKept, .inl (kB, 2, .inl (upd isKept_ x1.toNatClampNeg (vp_nar .boolean 1)))), (q_this_refused, .inl (kI, 3, .inl refused_)), (q_this, .inr (10, [.ref q_this_all, .ref q_this_isKept, .ref q_this_refused, .int above_, .int below_, .int at_, .int start_, .int sort_, .int value_, .int fault_, .int men_, .int gos_, v_this_ways, v_this_starts, v_this_homes, v_this_hours, v_this_froms, v_this_tos, v_this_whos, v_this_place, v_this_since, v_this_rows, v_this_few, v_this_most, v_this_parts, v_this_fewParts, v_this_mostParts, v_this_far, v_this_queue, v_this_gone, v_this_stood, v_this_trips, .long sum_])), (q_this_all, .inl (kI, 1080, .inl u21))] H := hP
    have hD : va_D A [(q_this_isKept, .inl (kB, 2, .inl (upd isKept_ x1.toNatClampNeg (vp_nar .boolean 1)))), (q_this_refused, .inl (kI, 3, .inl refused_)), (q_this, .inr (10, [.ref q_this_all, .ref q_this_isKept, .ref q_this_refused, .int above_, .int below_, .int at_, .int start_, .int sort_, .int value_, .int fault_, .int men_, .int gos_, v_this_ways, v_this_starts, v_this_homes, v_this_hours, v_this_froms, v_this_tos, v_this_whos, v_this_place, v_this_since, v_this_rows, v_this_few, v_this_most, v_this_parts, v_this_fewParts, v_this_mostParts, v_this_far, v_this_queue, v_this_gone, v_this_stood, v_this_trips, .long sum_])), (q_this_all, .inl (kI, 1080, .inl u21))] := hD
    refine lv_iconst (v := 1) hx hb dX10_image_31 (by decide) ?_
    have er := q_inj h
    subst er
    exact hret _ _ _ _ (hP.sub [2, 3, 0, 1] rfl) (hD.sub [2, 3, 0, 1] rfl rfl) hS dX10_image_32
  · replace h := q_t c1 h
    refine lv_aload_n hx hb dX10_image_9 rfl (lv_at hl 0 rfl) ?_
    refine lv_bipush (v := (-2)) hx hb dX10_image_10 (by decide) ?_
    obtain ⟨u12, hu12, h⟩ := q_b h
    refine q_aI (va_runV (As := [.int (-2)]) (rest := []) ⟨hx, hb, hml, hown, hts⟩ (c_X10_refuse l D E kI kB kQ q_this q_this_refused (.ref q_this_all) (.ref q_this_isKept) v_this_ways v_this_starts v_this_homes v_this_hours v_this_froms v_this_tos v_this_whos v_this_place v_this_since v_this_rows v_this_few v_this_most v_this_parts v_this_fewParts v_this_mostParts v_this_far v_this_queue v_this_gone v_this_stood v_this_trips above_ below_ at_ start_ sort_ value_ fault_ men_ gos_ sum_ refused_ (-2) N u12 hu12 H.size) (cwV 1 hts gX10_image_X10_refuse rfl rfl rfl vd_X10_refuse ⟨Nat.le_of_ble_eq_true rfl, Nat.le_of_ble_eq_true rfl⟩) (q_pv hK hN hE hS hA hP hD [0, 3] rfl rfl rfl 0 rfl (ci := 10) rfl) rfl rfl hl.1 rfl (lv_room (Nat.le_of_ble_eq_true rfl)) dX10_image_12 ⟨Nat.zero_le _, Nat.zero_le _⟩) hP hD hS hA [0, 3] [1, 2] (Wr := [(q_this_all, .inl (kI, 1080, .inl all_)), (q_this_isKept, .inl (kB, 2, .inl isKept_))]) rfl rfl rfl (by decide) (fun H locs hP hD hS => ?_)
    have hP : va_P D vwCl [(q_this_all, .inl (kI, 1080, .inl all_)), (q_this_isKept, .inl (kB, 2, .inl isKept_)), (q_this, .inr (10, [.ref q_this_all, .ref q_this_isKept, .ref q_this_refused, .int above_, .int below_, .int at_, .int start_, .int sort_, .int value_, .int fault_, .int men_, .int gos_, v_this_ways, v_this_starts, v_this_homes, v_this_hours, v_this_froms, v_this_tos, v_this_whos, v_this_place, v_this_since, v_this_rows, v_this_few, v_this_most, v_this_parts, v_this_fewParts, v_this_mostParts, v_this_far, v_this_queue, v_this_gone, v_this_stood, v_this_trips, .long sum_])), (q_this_refused, .inl (kI, 3, .inl u12.2))] H := hP
    have hD : va_D A [(q_this_all, .inl (kI, 1080, .inl all_)), (q_this_isKept, .inl (kB, 2, .inl isKept_)), (q_this, .inr (10, [.ref q_this_all, .ref q_this_isKept, .ref q_this_refused, .int above_, .int below_, .int at_, .int start_, .int sort_, .int value_, .int fault_, .int men_, .int gos_, v_this_ways, v_this_starts, v_this_homes, v_this_hours, v_this_froms, v_this_tos, v_this_whos, v_this_place, v_this_since, v_this_rows, v_this_few, v_this_most, v_this_parts, v_this_fewParts, v_this_mostParts, v_this_far, v_this_queue, v_this_gone, v_this_stood, v_this_trips, .long sum_])), (q_this_refused, .inl (kI, 3, .inl u12.2))] := hD
    have er := q_inj h
    subst er
    exact hret _ _ _ _ (hP.sub [2, 0, 1, 3] rfl) (hD.sub [2, 0, 1, 3] rfl rfl) hS dX10_image_15
abbrev rm_X10_from : Room := { frames := 1, cells := 0, slots := 0, locals := 23 }
theorem lk_X10_from_0 : Cond.fieldLink RX10 13 "OnlyPrimesModel" "isKept" "[Z" ∈ wsX10_from := List.mem_of_getElem? (i := 1) (by decide +kernel)
theorem iw_X10_from_X10 : ∀ w ∈ wsX100, w ∈ wsX10_from := by decide +kernel
theorem nd_X10_from : yX10_from.cls ≠ "java/lang/invoke/MethodHandle" ∧ yX10_from.cls ≠ "java/lang/invoke/VarHandle" ∧ (parseMethodDescriptor yX10_from.desc).map (fun d => d.parameters.length) = some 1 := by decide +kernel
theorem vd_X10_from : yX10_from.cls = RX10 ∧ yX10_from.cls ≠ "java/lang/invoke/MethodHandle" ∧ yX10_from.cls ≠ "java/lang/invoke/VarHandle" ∧ (parseMethodDescriptor yX10_from.desc).map (fun d => d.parameters.length) = some 1 := by decide +kernel
set_option maxHeartbeats 4000000 in
set_option maxRecDepth 100000 in
theorem c_X10_from (l : Launch) (D : va_G) (E : q_En) (kI kB kQ : ClassId) (q_this : Nat) (q_this_all : Nat) (q_this_isKept : Nat) (q_this_refused : Nat) (v_this_ways : Value) (v_this_starts : Value) (v_this_homes : Value) (v_this_hours : Value) (v_this_froms : Value) (v_this_tos : Value) (v_this_whos : Value) (v_this_place : Value) (v_this_since : Value) (v_this_rows : Value) (v_this_few : Value) (v_this_most : Value) (v_this_parts : Value) (v_this_fewParts : Value) (v_this_mostParts : Value) (v_this_far : Value) (v_this_queue : Value) (v_this_gone : Value) (v_this_stood : Value) (v_this_trips : Value) (above_ : Int32) (below_ : Int32) (at_ : Int32) (start_ : Int32) (sort_ : Int32) (value_ : Int32) (fault_ : Int32) (men_ : Int32) (gos_ : Int32) (sum_ : Int64) (all_ : Nat → Int32) (isKept_ : Nat → Int32) (refused_ : Nat → Int32) (x1 : Int32) (N : Nat) (r : Int32 × (Nat → Int32) × (Nat → Int32)) (hf : g_X10_from N all_ isKept_ refused_ x1 = some r) : CtI l D E yX10_from wsX10_from rm_X10_from (q_tys kI kB kQ) [.ref q_this, .int x1] [(q_this, .inr (10, [.ref q_this_all, .ref q_this_isKept, .ref q_this_refused, .int above_, .int below_, .int at_, .int start_, .int sort_, .int value_, .int fault_, .int men_, .int gos_, v_this_ways, v_this_starts, v_this_homes, v_this_hours, v_this_froms, v_this_tos, v_this_whos, v_this_place, v_this_since, v_this_rows, v_this_few, v_this_most, v_this_parts, v_this_fewParts, v_this_mostParts, v_this_far, v_this_queue, v_this_gone, v_this_stood, v_this_trips, .long sum_])), (q_this_all, .inl (kI, 1080, .inl all_)), (q_this_isKept, .inl (kB, 2, .inl isKept_)), (q_this_refused, .inl (kI, 3, .inl refused_))] [(q_this, .inr (10, [.ref q_this_all, .ref q_this_isKept, .ref q_this_refused, .int above_, .int below_, .int at_, .int start_, .int sort_, .int value_, .int fault_, .int men_, .int gos_, v_this_ways, v_this_starts, v_this_homes, v_this_hours, v_this_froms, v_this_tos, v_this_whos, v_this_place, v_this_since, v_this_rows, v_this_few, v_this_most, v_this_parts, v_this_fewParts, v_this_mostParts, v_this_far, v_this_queue, v_this_gone, v_this_stood, v_this_trips, .long sum_])), (q_this_all, .inl (kI, 1080, .inl r.2.1)), (q_this_isKept, .inl (kB, 2, .inl isKept_)), (q_this_refused, .inl (kI, 3, .inl r.2.2))] r.1 := by
  refine q_enterI cX10_from 2 RX10 (by decide) rfl (Nat.le_of_ble_eq_true rfl) rfl ?_
  intro p e s m args below meth c Q A ls H hx hb hml hown hts hK hN hE hA hP hS hD hl hret
  have hl : lv_has ls 2 [(0, .ref q_this), (1, .int x1)] := hl
  have h := hf
  rw [g_X10_from] at h
  have J18 : ∀ (all_ : Nat → Int32) (refused_ : Nat → Int32), g_X10_from_18 x1 all_ refused_ = some r → ∀ (H : Heap) (locs : List Loc) (ls : Array Slot), va_P D vwCl [(q_this, .inr (10, [.ref q_this_all, .ref q_this_isKept, .ref q_this_refused, .int above_, .int below_, .int at_, .int start_, .int sort_, .int value_, .int fault_, .int men_, .int gos_, v_this_ways, v_this_starts, v_this_homes, v_this_hours, v_this_froms, v_this_tos, v_this_whos, v_this_place, v_this_since, v_this_rows, v_this_few, v_this_most, v_this_parts, v_this_fewParts, v_this_mostParts, v_this_far, v_this_queue, v_this_gone, v_this_stood, v_this_trips, .long sum_])), (q_this_all, .inl (kI, 1080, .inl all_)), (q_this_isKept, .inl (kB, 2, .inl isKept_)), (q_this_refused, .inl (kI, 3, .inl refused_))] H → va_D A [(q_this, .inr (10, [.ref q_this_all, .ref q_this_isKept, .ref q_this_refused, .int above_, .int below_, .int at_, .int start_, .int sort_, .int value_, .int fault_, .int men_, .int gos_, v_this_ways, v_this_starts, v_this_homes, v_this_hours, v_this_froms, v_this_tos, v_this_whos, v_this_place, v_this_since, v_this_rows, v_this_few, v_this_most, v_this_parts, v_this_fewParts, v_this_mostParts, v_this_far, v_this_queue, v_this_gone, v_this_stood, v_this_trips, .long sum_])), (q_this_all, .inl (kI, 1080, .inl all_)), (q_this_isKept, .inl (kB, 2, .inl isKept_)), (q_this_refused, .inl (kI, 3, .inl refused_))] → va_S A s.heap H locs → lv_has ls 2 [(0, .ref q_this), (1, .int x1)] → W p l e rm_X10_from s m args below meth c H locs 0 0 Q (F0 m 18 ls []) := by
    intro all_ refused_ h H locs ls hP hD hS hl
    rw [g_X10_from_18] at h
    refine lv_aload_n hx hb dX10_from_18 rfl (lv_at hl 0 rfl) ?_
    refine lv_iload_n hx hb dX10_from_19 rfl (lv_at hl 1 rfl) ?_
    refine lv_iconst (v := 0) hx hb dX10_from_20 (by decide) ?_
    refine lv_iconst (v := 1) hx hb dX10_from_21 (by decide) ?_
    obtain ⟨u22, hu22, h⟩ := q_b h
    refine q_aI (va_runS (As := [.int x1, .int 0, .int 1]) (rest := [.ref q_this]) ⟨hx, hb, hml, hown, hts⟩ (c_X10_in l D E kI kB kQ x1 0 1 N u22 hu22 H.size) (va_cwS 3 hts gX10_from_X10_in rfl rfl rfl nd_X10_in ⟨Nat.le_of_ble_eq_true rfl, Nat.le_of_ble_eq_true rfl⟩) (q_ps hK hN hE hS hA hP hD [] rfl rfl rfl) rfl rfl hl.1 rfl (lv_room (Nat.le_of_ble_eq_true rfl)) dX10_from_22 ⟨Nat.zero_le _, Nat.zero_le _⟩) hP hD hS hA [] [0, 1, 2, 3] (Wr := [(q_this, .inr (10, [.ref q_this_all, .ref q_this_isKept, .ref q_this_refused, .int above_, .int below_, .int at_, .int start_, .int sort_, .int value_, .int fault_, .int men_, .int gos_, v_this_ways, v_this_starts, v_this_homes, v_this_hours, v_this_froms, v_this_tos, v_this_whos, v_this_place, v_this_since, v_this_rows, v_this_few, v_this_most, v_this_parts, v_this_fewParts, v_this_mostParts, v_this_far, v_this_queue, v_this_gone, v_this_stood, v_this_trips, .long sum_])), (q_this_all, .inl (kI, 1080, .inl all_)), (q_this_isKept, .inl (kB, 2, .inl isKept_)), (q_this_refused, .inl (kI, 3, .inl refused_))]) rfl rfl rfl (by decide) (fun H locs hP hD hS => ?_)
    have hP : va_P D vwCl [(q_this, .inr (10, [.ref q_this_all, .ref q_this_isKept, .ref q_this_refused, .int above_, .int below_, .int at_, .int start_, .int sort_, .int value_, .int fault_, .int men_, .int gos_, v_this_ways, v_this_starts, v_this_homes, v_this_hours, v_this_froms, v_this_tos, v_this_whos, v_this_place, v_this_since, v_this_rows, v_this_few, v_this_most, v_this_parts, v_this_fewParts, v_this_mostParts, v_this_far, v_this_queue, v_this_gone, v_this_stood, v_this_trips, .long sum_])), (q_this_all, .inl (kI, 1080, .inl all_)), (q_this_isKept, .inl (kB, 2, .inl isKept_)), (q_this_refused, .inl (kI, 3, .inl refused_))] H := hP
    have hD : va_D A [(q_this, .inr (10, [.ref q_this_all, .ref q_this_isKept, .ref q_this_refused, .int above_, .int below_, .int at_, .int start_, .int sort_, .int value_, .int fault_, .int men_, .int gos_, v_this_ways, v_this_starts, v_this_homes, v_this_hours, v_this_froms, v_this_tos, v_this_whos, v_this_place, v_this_since, v_this_rows, v_this_few, v_this_most, v_this_parts, v_this_fewParts, v_this_mostParts, v_this_far, v_this_queue, v_this_gone, v_this_stood, v_this_trips, .long sum_])), (q_this_all, .inl (kI, 1080, .inl all_)), (q_this_isKept, .inl (kB, 2, .inl isKept_)), (q_this_refused, .inl (kI, 3, .inl refused_))] := hD
    refine lv_if_eq (tgt := 33) hx hb dX10_from_25 (by decide) (fun c1 => ?_) (fun c1 => ?_)
    · replace h := q_t c1 h
      refine lv_bipush (v := (-2)) hx hb dX10_from_33 (by decide) ?_
      obtain ⟨u35, hu35, h⟩ := q_b h
      refine q_aI (va_runV (As := [.int (-2)]) (rest := []) ⟨hx, hb, hml, hown, hts⟩ (c_X10_refuse l D E kI kB kQ q_this q_this_refused (.ref q_this_all) (.ref q_this_isKept) v_this_ways v_this_starts v_this_homes v_this_hours v_this_froms v_this_tos v_this_whos v_this_place v_this_since v_this_rows v_this_few v_this_most v_this_parts v_this_fewParts v_this_mostParts v_this_far v_this_queue v_this_gone v_this_stood v_this_trips above_ below_ at_ start_ sort_ value_ fault_ men_ gos_ sum_ refused_ (-2) N u35 hu35 H.size) (cwV 1 hts gX10_from_X10_refuse rfl rfl rfl vd_X10_refuse ⟨Nat.le_of_ble_eq_true rfl, Nat.le_of_ble_eq_true rfl⟩) (q_pv hK hN hE hS hA hP hD [0, 3] rfl rfl rfl 0 rfl (ci := 10) rfl) rfl rfl hl.1 rfl (lv_room (Nat.le_of_ble_eq_true rfl)) dX10_from_35 ⟨Nat.zero_le _, Nat.zero_le _⟩) hP hD hS hA [0, 3] [1, 2] (Wr := [(q_this_all, .inl (kI, 1080, .inl all_)), (q_this_isKept, .inl (kB, 2, .inl isKept_))]) rfl rfl rfl (by decide) (fun H locs hP hD hS => ?_)
      have hP : va_P D vwCl [(q_this_all, .inl (kI, 1080, .inl all_)), (q_this_isKept, .inl (kB, 2, .inl isKept_)), (q_this, .inr (10, [.ref q_this_all, .ref q_this_isKept, .ref q_this_refused, .int above_, .int below_, .int at_, .int start_, .int sort_, .int value_, .int fault_, .int men_, .int gos_, v_this_ways, v_this_starts, v_this_homes, v_this_hours, v_this_froms, v_this_tos, v_this_whos, v_this_place, v_this_since, v_this_rows, v_this_few, v_this_most, v_this_parts, v_this_fewParts, v_this_mostParts, v_this_far, v_this_queue, v_this_gone, v_this_stood, v_this_trips, .long sum_])), (q_this_refused, .inl (kI, 3, .inl u35.2))] H := hP
      have hD : va_D A [(q_this_all, .inl (kI, 1080, .inl all_)), (q_this_isKept, .inl (kB, 2, .inl isKept_)), (q_this, .inr (10, [.ref q_this_all, .ref q_this_isKept, .ref q_this_refused, .int above_, .int below_, .int at_, .int start_, .int sort_, .int value_, .int fault_, .int men_, .int gos_, v_this_ways, v_this_starts, v_this_homes, v_this_hours, v_this_froms, v_this_tos, v_this_whos, v_this_place, v_this_since, v_this_rows, v_this_few, v_this_most, v_this_parts, v_this_fewParts, v_this_mostParts, v_this_far, v_this_queue, v_this_gone, v_this_stood, v_this_trips, .long sum_])), (q_this_refused, .inl (kI, 3, .inl u35.2))] := hD
      have er := q_inj h
      subst er
      exact hret _ _ _ _ (hP.sub [2, 0, 1, 3] rfl) (hD.sub [2, 0, 1, 3] rfl rfl) hS dX10_from_38
    · replace h := q_f c1 h
      refine lv_bipush (v := (-3)) hx hb dX10_from_28 (by decide) ?_
      refine lv_goto (tgt := 35) hx hb dX10_from_30 (by decide) ?_
      obtain ⟨u35, hu35, h⟩ := q_b h
      refine q_aI (va_runV (As := [.int (-3)]) (rest := []) ⟨hx, hb, hml, hown, hts⟩ (c_X10_refuse l D E kI kB kQ q_this q_this_refused (.ref q_this_all) (.ref q_this_isKept) v_this_ways v_this_starts v_this_homes v_this_hours v_this_froms v_this_tos v_this_whos v_this_place v_this_since v_this_rows v_this_few v_this_most v_this_parts v_this_fewParts v_this_mostParts v_this_far v_this_queue v_this_gone v_this_stood v_this_trips above_ below_ at_ start_ sort_ value_ fault_ men_ gos_ sum_ refused_ (-3) N u35 hu35 H.size) (cwV 1 hts gX10_from_X10_refuse rfl rfl rfl vd_X10_refuse ⟨Nat.le_of_ble_eq_true rfl, Nat.le_of_ble_eq_true rfl⟩) (q_pv hK hN hE hS hA hP hD [0, 3] rfl rfl rfl 0 rfl (ci := 10) rfl) rfl rfl hl.1 rfl (lv_room (Nat.le_of_ble_eq_true rfl)) dX10_from_35 ⟨Nat.zero_le _, Nat.zero_le _⟩) hP hD hS hA [0, 3] [1, 2] (Wr := [(q_this_all, .inl (kI, 1080, .inl all_)), (q_this_isKept, .inl (kB, 2, .inl isKept_))]) rfl rfl rfl (by decide) (fun H locs hP hD hS => ?_)
      have hP : va_P D vwCl [(q_this_all, .inl (kI, 1080, .inl all_)), (q_this_isKept, .inl (kB, 2, .inl isKept_)), (q_this, .inr (10, [.ref q_this_all, .ref q_this_isKept, .ref q_this_refused, .int above_, .int below_, .int at_, .int start_, .int sort_, .int value_, .int fault_, .int men_, .int gos_, v_this_ways, v_this_starts, v_this_homes, v_this_hours, v_this_froms, v_this_tos, v_this_whos, v_this_place, v_this_since, v_this_rows, v_this_few, v_this_most, v_this_parts, v_this_fewParts, v_this_mostParts, v_this_far, v_this_queue, v_this_gone, v_this_stood, v_this_trips, .long sum_])), (q_this_refused, .inl (kI, 3, .inl u35.2))] H := hP
      have hD : va_D A [(q_this_all, .inl (kI, 1080, .inl all_)), (q_this_isKept, .inl (kB, 2, .inl isKept_)), (q_this, .inr (10, [.ref q_this_all, .ref q_this_isKept, .ref q_this_refused, .int above_, .int below_, .int at_, .int start_, .int sort_, .int value_, .int fault_, .int men_, .int gos_, v_this_ways, v_this_starts, v_this_homes, v_this_hours, v_this_froms, v_this_tos, v_this_whos, v_this_place, v_this_since, v_this_rows, v_this_few, v_this_most, v_this_parts, v_this_fewParts, v_this_mostParts, v_this_far, v_this_queue, v_this_gone, v_this_stood, v_this_trips, .long sum_])), (q_this_refused, .inl (kI, 3, .inl u35.2))] := hD
      have er := q_inj h
      subst er
      exact hret _ _ _ _ (hP.sub [2, 0, 1, 3] rfl) (hD.sub [2, 0, 1, 3] rfl rfl) hS dX10_from_38
  refine lv_iload_n hx hb dX10_from_0 rfl (lv_at hl 1 rfl) ?_
  refine lv_iconst (v := 0) hx hb dX10_from_1 (by decide) ?_
  refine lv_iconst (v := 1) hx hb dX10_from_2 (by decide) ?_
  obtain ⟨u3, hu3, h⟩ := q_b h
  refine q_aI (va_runS (As := [.int x1, .int 0, .int 1]) (rest := []) ⟨hx, hb, hml, hown, hts⟩ (c_X10_in l D E kI kB kQ x1 0 1 N u3 hu3 H.size) (va_cwS 3 hts gX10_from_X10_in rfl rfl rfl nd_X10_in ⟨Nat.le_of_ble_eq_true rfl, Nat.le_of_ble_eq_true rfl⟩) (q_ps hK hN hE hS hA hP hD [] rfl rfl rfl) rfl rfl hl.1 rfl (lv_room (Nat.le_of_ble_eq_true rfl)) dX10_from_3 ⟨Nat.zero_le _, Nat.zero_le _⟩) hP hD hS hA [] [0, 1, 2, 3] (Wr := [(q_this, .inr (10, [.ref q_this_all, .ref q_this_isKept, .ref q_this_refused, .int above_, .int below_, .int at_, .int start_, .int sort_, .int value_, .int fault_, .int men_, .int gos_, v_this_ways, v_this_starts, v_this_homes, v_this_hours, v_this_froms, v_this_tos, v_this_whos, v_this_place, v_this_since, v_this_rows, v_this_few, v_this_most, v_this_parts, v_this_fewParts, v_this_mostParts, v_this_far, v_this_queue, v_this_gone, v_this_stood, v_this_trips, .long sum_])), (q_this_all, .inl (kI, 1080, .inl all_)), (q_this_isKept, .inl (kB, 2, .inl isKept_)), (q_this_refused, .inl (kI, 3, .inl refused_))]) rfl rfl rfl (by decide) (fun H locs hP hD hS => ?_)
  have hP : va_P D vwCl [(q_this, .inr (10, [.ref q_this_all, .ref q_this_isKept, .ref q_this_refused, .int above_, .int below_, .int at_, .int start_, .int sort_, .int value_, .int fault_, .int men_, .int gos_, v_this_ways, v_this_starts, v_this_homes, v_this_hours, v_this_froms, v_this_tos, v_this_whos, v_this_place, v_this_since, v_this_rows, v_this_few, v_this_most, v_this_parts, v_this_fewParts, v_this_mostParts, v_this_far, v_this_queue, v_this_gone, v_this_stood, v_this_trips, .long sum_])), (q_this_all, .inl (kI, 1080, .inl all_)), (q_this_isKept, .inl (kB, 2, .inl isKept_)), (q_this_refused, .inl (kI, 3, .inl refused_))] H := hP
  have hD : va_D A [(q_this, .inr (10, [.ref q_this_all, .ref q_this_isKept, .ref q_this_refused, .int above_, .int below_, .int at_, .int start_, .int sort_, .int value_, .int fault_, .int men_, .int gos_, v_this_ways, v_this_starts, v_this_homes, v_this_hours, v_this_froms, v_this_tos, v_this_whos, v_this_place, v_this_since, v_this_rows, v_this_few, v_this_most, v_this_parts, v_this_fewParts, v_this_mostParts, v_this_far, v_this_queue, v_this_gone, v_this_stood, v_this_trips, .long sum_])), (q_this_all, .inl (kI, 1080, .inl all_)), (q_this_isKept, .inl (kB, 2, .inl isKept_)), (q_this_refused, .inl (kI, 3, .inl refused_))] := hD
  refine lv_if_eq (tgt := 18) hx hb dX10_from_6 (by decide) (fun c2 => ?_) (fun c2 => ?_)
  · replace h := q_t c2 h
    exact J18 all_ refused_ h _ _ _ (hP.sub [0, 1, 2, 3] rfl) (hD.sub [0, 1, 2, 3] rfl rfl) hS (lv_sub hl [0, 1] rfl)
  · replace h := q_f c2 h
    refine lv_aload_n hx hb dX10_from_9 rfl (lv_at hl 0 rfl) ?_
    refine va_get (D := D) (ci := 10) (C := RX10) (T := TX10) (N := 33) hx hb hts iw_X10_from_X10 hown hK hP 0 rfl rfl 1 (by decide) (hts _ lk_X10_from_0) (fun _ h9 => h9) rfl dX10_from_10 ?_
    refine lv_iload_n hx hb dX10_from_13 rfl (lv_at hl 1 rfl) ?_
    obtain ⟨hg3, h⟩ := q_g h
    refine va_zald hx hb hK hP 2 1 rfl rfl (inb_vp hg3) dX10_from_14 ?_
    refine lv_if_ne (tgt := 39) hx hb dX10_from_15 (by decide) (fun c4 => ?_) (fun c4 => ?_)
    · replace h := q_f c4 h
      refine lv_aload_n hx hb dX10_from_39 rfl (lv_at hl 0 rfl) ?_
      refine lv_iconst (v := 1) hx hb dX10_from_40 (by decide) ?_
      refine lv_iload_n hx hb dX10_from_41 rfl (lv_at hl 1 rfl) ?_
      refine lv_iadd hx hb dX10_from_42 ?_
      refine lv_iconst (v := 0) hx hb dX10_from_43 (by decide) ?_
      obtain ⟨u44, hu44, h⟩ := q_b h
      refine q_aV (va_runV (As := [.int (1 + x1), .int 0]) (rest := []) ⟨hx, hb, hml, hown, hts⟩ (c_X10_copyAll l D E kI kB kQ q_this q_this_all (.ref q_this_isKept) (.ref q_this_refused) v_this_ways v_this_starts v_this_homes v_this_hours v_this_froms v_this_tos v_this_whos v_this_place v_this_since v_this_rows v_this_few v_this_most v_this_parts v_this_fewParts v_this_mostParts v_this_far v_this_queue v_this_gone v_this_stood v_this_trips above_ below_ at_ start_ sort_ value_ fault_ men_ gos_ sum_ all_ (1 + x1) 0 N u44 hu44 H.size) (cwV 2 hts gX10_from_X10_copyAll rfl rfl rfl vd_X10_copyAll ⟨Nat.le_of_ble_eq_true rfl, Nat.le_of_ble_eq_true rfl⟩) (q_pv hK hN hE hS hA hP hD [0, 1] rfl rfl rfl 0 rfl (ci := 10) rfl) rfl rfl hl.1 rfl (lv_room (Nat.le_of_ble_eq_true rfl)) dX10_from_44 ⟨Nat.zero_le _, Nat.zero_le _⟩) hP hD hS hA [0, 1] [2, 3] (Wr := [(q_this_isKept, .inl (kB, 2, .inl isKept_)), (q_this_refused, .inl (kI, 3, .inl refused_))]) rfl rfl rfl (by decide) (fun H locs hP hD hS => ?_)
      have hP : va_P D vwCl [(q_this_isKept, .inl (kB, 2, .inl isKept_)), (q_this_refused, .inl (kI, 3, .inl refused_)), (q_this, .inr (10, [.ref q_this_all, .ref q_this_isKept, .ref q_this_refused, .int above_, .int below_, .int at_, .int start_, .int sort_, .int value_, .int fault_, .int men_, .int gos_, v_this_ways, v_this_starts, v_this_homes, v_this_hours, v_this_froms, v_this_tos, v_this_whos, v_this_place, v_this_since, v_this_rows, v_this_few, v_this_most, v_this_parts, v_this_fewParts, v_this_mostParts, v_this_far, v_this_queue, v_this_gone, v_this_stood, v_this_trips, .long sum_])), (q_this_all, .inl (kI, 1080, .inl u44))] H := hP
      have hD : va_D A [(q_this_isKept, .inl (kB, 2, .inl isKept_)), (q_this_refused, .inl (kI, 3, .inl refused_)), (q_this, .inr (10, [.ref q_this_all, .ref q_this_isKept, .ref q_this_refused, .int above_, .int below_, .int at_, .int start_, .int sort_, .int value_, .int fault_, .int men_, .int gos_, v_this_ways, v_this_starts, v_this_homes, v_this_hours, v_this_froms, v_this_tos, v_this_whos, v_this_place, v_this_since, v_this_rows, v_this_few, v_this_most, v_this_parts, v_this_fewParts, v_this_mostParts, v_this_far, v_this_queue, v_this_gone, v_this_stood, v_this_trips, .long sum_])), (q_this_all, .inl (kI, 1080, .inl u44))] := hD
      refine lv_iconst (v := 1) hx hb dX10_from_47 (by decide) ?_
      have er := q_inj h
      subst er
      exact hret _ _ _ _ (hP.sub [2, 3, 0, 1] rfl) (hD.sub [2, 3, 0, 1] rfl rfl) hS dX10_from_48
    · replace h := q_t c4 h
      exact J18 all_ refused_ h _ _ _ (hP.sub [0, 1, 2, 3] rfl) (hD.sub [0, 1, 2, 3] rfl rfl) hS (lv_sub hl [0, 1] rfl)
abbrev rm_X10_status : Room := { frames := 2, cells := 0, slots := 0, locals := 43 }
theorem lk_X10_status_0 : Cond.fieldLink RX10 17 "OnlyPrimesModel" "refused" "[I" ∈ wsX10_status := List.mem_of_getElem? (i := 1) (by decide +kernel)
theorem iw_X10_status_X10 : ∀ w ∈ wsX100, w ∈ wsX10_status := by decide +kernel
theorem nd_X10_status : yX10_status.cls ≠ "java/lang/invoke/MethodHandle" ∧ yX10_status.cls ≠ "java/lang/invoke/VarHandle" ∧ (parseMethodDescriptor yX10_status.desc).map (fun d => d.parameters.length) = some 1 := by decide +kernel
theorem vd_X10_status : yX10_status.cls = RX10 ∧ yX10_status.cls ≠ "java/lang/invoke/MethodHandle" ∧ yX10_status.cls ≠ "java/lang/invoke/VarHandle" ∧ (parseMethodDescriptor yX10_status.desc).map (fun d => d.parameters.length) = some 1 := by decide +kernel
set_option maxHeartbeats 4000000 in
set_option maxRecDepth 100000 in
theorem c_X10_status (l : Launch) (D : va_G) (E : q_En) (kI kB kQ : ClassId) (q_this : Nat) (q_this_refused : Nat) (v_this_all : Value) (v_this_isKept : Value) (v_this_ways : Value) (v_this_starts : Value) (v_this_homes : Value) (v_this_hours : Value) (v_this_froms : Value) (v_this_tos : Value) (v_this_whos : Value) (v_this_place : Value) (v_this_since : Value) (v_this_rows : Value) (v_this_few : Value) (v_this_most : Value) (v_this_parts : Value) (v_this_fewParts : Value) (v_this_mostParts : Value) (v_this_far : Value) (v_this_queue : Value) (v_this_gone : Value) (v_this_stood : Value) (v_this_trips : Value) (above_ : Int32) (below_ : Int32) (at_ : Int32) (start_ : Int32) (sort_ : Int32) (value_ : Int32) (fault_ : Int32) (men_ : Int32) (gos_ : Int32) (sum_ : Int64) (refused_ : Nat → Int32) (x1 : Int32) (N : Nat) (r : Int32 × (Nat → Int32)) (hf : g_X10_status refused_ x1 = some r) : CtI l D E yX10_status wsX10_status rm_X10_status (q_tys kI kB kQ) [.ref q_this, .int x1] [(q_this, .inr (10, [v_this_all, v_this_isKept, .ref q_this_refused, .int above_, .int below_, .int at_, .int start_, .int sort_, .int value_, .int fault_, .int men_, .int gos_, v_this_ways, v_this_starts, v_this_homes, v_this_hours, v_this_froms, v_this_tos, v_this_whos, v_this_place, v_this_since, v_this_rows, v_this_few, v_this_most, v_this_parts, v_this_fewParts, v_this_mostParts, v_this_far, v_this_queue, v_this_gone, v_this_stood, v_this_trips, .long sum_])), (q_this_refused, .inl (kI, 3, .inl refused_))] [(q_this, .inr (10, [v_this_all, v_this_isKept, .ref q_this_refused, .int above_, .int below_, .int at_, .int start_, .int sort_, .int value_, .int fault_, .int men_, .int gos_, v_this_ways, v_this_starts, v_this_homes, v_this_hours, v_this_froms, v_this_tos, v_this_whos, v_this_place, v_this_since, v_this_rows, v_this_few, v_this_most, v_this_parts, v_this_fewParts, v_this_mostParts, v_this_far, v_this_queue, v_this_gone, v_this_stood, v_this_trips, .long sum_])), (q_this_refused, .inl (kI, 3, .inl r.2))] r.1 := by
  refine q_enterI cX10_status 2 RX10 (by decide) rfl (Nat.le_of_ble_eq_true rfl) rfl ?_
  intro p e s m args below meth c Q A ls H hx hb hml hown hts hK hN hE hA hP hS hD hl hret
  have hl : lv_has ls 2 [(0, .ref q_this), (1, .int x1)] := hl
  have h := hf
  rw [g_X10_status] at h
  refine lv_iload_n hx hb dX10_status_0 rfl (lv_at hl 1 rfl) ?_
  refine lv_iconst (v := 0) hx hb dX10_status_1 (by decide) ?_
  refine lv_iconst (v := 2) hx hb dX10_status_2 (by decide) ?_
  obtain ⟨u3, hu3, h⟩ := q_b h
  refine q_aI (va_runS (As := [.int x1, .int 0, .int 2]) (rest := []) ⟨hx, hb, hml, hown, hts⟩ (c_X10_in l D E kI kB kQ x1 0 2 N u3 hu3 H.size) (va_cwS 3 hts gX10_status_X10_in rfl rfl rfl nd_X10_in ⟨Nat.le_of_ble_eq_true rfl, Nat.le_of_ble_eq_true rfl⟩) (q_ps hK hN hE hS hA hP hD [] rfl rfl rfl) rfl rfl hl.1 rfl (lv_room (Nat.le_of_ble_eq_true rfl)) dX10_status_3 ⟨Nat.zero_le _, Nat.zero_le _⟩) hP hD hS hA [] [0, 1] (Wr := [(q_this, .inr (10, [v_this_all, v_this_isKept, .ref q_this_refused, .int above_, .int below_, .int at_, .int start_, .int sort_, .int value_, .int fault_, .int men_, .int gos_, v_this_ways, v_this_starts, v_this_homes, v_this_hours, v_this_froms, v_this_tos, v_this_whos, v_this_place, v_this_since, v_this_rows, v_this_few, v_this_most, v_this_parts, v_this_fewParts, v_this_mostParts, v_this_far, v_this_queue, v_this_gone, v_this_stood, v_this_trips, .long sum_])), (q_this_refused, .inl (kI, 3, .inl refused_))]) rfl rfl rfl (by decide) (fun H locs hP hD hS => ?_)
  have hP : va_P D vwCl [(q_this, .inr (10, [v_this_all, v_this_isKept, .ref q_this_refused, .int above_, .int below_, .int at_, .int start_, .int sort_, .int value_, .int fault_, .int men_, .int gos_, v_this_ways, v_this_starts, v_this_homes, v_this_hours, v_this_froms, v_this_tos, v_this_whos, v_this_place, v_this_since, v_this_rows, v_this_few, v_this_most, v_this_parts, v_this_fewParts, v_this_mostParts, v_this_far, v_this_queue, v_this_gone, v_this_stood, v_this_trips, .long sum_])), (q_this_refused, .inl (kI, 3, .inl refused_))] H := hP
  have hD : va_D A [(q_this, .inr (10, [v_this_all, v_this_isKept, .ref q_this_refused, .int above_, .int below_, .int at_, .int start_, .int sort_, .int value_, .int fault_, .int men_, .int gos_, v_this_ways, v_this_starts, v_this_homes, v_this_hours, v_this_froms, v_this_tos, v_this_whos, v_this_place, v_this_since, v_this_rows, v_this_few, v_this_most, v_this_parts, v_this_fewParts, v_this_mostParts, v_this_far, v_this_queue, v_this_gone, v_this_stood, v_this_trips, .long sum_])), (q_this_refused, .inl (kI, 3, .inl refused_))] := hD
  refine lv_if_eq (tgt := 18) hx hb dX10_status_6 (by decide) (fun c1 => ?_) (fun c1 => ?_)
  · replace h := q_t c1 h
    refine lv_aload_n hx hb dX10_status_18 rfl (lv_at hl 0 rfl) ?_
    refine lv_bipush (v := (-2)) hx hb dX10_status_19 (by decide) ?_
    refine lv_iconst (v := (-1)) hx hb dX10_status_21 (by decide) ?_
    obtain ⟨u22, hu22, h⟩ := q_b h
    refine q_aI (va_runV (As := [.int (-2), .int (-1)]) (rest := []) ⟨hx, hb, hml, hown, hts⟩ (c_X10_refuseAs l D E kI kB kQ q_this q_this_refused v_this_all v_this_isKept v_this_ways v_this_starts v_this_homes v_this_hours v_this_froms v_this_tos v_this_whos v_this_place v_this_since v_this_rows v_this_few v_this_most v_this_parts v_this_fewParts v_this_mostParts v_this_far v_this_queue v_this_gone v_this_stood v_this_trips above_ below_ at_ start_ sort_ value_ fault_ men_ gos_ sum_ refused_ (-2) (-1) N u22 hu22 H.size) (cwV 2 hts gX10_status_X10_refuseAs rfl rfl rfl vd_X10_refuseAs ⟨Nat.le_of_ble_eq_true rfl, Nat.le_of_ble_eq_true rfl⟩) (q_pv hK hN hE hS hA hP hD [0, 1] rfl rfl rfl 0 rfl (ci := 10) rfl) rfl rfl hl.1 rfl (lv_room (Nat.le_of_ble_eq_true rfl)) dX10_status_22 ⟨Nat.zero_le _, Nat.zero_le _⟩) hP hD hS hA [0, 1] [] (Wr := []) rfl rfl rfl (by decide) (fun H locs hP hD hS => ?_)
    have hP : va_P D vwCl [(q_this, .inr (10, [v_this_all, v_this_isKept, .ref q_this_refused, .int above_, .int below_, .int at_, .int start_, .int sort_, .int value_, .int fault_, .int men_, .int gos_, v_this_ways, v_this_starts, v_this_homes, v_this_hours, v_this_froms, v_this_tos, v_this_whos, v_this_place, v_this_since, v_this_rows, v_this_few, v_this_most, v_this_parts, v_this_fewParts, v_this_mostParts, v_this_far, v_this_queue, v_this_gone, v_this_stood, v_this_trips, .long sum_])), (q_this_refused, .inl (kI, 3, .inl u22.2))] H := hP
    have hD : va_D A [(q_this, .inr (10, [v_this_all, v_this_isKept, .ref q_this_refused, .int above_, .int below_, .int at_, .int start_, .int sort_, .int value_, .int fault_, .int men_, .int gos_, v_this_ways, v_this_starts, v_this_homes, v_this_hours, v_this_froms, v_this_tos, v_this_whos, v_this_place, v_this_since, v_this_rows, v_this_few, v_this_most, v_this_parts, v_this_fewParts, v_this_mostParts, v_this_far, v_this_queue, v_this_gone, v_this_stood, v_this_trips, .long sum_])), (q_this_refused, .inl (kI, 3, .inl u22.2))] := hD
    have er := q_inj h
    subst er
    exact hret _ _ _ _ (hP.sub [0, 1] rfl) (hD.sub [0, 1] rfl rfl) hS dX10_status_25
  · replace h := q_f c1 h
    refine lv_aload_n hx hb dX10_status_9 rfl (lv_at hl 0 rfl) ?_
    refine va_get (D := D) (ci := 10) (C := RX10) (T := TX10) (N := 33) hx hb hts iw_X10_status_X10 hown hK hP 0 rfl rfl 2 (by decide) (hts _ lk_X10_status_0) (fun _ h9 => h9) rfl dX10_status_10 ?_
    refine lv_iload_n hx hb dX10_status_13 rfl (lv_at hl 1 rfl) ?_
    obtain ⟨hg2, h⟩ := q_g h
    refine va_iald hx hb hK hP 1 0 rfl rfl (inb_vp hg2) dX10_status_14 ?_
    refine lv_goto (tgt := 25) hx hb dX10_status_15 (by decide) ?_
    have er := q_inj h
    subst er
    exact hret _ _ _ _ (hP.sub [0, 1] rfl) (hD.sub [0, 1] rfl rfl) hS dX10_status_25
abbrev rm_X10_waysNow : Room := { frames := 0, cells := 0, slots := 0, locals := 0 }
theorem lk_X10_waysNow_0 : Cond.fieldLink RX10 7 "OnlyPrimesModel" "all" "[I" ∈ wsX10_waysNow := List.mem_of_getElem? (i := 1) (by decide +kernel)
theorem iw_X10_waysNow_X10 : ∀ w ∈ wsX100, w ∈ wsX10_waysNow := by decide +kernel
theorem nd_X10_waysNow : yX10_waysNow.cls ≠ "java/lang/invoke/MethodHandle" ∧ yX10_waysNow.cls ≠ "java/lang/invoke/VarHandle" ∧ (parseMethodDescriptor yX10_waysNow.desc).map (fun d => d.parameters.length) = some 0 := by decide +kernel
theorem vd_X10_waysNow : yX10_waysNow.cls = RX10 ∧ yX10_waysNow.cls ≠ "java/lang/invoke/MethodHandle" ∧ yX10_waysNow.cls ≠ "java/lang/invoke/VarHandle" ∧ (parseMethodDescriptor yX10_waysNow.desc).map (fun d => d.parameters.length) = some 0 := by decide +kernel
set_option maxHeartbeats 4000000 in
set_option maxRecDepth 100000 in
theorem c_X10_waysNow (l : Launch) (D : va_G) (E : q_En) (kI kB kQ : ClassId) (q_this : Nat) (q_this_all : Nat) (v_this_isKept : Value) (v_this_refused : Value) (v_this_ways : Value) (v_this_starts : Value) (v_this_homes : Value) (v_this_hours : Value) (v_this_froms : Value) (v_this_tos : Value) (v_this_whos : Value) (v_this_place : Value) (v_this_since : Value) (v_this_rows : Value) (v_this_few : Value) (v_this_most : Value) (v_this_parts : Value) (v_this_fewParts : Value) (v_this_mostParts : Value) (v_this_far : Value) (v_this_queue : Value) (v_this_gone : Value) (v_this_stood : Value) (v_this_trips : Value) (above_ : Int32) (below_ : Int32) (at_ : Int32) (start_ : Int32) (sort_ : Int32) (value_ : Int32) (fault_ : Int32) (men_ : Int32) (gos_ : Int32) (sum_ : Int64) (all_ : Nat → Int32) (N : Nat) (r : Int32) (hf : g_X10_waysNow N all_ = some r) : CtI l D E yX10_waysNow wsX10_waysNow rm_X10_waysNow (q_tys kI kB kQ) [.ref q_this] [(q_this, .inr (10, [.ref q_this_all, v_this_isKept, v_this_refused, .int above_, .int below_, .int at_, .int start_, .int sort_, .int value_, .int fault_, .int men_, .int gos_, v_this_ways, v_this_starts, v_this_homes, v_this_hours, v_this_froms, v_this_tos, v_this_whos, v_this_place, v_this_since, v_this_rows, v_this_few, v_this_most, v_this_parts, v_this_fewParts, v_this_mostParts, v_this_far, v_this_queue, v_this_gone, v_this_stood, v_this_trips, .long sum_])), (q_this_all, .inl (kI, 1080, .inl all_))] [(q_this, .inr (10, [.ref q_this_all, v_this_isKept, v_this_refused, .int above_, .int below_, .int at_, .int start_, .int sort_, .int value_, .int fault_, .int men_, .int gos_, v_this_ways, v_this_starts, v_this_homes, v_this_hours, v_this_froms, v_this_tos, v_this_whos, v_this_place, v_this_since, v_this_rows, v_this_few, v_this_most, v_this_parts, v_this_fewParts, v_this_mostParts, v_this_far, v_this_queue, v_this_gone, v_this_stood, v_this_trips, .long sum_])), (q_this_all, .inl (kI, 1080, .inl all_))] r := by
  refine q_enterI cX10_waysNow 3 RX10 (by decide) rfl (Nat.le_of_ble_eq_true rfl) rfl ?_
  intro p e s m args below meth c Q A ls H hx hb hml hown hts hK hN hE hA hP hS hD hl hret
  have hl : lv_has ls 3 [(0, .ref q_this)] := hl
  have h := hf
  rw [g_X10_waysNow] at h
  have J4 : ∀ (n4 : Nat) (x1 : Int32) (x2 : Int32), g_X10_waysNow_4 all_ n4 x1 x2 = some r → ∀ (H : Heap) (locs : List Loc) (ls : Array Slot), va_P D vwCl [(q_this, .inr (10, [.ref q_this_all, v_this_isKept, v_this_refused, .int above_, .int below_, .int at_, .int start_, .int sort_, .int value_, .int fault_, .int men_, .int gos_, v_this_ways, v_this_starts, v_this_homes, v_this_hours, v_this_froms, v_this_tos, v_this_whos, v_this_place, v_this_since, v_this_rows, v_this_few, v_this_most, v_this_parts, v_this_fewParts, v_this_mostParts, v_this_far, v_this_queue, v_this_gone, v_this_stood, v_this_trips, .long sum_])), (q_this_all, .inl (kI, 1080, .inl all_))] H → va_D A [(q_this, .inr (10, [.ref q_this_all, v_this_isKept, v_this_refused, .int above_, .int below_, .int at_, .int start_, .int sort_, .int value_, .int fault_, .int men_, .int gos_, v_this_ways, v_this_starts, v_this_homes, v_this_hours, v_this_froms, v_this_tos, v_this_whos, v_this_place, v_this_since, v_this_rows, v_this_few, v_this_most, v_this_parts, v_this_fewParts, v_this_mostParts, v_this_far, v_this_queue, v_this_gone, v_this_stood, v_this_trips, .long sum_])), (q_this_all, .inl (kI, 1080, .inl all_))] → va_S A s.heap H locs → lv_has ls 3 [(0, .ref q_this), (1, .int x1), (2, .int x2)] → W p l e rm_X10_waysNow s m args below meth c H locs 0 0 Q (F0 m 4 ls []) := by
    intro n4
    induction n4 with
    | zero => intro x1 x2 h; exact absurd h (by rw [g_X10_waysNow_4]; exact fun q => nomatch q)
    | succ n4 ih4 =>
      intro x1 x2 h H locs ls hP hD hS hl
      rw [g_X10_waysNow_4] at h
      refine lv_iload_n hx hb dX10_waysNow_4 rfl (lv_at hl 2 rfl) ?_
      refine lv_bipush (v := 16) hx hb dX10_waysNow_5 (by decide) ?_
      refine lv_icmp_ge (tgt := 28) hx hb dX10_waysNow_7 (by decide) (fun c1 => ?_) (fun c1 => ?_)
      · replace h := q_t c1 h
        refine lv_iload_n hx hb dX10_waysNow_28 rfl (lv_at hl 1 rfl) ?_
        refine lv_iconst (v := 2) hx hb dX10_waysNow_29 (by decide) ?_
        refine lv_idiv hx hb dX10_waysNow_30 (by decide) ?_
        have er := q_inj h
        subst er
        exact hret _ _ _ _ (hP.sub [0, 1] rfl) (hD.sub [0, 1] rfl rfl) hS dX10_waysNow_31
      · replace h := q_f c1 h
        refine lv_iload_n hx hb dX10_waysNow_10 rfl (lv_at hl 1 rfl) ?_
        refine lv_aload_n hx hb dX10_waysNow_11 rfl (lv_at hl 0 rfl) ?_
        refine va_get (D := D) (ci := 10) (C := RX10) (T := TX10) (N := 33) hx hb hts iw_X10_waysNow_X10 hown hK hP 0 rfl rfl 0 (by decide) (hts _ lk_X10_waysNow_0) (fun _ h9 => h9) rfl dX10_waysNow_12 ?_
        refine lv_bipush (v := 7) hx hb dX10_waysNow_15 (by decide) ?_
        refine lv_iload_n hx hb dX10_waysNow_17 rfl (lv_at hl 2 rfl) ?_
        refine lv_iadd hx hb dX10_waysNow_18 ?_
        obtain ⟨hg2, h⟩ := q_g h
        refine va_iald hx hb hK hP 1 0 rfl rfl (inb_vp hg2) dX10_waysNow_19 ?_
        refine lv_iadd hx hb dX10_waysNow_20 ?_
        refine lv_istore_n (lv' := [(1, .int (x1 + (all_ (7 + x2).toNatClampNeg))), (0, .ref q_this), (2, .int x2)]) hx hb dX10_waysNow_21 rfl hl (by decide) rfl (fun ls hl => ?_)
        refine lv_iinc (v := (x2 + 1)) (lv' := [(2, .int (x2 + 1)), (1, .int (x1 + (all_ (7 + x2).toNatClampNeg))), (0, .ref q_this)]) hx hb dX10_waysNow_22 hl (k := 2) rfl rfl (by decide) rfl (fun ls hl => ?_)
        refine lv_goto (tgt := 4) hx hb dX10_waysNow_25 (by decide) ?_
        exact ih4 (x1 + (all_ (7 + x2).toNatClampNeg)) (x2 + 1) h _ _ _ (hP.sub [0, 1] rfl) (hD.sub [0, 1] rfl rfl) hS (lv_sub hl [2, 1, 0] rfl)
  refine lv_iconst (v := 0) hx hb dX10_waysNow_0 (by decide) ?_
  refine lv_istore_n (lv' := [(1, .int 0), (0, .ref q_this)]) hx hb dX10_waysNow_1 rfl hl (by decide) rfl (fun ls hl => ?_)
  refine lv_iconst (v := 0) hx hb dX10_waysNow_2 (by decide) ?_
  refine lv_istore_n (lv' := [(2, .int 0), (1, .int 0), (0, .ref q_this)]) hx hb dX10_waysNow_3 rfl hl (by decide) rfl (fun ls hl => ?_)
  exact J4 N 0 0 h _ _ _ (hP.sub [0, 1] rfl) (hD.sub [0, 1] rfl rfl) hS (lv_sub hl [2, 1, 0] rfl)
abbrev rm_X10_countOf : Room := { frames := 1, cells := 0, slots := 0, locals := 22 }
theorem lk_X10_countOf_0 : Cond.fieldLink RX10 7 "OnlyPrimesModel" "all" "[I" ∈ wsX10_countOf := List.mem_of_getElem? (i := 1) (by decide +kernel)
theorem iw_X10_countOf_X10 : ∀ w ∈ wsX100, w ∈ wsX10_countOf := by decide +kernel
theorem nd_X10_countOf : yX10_countOf.cls ≠ "java/lang/invoke/MethodHandle" ∧ yX10_countOf.cls ≠ "java/lang/invoke/VarHandle" ∧ (parseMethodDescriptor yX10_countOf.desc).map (fun d => d.parameters.length) = some 1 := by decide +kernel
theorem vd_X10_countOf : yX10_countOf.cls = RX10 ∧ yX10_countOf.cls ≠ "java/lang/invoke/MethodHandle" ∧ yX10_countOf.cls ≠ "java/lang/invoke/VarHandle" ∧ (parseMethodDescriptor yX10_countOf.desc).map (fun d => d.parameters.length) = some 1 := by decide +kernel
set_option maxHeartbeats 4000000 in
set_option maxRecDepth 100000 in
theorem c_X10_countOf (l : Launch) (D : va_G) (E : q_En) (kI kB kQ : ClassId) (q_this : Nat) (q_this_all : Nat) (v_this_isKept : Value) (v_this_refused : Value) (v_this_ways : Value) (v_this_starts : Value) (v_this_homes : Value) (v_this_hours : Value) (v_this_froms : Value) (v_this_tos : Value) (v_this_whos : Value) (v_this_place : Value) (v_this_since : Value) (v_this_rows : Value) (v_this_few : Value) (v_this_most : Value) (v_this_parts : Value) (v_this_fewParts : Value) (v_this_mostParts : Value) (v_this_far : Value) (v_this_queue : Value) (v_this_gone : Value) (v_this_stood : Value) (v_this_trips : Value) (above_ : Int32) (below_ : Int32) (at_ : Int32) (start_ : Int32) (sort_ : Int32) (value_ : Int32) (fault_ : Int32) (men_ : Int32) (gos_ : Int32) (sum_ : Int64) (all_ : Nat → Int32) (x1 : Int32) (N : Nat) (r : Int32) (hf : g_X10_countOf N all_ x1 = some r) : CtI l D E yX10_countOf wsX10_countOf rm_X10_countOf (q_tys kI kB kQ) [.ref q_this, .int x1] [(q_this, .inr (10, [.ref q_this_all, v_this_isKept, v_this_refused, .int above_, .int below_, .int at_, .int start_, .int sort_, .int value_, .int fault_, .int men_, .int gos_, v_this_ways, v_this_starts, v_this_homes, v_this_hours, v_this_froms, v_this_tos, v_this_whos, v_this_place, v_this_since, v_this_rows, v_this_few, v_this_most, v_this_parts, v_this_fewParts, v_this_mostParts, v_this_far, v_this_queue, v_this_gone, v_this_stood, v_this_trips, .long sum_])), (q_this_all, .inl (kI, 1080, .inl all_))] [(q_this, .inr (10, [.ref q_this_all, v_this_isKept, v_this_refused, .int above_, .int below_, .int at_, .int start_, .int sort_, .int value_, .int fault_, .int men_, .int gos_, v_this_ways, v_this_starts, v_this_homes, v_this_hours, v_this_froms, v_this_tos, v_this_whos, v_this_place, v_this_since, v_this_rows, v_this_few, v_this_most, v_this_parts, v_this_fewParts, v_this_mostParts, v_this_far, v_this_queue, v_this_gone, v_this_stood, v_this_trips, .long sum_])), (q_this_all, .inl (kI, 1080, .inl all_))] r := by
  refine q_enterI cX10_countOf 2 RX10 (by decide) rfl (Nat.le_of_ble_eq_true rfl) rfl ?_
  intro p e s m args below meth c Q A ls H hx hb hml hown hts hK hN hE hA hP hS hD hl hret
  have hl : lv_has ls 2 [(0, .ref q_this), (1, .int x1)] := hl
  have h := hf
  rw [g_X10_countOf] at h
  refine lv_iload_n hx hb dX10_countOf_0 rfl (lv_at hl 1 rfl) ?_
  refine lv_if_ne (tgt := 11) hx hb dX10_countOf_1 (by decide) (fun c1 => ?_) (fun c1 => ?_)
  · replace h := q_f c1 h
    refine lv_aload_n hx hb dX10_countOf_11 rfl (lv_at hl 0 rfl) ?_
    refine va_get (D := D) (ci := 10) (C := RX10) (T := TX10) (N := 33) hx hb hts iw_X10_countOf_X10 hown hK hP 0 rfl rfl 0 (by decide) (hts _ lk_X10_countOf_0) (fun _ h9 => h9) rfl dX10_countOf_12 ?_
    refine lv_iload_n hx hb dX10_countOf_15 rfl (lv_at hl 1 rfl) ?_
    obtain ⟨hg2, h⟩ := q_g h
    refine va_iald hx hb hK hP 1 0 rfl rfl (inb_vp hg2) dX10_countOf_16 ?_
    have er := q_inj h
    subst er
    exact hret _ _ _ _ (hP.sub [0, 1] rfl) (hD.sub [0, 1] rfl rfl) hS dX10_countOf_17
  · replace h := q_t c1 h
    refine lv_aload_n hx hb dX10_countOf_4 rfl (lv_at hl 0 rfl) ?_
    obtain ⟨u5, hu5, h⟩ := q_b h
    refine q_aI (va_runV (As := []) (rest := []) ⟨hx, hb, hml, hown, hts⟩ (c_X10_waysNow l D E kI kB kQ q_this q_this_all v_this_isKept v_this_refused v_this_ways v_this_starts v_this_homes v_this_hours v_this_froms v_this_tos v_this_whos v_this_place v_this_since v_this_rows v_this_few v_this_most v_this_parts v_this_fewParts v_this_mostParts v_this_far v_this_queue v_this_gone v_this_stood v_this_trips above_ below_ at_ start_ sort_ value_ fault_ men_ gos_ sum_ all_ N u5 hu5 H.size) (cwV 0 hts gX10_countOf_X10_waysNow rfl rfl rfl vd_X10_waysNow ⟨Nat.le_of_ble_eq_true rfl, Nat.le_of_ble_eq_true rfl⟩) (q_pv hK hN hE hS hA hP hD [0, 1] rfl rfl rfl 0 rfl (ci := 10) rfl) rfl rfl hl.1 rfl (lv_room (Nat.le_of_ble_eq_true rfl)) dX10_countOf_5 ⟨Nat.zero_le _, Nat.zero_le _⟩) hP hD hS hA [0, 1] [] (Wr := []) rfl rfl rfl (by decide) (fun H locs hP hD hS => ?_)
    have hP : va_P D vwCl [(q_this, .inr (10, [.ref q_this_all, v_this_isKept, v_this_refused, .int above_, .int below_, .int at_, .int start_, .int sort_, .int value_, .int fault_, .int men_, .int gos_, v_this_ways, v_this_starts, v_this_homes, v_this_hours, v_this_froms, v_this_tos, v_this_whos, v_this_place, v_this_since, v_this_rows, v_this_few, v_this_most, v_this_parts, v_this_fewParts, v_this_mostParts, v_this_far, v_this_queue, v_this_gone, v_this_stood, v_this_trips, .long sum_])), (q_this_all, .inl (kI, 1080, .inl all_))] H := hP
    have hD : va_D A [(q_this, .inr (10, [.ref q_this_all, v_this_isKept, v_this_refused, .int above_, .int below_, .int at_, .int start_, .int sort_, .int value_, .int fault_, .int men_, .int gos_, v_this_ways, v_this_starts, v_this_homes, v_this_hours, v_this_froms, v_this_tos, v_this_whos, v_this_place, v_this_since, v_this_rows, v_this_few, v_this_most, v_this_parts, v_this_fewParts, v_this_mostParts, v_this_far, v_this_queue, v_this_gone, v_this_stood, v_this_trips, .long sum_])), (q_this_all, .inl (kI, 1080, .inl all_))] := hD
    refine lv_goto (tgt := 17) hx hb dX10_countOf_8 (by decide) ?_
    have er := q_inj h
    subst er
    exact hret _ _ _ _ (hP.sub [0, 1] rfl) (hD.sub [0, 1] rfl rfl) hS dX10_countOf_17
abbrev rm_X10_count : Room := { frames := 2, cells := 0, slots := 0, locals := 43 }
theorem nd_X10_count : yX10_count.cls ≠ "java/lang/invoke/MethodHandle" ∧ yX10_count.cls ≠ "java/lang/invoke/VarHandle" ∧ (parseMethodDescriptor yX10_count.desc).map (fun d => d.parameters.length) = some 1 := by decide +kernel
theorem vd_X10_count : yX10_count.cls = RX10 ∧ yX10_count.cls ≠ "java/lang/invoke/MethodHandle" ∧ yX10_count.cls ≠ "java/lang/invoke/VarHandle" ∧ (parseMethodDescriptor yX10_count.desc).map (fun d => d.parameters.length) = some 1 := by decide +kernel
set_option maxHeartbeats 4000000 in
set_option maxRecDepth 100000 in
theorem c_X10_count (l : Launch) (D : va_G) (E : q_En) (kI kB kQ : ClassId) (q_this : Nat) (q_this_all : Nat) (q_this_refused : Nat) (v_this_isKept : Value) (v_this_ways : Value) (v_this_starts : Value) (v_this_homes : Value) (v_this_hours : Value) (v_this_froms : Value) (v_this_tos : Value) (v_this_whos : Value) (v_this_place : Value) (v_this_since : Value) (v_this_rows : Value) (v_this_few : Value) (v_this_most : Value) (v_this_parts : Value) (v_this_fewParts : Value) (v_this_mostParts : Value) (v_this_far : Value) (v_this_queue : Value) (v_this_gone : Value) (v_this_stood : Value) (v_this_trips : Value) (above_ : Int32) (below_ : Int32) (at_ : Int32) (start_ : Int32) (sort_ : Int32) (value_ : Int32) (fault_ : Int32) (men_ : Int32) (gos_ : Int32) (sum_ : Int64) (all_ : Nat → Int32) (refused_ : Nat → Int32) (x1 : Int32) (N : Nat) (r : Int32 × (Nat → Int32)) (hf : g_X10_count N all_ refused_ x1 = some r) : CtI l D E yX10_count wsX10_count rm_X10_count (q_tys kI kB kQ) [.ref q_this, .int x1] [(q_this, .inr (10, [.ref q_this_all, v_this_isKept, .ref q_this_refused, .int above_, .int below_, .int at_, .int start_, .int sort_, .int value_, .int fault_, .int men_, .int gos_, v_this_ways, v_this_starts, v_this_homes, v_this_hours, v_this_froms, v_this_tos, v_this_whos, v_this_place, v_this_since, v_this_rows, v_this_few, v_this_most, v_this_parts, v_this_fewParts, v_this_mostParts, v_this_far, v_this_queue, v_this_gone, v_this_stood, v_this_trips, .long sum_])), (q_this_all, .inl (kI, 1080, .inl all_)), (q_this_refused, .inl (kI, 3, .inl refused_))] [(q_this, .inr (10, [.ref q_this_all, v_this_isKept, .ref q_this_refused, .int above_, .int below_, .int at_, .int start_, .int sort_, .int value_, .int fault_, .int men_, .int gos_, v_this_ways, v_this_starts, v_this_homes, v_this_hours, v_this_froms, v_this_tos, v_this_whos, v_this_place, v_this_since, v_this_rows, v_this_few, v_this_most, v_this_parts, v_this_fewParts, v_this_mostParts, v_this_far, v_this_queue, v_this_gone, v_this_stood, v_this_trips, .long sum_])), (q_this_all, .inl (kI, 1080, .inl all_)), (q_this_refused, .inl (kI, 3, .inl r.2))] r.1 := by
  refine q_enterI cX10_count 2 RX10 (by decide) rfl (Nat.le_of_ble_eq_true rfl) rfl ?_
  intro p e s m args below meth c Q A ls H hx hb hml hown hts hK hN hE hA hP hS hD hl hret
  have hl : lv_has ls 2 [(0, .ref q_this), (1, .int x1)] := hl
  have h := hf
  rw [g_X10_count] at h
  refine lv_iload_n hx hb dX10_count_0 rfl (lv_at hl 1 rfl) ?_
  refine lv_iconst (v := 0) hx hb dX10_count_1 (by decide) ?_
  refine lv_bipush (v := 6) hx hb dX10_count_2 (by decide) ?_
  obtain ⟨u4, hu4, h⟩ := q_b h
  refine q_aI (va_runS (As := [.int x1, .int 0, .int 6]) (rest := []) ⟨hx, hb, hml, hown, hts⟩ (c_X10_in l D E kI kB kQ x1 0 6 N u4 hu4 H.size) (va_cwS 3 hts gX10_count_X10_in rfl rfl rfl nd_X10_in ⟨Nat.le_of_ble_eq_true rfl, Nat.le_of_ble_eq_true rfl⟩) (q_ps hK hN hE hS hA hP hD [] rfl rfl rfl) rfl rfl hl.1 rfl (lv_room (Nat.le_of_ble_eq_true rfl)) dX10_count_4 ⟨Nat.zero_le _, Nat.zero_le _⟩) hP hD hS hA [] [0, 1, 2] (Wr := [(q_this, .inr (10, [.ref q_this_all, v_this_isKept, .ref q_this_refused, .int above_, .int below_, .int at_, .int start_, .int sort_, .int value_, .int fault_, .int men_, .int gos_, v_this_ways, v_this_starts, v_this_homes, v_this_hours, v_this_froms, v_this_tos, v_this_whos, v_this_place, v_this_since, v_this_rows, v_this_few, v_this_most, v_this_parts, v_this_fewParts, v_this_mostParts, v_this_far, v_this_queue, v_this_gone, v_this_stood, v_this_trips, .long sum_])), (q_this_all, .inl (kI, 1080, .inl all_)), (q_this_refused, .inl (kI, 3, .inl refused_))]) rfl rfl rfl (by decide) (fun H locs hP hD hS => ?_)
  have hP : va_P D vwCl [(q_this, .inr (10, [.ref q_this_all, v_this_isKept, .ref q_this_refused, .int above_, .int below_, .int at_, .int start_, .int sort_, .int value_, .int fault_, .int men_, .int gos_, v_this_ways, v_this_starts, v_this_homes, v_this_hours, v_this_froms, v_this_tos, v_this_whos, v_this_place, v_this_since, v_this_rows, v_this_few, v_this_most, v_this_parts, v_this_fewParts, v_this_mostParts, v_this_far, v_this_queue, v_this_gone, v_this_stood, v_this_trips, .long sum_])), (q_this_all, .inl (kI, 1080, .inl all_)), (q_this_refused, .inl (kI, 3, .inl refused_))] H := hP
  have hD : va_D A [(q_this, .inr (10, [.ref q_this_all, v_this_isKept, .ref q_this_refused, .int above_, .int below_, .int at_, .int start_, .int sort_, .int value_, .int fault_, .int men_, .int gos_, v_this_ways, v_this_starts, v_this_homes, v_this_hours, v_this_froms, v_this_tos, v_this_whos, v_this_place, v_this_since, v_this_rows, v_this_few, v_this_most, v_this_parts, v_this_fewParts, v_this_mostParts, v_this_far, v_this_queue, v_this_gone, v_this_stood, v_this_trips, .long sum_])), (q_this_all, .inl (kI, 1080, .inl all_)), (q_this_refused, .inl (kI, 3, .inl refused_))] := hD
  refine lv_if_eq (tgt := 18) hx hb dX10_count_7 (by decide) (fun c1 => ?_) (fun c1 => ?_)
  · replace h := q_t c1 h
    refine lv_aload_n hx hb dX10_count_18 rfl (lv_at hl 0 rfl) ?_
    refine lv_bipush (v := (-2)) hx hb dX10_count_19 (by decide) ?_
    obtain ⟨u21, hu21, h⟩ := q_b h
    refine q_aI (va_runV (As := [.int (-2)]) (rest := []) ⟨hx, hb, hml, hown, hts⟩ (c_X10_refuse l D E kI kB kQ q_this q_this_refused (.ref q_this_all) v_this_isKept v_this_ways v_this_starts v_this_homes v_this_hours v_this_froms v_this_tos v_this_whos v_this_place v_this_since v_this_rows v_this_few v_this_most v_this_parts v_this_fewParts v_this_mostParts v_this_far v_this_queue v_this_gone v_this_stood v_this_trips above_ below_ at_ start_ sort_ value_ fault_ men_ gos_ sum_ refused_ (-2) N u21 hu21 H.size) (cwV 1 hts gX10_count_X10_refuse rfl rfl rfl vd_X10_refuse ⟨Nat.le_of_ble_eq_true rfl, Nat.le_of_ble_eq_true rfl⟩) (q_pv hK hN hE hS hA hP hD [0, 2] rfl rfl rfl 0 rfl (ci := 10) rfl) rfl rfl hl.1 rfl (lv_room (Nat.le_of_ble_eq_true rfl)) dX10_count_21 ⟨Nat.zero_le _, Nat.zero_le _⟩) hP hD hS hA [0, 2] [1] (Wr := [(q_this_all, .inl (kI, 1080, .inl all_))]) rfl rfl rfl (by decide) (fun H locs hP hD hS => ?_)
    have hP : va_P D vwCl [(q_this_all, .inl (kI, 1080, .inl all_)), (q_this, .inr (10, [.ref q_this_all, v_this_isKept, .ref q_this_refused, .int above_, .int below_, .int at_, .int start_, .int sort_, .int value_, .int fault_, .int men_, .int gos_, v_this_ways, v_this_starts, v_this_homes, v_this_hours, v_this_froms, v_this_tos, v_this_whos, v_this_place, v_this_since, v_this_rows, v_this_few, v_this_most, v_this_parts, v_this_fewParts, v_this_mostParts, v_this_far, v_this_queue, v_this_gone, v_this_stood, v_this_trips, .long sum_])), (q_this_refused, .inl (kI, 3, .inl u21.2))] H := hP
    have hD : va_D A [(q_this_all, .inl (kI, 1080, .inl all_)), (q_this, .inr (10, [.ref q_this_all, v_this_isKept, .ref q_this_refused, .int above_, .int below_, .int at_, .int start_, .int sort_, .int value_, .int fault_, .int men_, .int gos_, v_this_ways, v_this_starts, v_this_homes, v_this_hours, v_this_froms, v_this_tos, v_this_whos, v_this_place, v_this_since, v_this_rows, v_this_few, v_this_most, v_this_parts, v_this_fewParts, v_this_mostParts, v_this_far, v_this_queue, v_this_gone, v_this_stood, v_this_trips, .long sum_])), (q_this_refused, .inl (kI, 3, .inl u21.2))] := hD
    have er := q_inj h
    subst er
    exact hret _ _ _ _ (hP.sub [1, 0, 2] rfl) (hD.sub [1, 0, 2] rfl rfl) hS dX10_count_24
  · replace h := q_f c1 h
    refine lv_aload_n hx hb dX10_count_10 rfl (lv_at hl 0 rfl) ?_
    refine lv_iload_n hx hb dX10_count_11 rfl (lv_at hl 1 rfl) ?_
    obtain ⟨u12, hu12, h⟩ := q_b h
    refine q_aI (va_runV (As := [.int x1]) (rest := []) ⟨hx, hb, hml, hown, hts⟩ (c_X10_countOf l D E kI kB kQ q_this q_this_all v_this_isKept (.ref q_this_refused) v_this_ways v_this_starts v_this_homes v_this_hours v_this_froms v_this_tos v_this_whos v_this_place v_this_since v_this_rows v_this_few v_this_most v_this_parts v_this_fewParts v_this_mostParts v_this_far v_this_queue v_this_gone v_this_stood v_this_trips above_ below_ at_ start_ sort_ value_ fault_ men_ gos_ sum_ all_ x1 N u12 hu12 H.size) (cwV 1 hts gX10_count_X10_countOf rfl rfl rfl vd_X10_countOf ⟨Nat.le_of_ble_eq_true rfl, Nat.le_of_ble_eq_true rfl⟩) (q_pv hK hN hE hS hA hP hD [0, 1] rfl rfl rfl 0 rfl (ci := 10) rfl) rfl rfl hl.1 rfl (lv_room (Nat.le_of_ble_eq_true rfl)) dX10_count_12 ⟨Nat.zero_le _, Nat.zero_le _⟩) hP hD hS hA [0, 1] [2] (Wr := [(q_this_refused, .inl (kI, 3, .inl refused_))]) rfl rfl rfl (by decide) (fun H locs hP hD hS => ?_)
    have hP : va_P D vwCl [(q_this_refused, .inl (kI, 3, .inl refused_)), (q_this, .inr (10, [.ref q_this_all, v_this_isKept, .ref q_this_refused, .int above_, .int below_, .int at_, .int start_, .int sort_, .int value_, .int fault_, .int men_, .int gos_, v_this_ways, v_this_starts, v_this_homes, v_this_hours, v_this_froms, v_this_tos, v_this_whos, v_this_place, v_this_since, v_this_rows, v_this_few, v_this_most, v_this_parts, v_this_fewParts, v_this_mostParts, v_this_far, v_this_queue, v_this_gone, v_this_stood, v_this_trips, .long sum_])), (q_this_all, .inl (kI, 1080, .inl all_))] H := hP
    have hD : va_D A [(q_this_refused, .inl (kI, 3, .inl refused_)), (q_this, .inr (10, [.ref q_this_all, v_this_isKept, .ref q_this_refused, .int above_, .int below_, .int at_, .int start_, .int sort_, .int value_, .int fault_, .int men_, .int gos_, v_this_ways, v_this_starts, v_this_homes, v_this_hours, v_this_froms, v_this_tos, v_this_whos, v_this_place, v_this_since, v_this_rows, v_this_few, v_this_most, v_this_parts, v_this_fewParts, v_this_mostParts, v_this_far, v_this_queue, v_this_gone, v_this_stood, v_this_trips, .long sum_])), (q_this_all, .inl (kI, 1080, .inl all_))] := hD
    refine lv_goto (tgt := 24) hx hb dX10_count_15 (by decide) ?_
    have er := q_inj h
    subst er
    exact hret _ _ _ _ (hP.sub [1, 2, 0] rfl) (hD.sub [1, 2, 0] rfl rfl) hS dX10_count_24
abbrev rm_X10_mix : Room := { frames := 0, cells := 0, slots := 0, locals := 0 }
theorem lk_X10_mix_0 : Cond.constantLong RX10 236 (31) ∈ wsX10_mix := List.mem_of_getElem? (i := 1) (by decide +kernel)
theorem lk_X10_mix_1 : Cond.fieldLink RX10 238 "OnlyPrimesModel" "sum" "J" ∈ wsX10_mix := List.mem_of_getElem? (i := 2) (by decide +kernel)
theorem iw_X10_mix_X10 : ∀ w ∈ wsX100, w ∈ wsX10_mix := by decide +kernel
theorem nd_X10_mix : yX10_mix.cls ≠ "java/lang/invoke/MethodHandle" ∧ yX10_mix.cls ≠ "java/lang/invoke/VarHandle" ∧ (parseMethodDescriptor yX10_mix.desc).map (fun d => d.parameters.length) = some 1 := by decide +kernel
theorem vd_X10_mix : yX10_mix.cls = RX10 ∧ yX10_mix.cls ≠ "java/lang/invoke/MethodHandle" ∧ yX10_mix.cls ≠ "java/lang/invoke/VarHandle" ∧ (parseMethodDescriptor yX10_mix.desc).map (fun d => d.parameters.length) = some 1 := by decide +kernel
set_option maxHeartbeats 4000000 in
set_option maxRecDepth 100000 in
theorem c_X10_mix (l : Launch) (D : va_G) (E : q_En) (kI kB kQ : ClassId) (q_this : Nat) (v_this_all : Value) (v_this_isKept : Value) (v_this_refused : Value) (v_this_ways : Value) (v_this_starts : Value) (v_this_homes : Value) (v_this_hours : Value) (v_this_froms : Value) (v_this_tos : Value) (v_this_whos : Value) (v_this_place : Value) (v_this_since : Value) (v_this_rows : Value) (v_this_few : Value) (v_this_most : Value) (v_this_parts : Value) (v_this_fewParts : Value) (v_this_mostParts : Value) (v_this_far : Value) (v_this_queue : Value) (v_this_gone : Value) (v_this_stood : Value) (v_this_trips : Value) (above_ : Int32) (below_ : Int32) (at_ : Int32) (start_ : Int32) (sort_ : Int32) (value_ : Int32) (fault_ : Int32) (men_ : Int32) (gos_ : Int32) (sum_ : Int64) (x1 : Int32) (N : Nat) (r : Int64) (hf : g_X10_mix sum_ x1 = some r) : CtV l D E yX10_mix wsX10_mix rm_X10_mix (q_tys kI kB kQ) [.ref q_this, .int x1] [(q_this, .inr (10, [v_this_all, v_this_isKept, v_this_refused, .int above_, .int below_, .int at_, .int start_, .int sort_, .int value_, .int fault_, .int men_, .int gos_, v_this_ways, v_this_starts, v_this_homes, v_this_hours, v_this_froms, v_this_tos, v_this_whos, v_this_place, v_this_since, v_this_rows, v_this_few, v_this_most, v_this_parts, v_this_fewParts, v_this_mostParts, v_this_far, v_this_queue, v_this_gone, v_this_stood, v_this_trips, .long sum_]))] [(q_this, .inr (10, [v_this_all, v_this_isKept, v_this_refused, .int above_, .int below_, .int at_, .int start_, .int sort_, .int value_, .int fault_, .int men_, .int gos_, v_this_ways, v_this_starts, v_this_homes, v_this_hours, v_this_froms, v_this_tos, v_this_whos, v_this_place, v_this_since, v_this_rows, v_this_few, v_this_most, v_this_parts, v_this_fewParts, v_this_mostParts, v_this_far, v_this_queue, v_this_gone, v_this_stood, v_this_trips, .long r]))] := by
  refine q_enterV cX10_mix 2 RX10 (by decide) rfl (Nat.le_of_ble_eq_true rfl) rfl ?_
  intro p e s m args below meth c Q A ls H hx hb hml hown hts hK hN hE hA hP hS hD hl hret
  have hl : lv_has ls 2 [(0, .ref q_this), (1, .int x1)] := hl
  have h := hf
  rw [g_X10_mix] at h
  refine lv_aload_n hx hb dX10_mix_0 rfl (lv_at hl 0 rfl) ?_
  refine lv_ldc2 (v := 31) hx hb hown (hts _ lk_X10_mix_0) dX10_mix_1 ?_
  refine lv_aload_n hx hb dX10_mix_4 rfl (lv_at hl 0 rfl) ?_
  refine va_get (D := D) (ci := 10) (C := RX10) (T := TX10) (N := 33) hx hb hts iw_X10_mix_X10 hown hK hP 0 rfl rfl 32 (by decide) (hts _ lk_X10_mix_1) (fun _ h9 => h9) rfl dX10_mix_5 ?_
  refine lv_lmul hx hb dX10_mix_8 ?_
  refine lv_iload_n hx hb dX10_mix_9 rfl (lv_at hl 1 rfl) ?_
  refine lv_i2l hx hb dX10_mix_10 rfl ?_
  refine lv_ladd hx hb dX10_mix_11 ?_
  refine va_put (D := D) (ci := 10) (v := .long ((31 * sum_) + x1.toInt64)) (ty := .long) (C := RX10) (T := TX10) (N := 33) hx hb hts iw_X10_mix_X10 tyX10 tyX10_ok nmX10 hown hK hP hD hS 0 rfl rfl 32 (by decide) (hts _ lk_X10_mix_1) (fun _ h9 => h9) rfl (by decide +kernel) rfl rfl (Nat.le_of_ble_eq_true rfl) dX10_mix_12 (fun H locs hP hD hS => ?_)
  have hP : va_P D vwCl [(q_this, .inr (10, [v_this_all, v_this_isKept, v_this_refused, .int above_, .int below_, .int at_, .int start_, .int sort_, .int value_, .int fault_, .int men_, .int gos_, v_this_ways, v_this_starts, v_this_homes, v_this_hours, v_this_froms, v_this_tos, v_this_whos, v_this_place, v_this_since, v_this_rows, v_this_few, v_this_most, v_this_parts, v_this_fewParts, v_this_mostParts, v_this_far, v_this_queue, v_this_gone, v_this_stood, v_this_trips, .long ((31 * sum_) + x1.toInt64)]))] H := hP
  have hD : va_D A [(q_this, .inr (10, [v_this_all, v_this_isKept, v_this_refused, .int above_, .int below_, .int at_, .int start_, .int sort_, .int value_, .int fault_, .int men_, .int gos_, v_this_ways, v_this_starts, v_this_homes, v_this_hours, v_this_froms, v_this_tos, v_this_whos, v_this_place, v_this_since, v_this_rows, v_this_few, v_this_most, v_this_parts, v_this_fewParts, v_this_mostParts, v_this_far, v_this_queue, v_this_gone, v_this_stood, v_this_trips, .long ((31 * sum_) + x1.toInt64)]))] := hD
  have er := q_inj h
  subst er
  exact hret _ _ _ _ (hP.sub [0] rfl) (hD.sub [0] rfl rfl) hS dX10_mix_15
abbrev rm_X10_digest : Room := { frames := 2, cells := 0, slots := 0, locals := 43 }
theorem lk_X10_digest_0 : Cond.fieldLink RX10 7 "OnlyPrimesModel" "all" "[I" ∈ wsX10_digest := List.mem_of_getElem? (i := 3) (by decide +kernel)
theorem iw_X10_digest_X10 : ∀ w ∈ wsX100, w ∈ wsX10_digest := by decide +kernel
theorem lk_X10_digest_1 : Cond.fieldLink RX10 192 "OnlyPrimesModel" "above" "I" ∈ wsX10_digest := List.mem_of_getElem? (i := 4) (by decide +kernel)
theorem lk_X10_digest_2 : Cond.fieldLink RX10 20 "OnlyPrimesModel" "below" "I" ∈ wsX10_digest := List.mem_of_getElem? (i := 5) (by decide +kernel)
theorem lk_X10_digest_3 : Cond.fieldLink RX10 238 "OnlyPrimesModel" "sum" "J" ∈ wsX10_digest := List.mem_of_getElem? (i := 2) (by decide +kernel)
theorem lk_X10_digest_4 : Cond.constantLong RX10 242 (619) ∈ wsX10_digest := List.mem_of_getElem? (i := 1) (by decide +kernel)
theorem nd_X10_digest : yX10_digest.cls ≠ "java/lang/invoke/MethodHandle" ∧ yX10_digest.cls ≠ "java/lang/invoke/VarHandle" ∧ (parseMethodDescriptor yX10_digest.desc).map (fun d => d.parameters.length) = some 0 := by decide +kernel
theorem vd_X10_digest : yX10_digest.cls = RX10 ∧ yX10_digest.cls ≠ "java/lang/invoke/MethodHandle" ∧ yX10_digest.cls ≠ "java/lang/invoke/VarHandle" ∧ (parseMethodDescriptor yX10_digest.desc).map (fun d => d.parameters.length) = some 0 := by decide +kernel
set_option maxHeartbeats 4000000 in
set_option maxRecDepth 100000 in
theorem c_X10_digest (l : Launch) (D : va_G) (E : q_En) (kI kB kQ : ClassId) (q_this : Nat) (q_this_all : Nat) (v_this_isKept : Value) (v_this_refused : Value) (v_this_ways : Value) (v_this_starts : Value) (v_this_homes : Value) (v_this_hours : Value) (v_this_froms : Value) (v_this_tos : Value) (v_this_whos : Value) (v_this_place : Value) (v_this_since : Value) (v_this_rows : Value) (v_this_few : Value) (v_this_most : Value) (v_this_parts : Value) (v_this_fewParts : Value) (v_this_mostParts : Value) (v_this_far : Value) (v_this_queue : Value) (v_this_gone : Value) (v_this_stood : Value) (v_this_trips : Value) (above_ : Int32) (below_ : Int32) (at_ : Int32) (start_ : Int32) (sort_ : Int32) (value_ : Int32) (fault_ : Int32) (men_ : Int32) (gos_ : Int32) (sum_ : Int64) (all_ : Nat → Int32) (N : Nat) (r : Int64 × Int64) (hf : g_X10_digest N above_ below_ all_ = some r) : CtL l D E yX10_digest wsX10_digest rm_X10_digest (q_tys kI kB kQ) [.ref q_this] [(q_this, .inr (10, [.ref q_this_all, v_this_isKept, v_this_refused, .int above_, .int below_, .int at_, .int start_, .int sort_, .int value_, .int fault_, .int men_, .int gos_, v_this_ways, v_this_starts, v_this_homes, v_this_hours, v_this_froms, v_this_tos, v_this_whos, v_this_place, v_this_since, v_this_rows, v_this_few, v_this_most, v_this_parts, v_this_fewParts, v_this_mostParts, v_this_far, v_this_queue, v_this_gone, v_this_stood, v_this_trips, .long sum_])), (q_this_all, .inl (kI, 1080, .inl all_))] [(q_this, .inr (10, [.ref q_this_all, v_this_isKept, v_this_refused, .int above_, .int below_, .int at_, .int start_, .int sort_, .int value_, .int fault_, .int men_, .int gos_, v_this_ways, v_this_starts, v_this_homes, v_this_hours, v_this_froms, v_this_tos, v_this_whos, v_this_place, v_this_since, v_this_rows, v_this_few, v_this_most, v_this_parts, v_this_fewParts, v_this_mostParts, v_this_far, v_this_queue, v_this_gone, v_this_stood, v_this_trips, .long r.2])), (q_this_all, .inl (kI, 1080, .inl all_))] r.1 := by
  refine q_enterL cX10_digest 2 RX10 (by decide) rfl (Nat.le_of_ble_eq_true rfl) rfl ?_
  intro p e s m args below meth c Q A ls H hx hb hml hown hts hK hN hE hA hP hS hD hl hret
  have hl : lv_has ls 2 [(0, .ref q_this)] := hl
  have h := hf
  rw [g_X10_digest] at h
  have J329 : ∀ (n329 : Nat) (x1 : Int32) (sum_ : Int64), g_X10_digest_329 above_ below_ all_ n329 x1 sum_ = some r → ∀ (H : Heap) (locs : List Loc) (ls : Array Slot), va_P D vwCl [(q_this, .inr (10, [.ref q_this_all, v_this_isKept, v_this_refused, .int above_, .int below_, .int at_, .int start_, .int sort_, .int value_, .int fault_, .int men_, .int gos_, v_this_ways, v_this_starts, v_this_homes, v_this_hours, v_this_froms, v_this_tos, v_this_whos, v_this_place, v_this_since, v_this_rows, v_this_few, v_this_most, v_this_parts, v_this_fewParts, v_this_mostParts, v_this_far, v_this_queue, v_this_gone, v_this_stood, v_this_trips, .long sum_])), (q_this_all, .inl (kI, 1080, .inl all_))] H → va_D A [(q_this, .inr (10, [.ref q_this_all, v_this_isKept, v_this_refused, .int above_, .int below_, .int at_, .int start_, .int sort_, .int value_, .int fault_, .int men_, .int gos_, v_this_ways, v_this_starts, v_this_homes, v_this_hours, v_this_froms, v_this_tos, v_this_whos, v_this_place, v_this_since, v_this_rows, v_this_few, v_this_most, v_this_parts, v_this_fewParts, v_this_mostParts, v_this_far, v_this_queue, v_this_gone, v_this_stood, v_this_trips, .long sum_])), (q_this_all, .inl (kI, 1080, .inl all_))] → va_S A s.heap H locs → lv_has ls 2 [(0, .ref q_this), (1, .int x1)] → W p l e rm_X10_digest s m args below meth c H locs 0 0 Q (F0 m 329 ls []) := by
    intro n329
    induction n329 with
    | zero => intro x1 sum_ h; exact absurd h (by rw [g_X10_digest_329]; exact fun q => nomatch q)
    | succ n329 ih329 =>
      intro x1 sum_ h H locs ls hP hD hS hl
      rw [g_X10_digest_329] at h
      refine lv_iload_n hx hb dX10_digest_329 rfl (lv_at hl 1 rfl) ?_
      refine lv_aload_n hx hb dX10_digest_330 rfl (lv_at hl 0 rfl) ?_
      refine va_get (D := D) (ci := 10) (C := RX10) (T := TX10) (N := 33) hx hb hts iw_X10_digest_X10 hown hK hP 0 rfl rfl 0 (by decide) (hts _ lk_X10_digest_0) (fun _ h9 => h9) rfl dX10_digest_331 ?_
      refine lv_bipush (v := 6) hx hb dX10_digest_334 (by decide) ?_
      obtain ⟨hg1, h⟩ := q_g h
      refine va_iald hx hb hK hP 1 0 rfl rfl (inb_vp hg1) dX10_digest_336 ?_
      refine lv_icmp_ge (tgt := 360) hx hb dX10_digest_337 (by decide) (fun c2 => ?_) (fun c2 => ?_)
      · replace h := q_t c2 h
        refine lv_aload_n hx hb dX10_digest_360 rfl (lv_at hl 0 rfl) ?_
        refine lv_aload_n hx hb dX10_digest_361 rfl (lv_at hl 0 rfl) ?_
        refine va_get (D := D) (ci := 10) (C := RX10) (T := TX10) (N := 33) hx hb hts iw_X10_digest_X10 hown hK hP 0 rfl rfl 0 (by decide) (hts _ lk_X10_digest_0) (fun _ h9 => h9) rfl dX10_digest_362 ?_
        refine lv_sipush (v := 357) hx hb dX10_digest_365 (by decide) ?_
        obtain ⟨hg3, h⟩ := q_g h
        refine va_iald hx hb hK hP 1 0 rfl rfl (inb_vp hg3) dX10_digest_368 ?_
        obtain ⟨u369, hu369, h⟩ := q_b h
        refine q_aV (va_runV (As := [.int (all_ (357 : Int32).toNatClampNeg)]) (rest := []) ⟨hx, hb, hml, hown, hts⟩ (c_X10_mix l D E kI kB kQ q_this (.ref q_this_all) v_this_isKept v_this_refused v_this_ways v_this_starts v_this_homes v_this_hours v_this_froms v_this_tos v_this_whos v_this_place v_this_since v_this_rows v_this_few v_this_most v_this_parts v_this_fewParts v_this_mostParts v_this_far v_this_queue v_this_gone v_this_stood v_this_trips above_ below_ at_ start_ sort_ value_ fault_ men_ gos_ sum_ (all_ (357 : Int32).toNatClampNeg) N u369 hu369 H.size) (cwV 1 hts gX10_digest_X10_mix rfl rfl rfl vd_X10_mix ⟨Nat.le_of_ble_eq_true rfl, Nat.le_of_ble_eq_true rfl⟩) (q_pv hK hN hE hS hA hP hD [0] rfl rfl rfl 0 rfl (ci := 10) rfl) rfl rfl hl.1 rfl (lv_room (Nat.le_of_ble_eq_true rfl)) dX10_digest_369 ⟨Nat.zero_le _, Nat.zero_le _⟩) hP hD hS hA [0] [1] (Wr := [(q_this_all, .inl (kI, 1080, .inl all_))]) rfl rfl rfl (by decide) (fun H locs hP hD hS => ?_)
        have hP : va_P D vwCl [(q_this_all, .inl (kI, 1080, .inl all_)), (q_this, .inr (10, [.ref q_this_all, v_this_isKept, v_this_refused, .int above_, .int below_, .int at_, .int start_, .int sort_, .int value_, .int fault_, .int men_, .int gos_, v_this_ways, v_this_starts, v_this_homes, v_this_hours, v_this_froms, v_this_tos, v_this_whos, v_this_place, v_this_since, v_this_rows, v_this_few, v_this_most, v_this_parts, v_this_fewParts, v_this_mostParts, v_this_far, v_this_queue, v_this_gone, v_this_stood, v_this_trips, .long u369]))] H := hP
        have hD : va_D A [(q_this_all, .inl (kI, 1080, .inl all_)), (q_this, .inr (10, [.ref q_this_all, v_this_isKept, v_this_refused, .int above_, .int below_, .int at_, .int start_, .int sort_, .int value_, .int fault_, .int men_, .int gos_, v_this_ways, v_this_starts, v_this_homes, v_this_hours, v_this_froms, v_this_tos, v_this_whos, v_this_place, v_this_since, v_this_rows, v_this_few, v_this_most, v_this_parts, v_this_fewParts, v_this_mostParts, v_this_far, v_this_queue, v_this_gone, v_this_stood, v_this_trips, .long u369]))] := hD
        refine lv_aload_n hx hb dX10_digest_372 rfl (lv_at hl 0 rfl) ?_
        refine lv_aload_n hx hb dX10_digest_373 rfl (lv_at hl 0 rfl) ?_
        refine va_get (D := D) (ci := 10) (C := RX10) (T := TX10) (N := 33) hx hb hts iw_X10_digest_X10 hown hK hP 1 rfl rfl 0 (by decide) (hts _ lk_X10_digest_0) (fun _ h9 => h9) rfl dX10_digest_374 ?_
        refine lv_sipush (v := 358) hx hb dX10_digest_377 (by decide) ?_
        obtain ⟨hg4, h⟩ := q_g h
        refine va_iald hx hb hK hP 0 0 rfl rfl (inb_vp hg4) dX10_digest_380 ?_
        obtain ⟨u381, hu381, h⟩ := q_b h
        refine q_aV (va_runV (As := [.int (all_ (358 : Int32).toNatClampNeg)]) (rest := []) ⟨hx, hb, hml, hown, hts⟩ (c_X10_mix l D E kI kB kQ q_this (.ref q_this_all) v_this_isKept v_this_refused v_this_ways v_this_starts v_this_homes v_this_hours v_this_froms v_this_tos v_this_whos v_this_place v_this_since v_this_rows v_this_few v_this_most v_this_parts v_this_fewParts v_this_mostParts v_this_far v_this_queue v_this_gone v_this_stood v_this_trips above_ below_ at_ start_ sort_ value_ fault_ men_ gos_ u369 (all_ (358 : Int32).toNatClampNeg) N u381 hu381 H.size) (cwV 1 hts gX10_digest_X10_mix rfl rfl rfl vd_X10_mix ⟨Nat.le_of_ble_eq_true rfl, Nat.le_of_ble_eq_true rfl⟩) (q_pv hK hN hE hS hA hP hD [1] rfl rfl rfl 1 rfl (ci := 10) rfl) rfl rfl hl.1 rfl (lv_room (Nat.le_of_ble_eq_true rfl)) dX10_digest_381 ⟨Nat.zero_le _, Nat.zero_le _⟩) hP hD hS hA [1] [0] (Wr := [(q_this_all, .inl (kI, 1080, .inl all_))]) rfl rfl rfl (by decide) (fun H locs hP hD hS => ?_)
        have hP : va_P D vwCl [(q_this_all, .inl (kI, 1080, .inl all_)), (q_this, .inr (10, [.ref q_this_all, v_this_isKept, v_this_refused, .int above_, .int below_, .int at_, .int start_, .int sort_, .int value_, .int fault_, .int men_, .int gos_, v_this_ways, v_this_starts, v_this_homes, v_this_hours, v_this_froms, v_this_tos, v_this_whos, v_this_place, v_this_since, v_this_rows, v_this_few, v_this_most, v_this_parts, v_this_fewParts, v_this_mostParts, v_this_far, v_this_queue, v_this_gone, v_this_stood, v_this_trips, .long u381]))] H := hP
        have hD : va_D A [(q_this_all, .inl (kI, 1080, .inl all_)), (q_this, .inr (10, [.ref q_this_all, v_this_isKept, v_this_refused, .int above_, .int below_, .int at_, .int start_, .int sort_, .int value_, .int fault_, .int men_, .int gos_, v_this_ways, v_this_starts, v_this_homes, v_this_hours, v_this_froms, v_this_tos, v_this_whos, v_this_place, v_this_since, v_this_rows, v_this_few, v_this_most, v_this_parts, v_this_fewParts, v_this_mostParts, v_this_far, v_this_queue, v_this_gone, v_this_stood, v_this_trips, .long u381]))] := hD
        refine lv_aload_n hx hb dX10_digest_384 rfl (lv_at hl 0 rfl) ?_
        refine lv_aload_n hx hb dX10_digest_385 rfl (lv_at hl 0 rfl) ?_
        refine va_get (D := D) (ci := 10) (C := RX10) (T := TX10) (N := 33) hx hb hts iw_X10_digest_X10 hown hK hP 1 rfl rfl 3 (by decide) (hts _ lk_X10_digest_1) (fun _ h9 => h9) rfl dX10_digest_386 ?_
        obtain ⟨u389, hu389, h⟩ := q_b h
        refine q_aV (va_runV (As := [.int above_]) (rest := []) ⟨hx, hb, hml, hown, hts⟩ (c_X10_mix l D E kI kB kQ q_this (.ref q_this_all) v_this_isKept v_this_refused v_this_ways v_this_starts v_this_homes v_this_hours v_this_froms v_this_tos v_this_whos v_this_place v_this_since v_this_rows v_this_few v_this_most v_this_parts v_this_fewParts v_this_mostParts v_this_far v_this_queue v_this_gone v_this_stood v_this_trips above_ below_ at_ start_ sort_ value_ fault_ men_ gos_ u381 above_ N u389 hu389 H.size) (cwV 1 hts gX10_digest_X10_mix rfl rfl rfl vd_X10_mix ⟨Nat.le_of_ble_eq_true rfl, Nat.le_of_ble_eq_true rfl⟩) (q_pv hK hN hE hS hA hP hD [1] rfl rfl rfl 1 rfl (ci := 10) rfl) rfl rfl hl.1 rfl (lv_room (Nat.le_of_ble_eq_true rfl)) dX10_digest_389 ⟨Nat.zero_le _, Nat.zero_le _⟩) hP hD hS hA [1] [0] (Wr := [(q_this_all, .inl (kI, 1080, .inl all_))]) rfl rfl rfl (by decide) (fun H locs hP hD hS => ?_)
        have hP : va_P D vwCl [(q_this_all, .inl (kI, 1080, .inl all_)), (q_this, .inr (10, [.ref q_this_all, v_this_isKept, v_this_refused, .int above_, .int below_, .int at_, .int start_, .int sort_, .int value_, .int fault_, .int men_, .int gos_, v_this_ways, v_this_starts, v_this_homes, v_this_hours, v_this_froms, v_this_tos, v_this_whos, v_this_place, v_this_since, v_this_rows, v_this_few, v_this_most, v_this_parts, v_this_fewParts, v_this_mostParts, v_this_far, v_this_queue, v_this_gone, v_this_stood, v_this_trips, .long u389]))] H := hP
        have hD : va_D A [(q_this_all, .inl (kI, 1080, .inl all_)), (q_this, .inr (10, [.ref q_this_all, v_this_isKept, v_this_refused, .int above_, .int below_, .int at_, .int start_, .int sort_, .int value_, .int fault_, .int men_, .int gos_, v_this_ways, v_this_starts, v_this_homes, v_this_hours, v_this_froms, v_this_tos, v_this_whos, v_this_place, v_this_since, v_this_rows, v_this_few, v_this_most, v_this_parts, v_this_fewParts, v_this_mostParts, v_this_far, v_this_queue, v_this_gone, v_this_stood, v_this_trips, .long u389]))] := hD
        refine lv_aload_n hx hb dX10_digest_392 rfl (lv_at hl 0 rfl) ?_
        refine lv_aload_n hx hb dX10_digest_393 rfl (lv_at hl 0 rfl) ?_
        refine va_get (D := D) (ci := 10) (C := RX10) (T := TX10) (N := 33) hx hb hts iw_X10_digest_X10 hown hK hP 1 rfl rfl 4 (by decide) (hts _ lk_X10_digest_2) (fun _ h9 => h9) rfl dX10_digest_394 ?_
        obtain ⟨u397, hu397, h⟩ := q_b h
        refine q_aV (va_runV (As := [.int below_]) (rest := []) ⟨hx, hb, hml, hown, hts⟩ (c_X10_mix l D E kI kB kQ q_this (.ref q_this_all) v_this_isKept v_this_refused v_this_ways v_this_starts v_this_homes v_this_hours v_this_froms v_this_tos v_this_whos v_this_place v_this_since v_this_rows v_this_few v_this_most v_this_parts v_this_fewParts v_this_mostParts v_this_far v_this_queue v_this_gone v_this_stood v_this_trips above_ below_ at_ start_ sort_ value_ fault_ men_ gos_ u389 below_ N u397 hu397 H.size) (cwV 1 hts gX10_digest_X10_mix rfl rfl rfl vd_X10_mix ⟨Nat.le_of_ble_eq_true rfl, Nat.le_of_ble_eq_true rfl⟩) (q_pv hK hN hE hS hA hP hD [1] rfl rfl rfl 1 rfl (ci := 10) rfl) rfl rfl hl.1 rfl (lv_room (Nat.le_of_ble_eq_true rfl)) dX10_digest_397 ⟨Nat.zero_le _, Nat.zero_le _⟩) hP hD hS hA [1] [0] (Wr := [(q_this_all, .inl (kI, 1080, .inl all_))]) rfl rfl rfl (by decide) (fun H locs hP hD hS => ?_)
        have hP : va_P D vwCl [(q_this_all, .inl (kI, 1080, .inl all_)), (q_this, .inr (10, [.ref q_this_all, v_this_isKept, v_this_refused, .int above_, .int below_, .int at_, .int start_, .int sort_, .int value_, .int fault_, .int men_, .int gos_, v_this_ways, v_this_starts, v_this_homes, v_this_hours, v_this_froms, v_this_tos, v_this_whos, v_this_place, v_this_since, v_this_rows, v_this_few, v_this_most, v_this_parts, v_this_fewParts, v_this_mostParts, v_this_far, v_this_queue, v_this_gone, v_this_stood, v_this_trips, .long u397]))] H := hP
        have hD : va_D A [(q_this_all, .inl (kI, 1080, .inl all_)), (q_this, .inr (10, [.ref q_this_all, v_this_isKept, v_this_refused, .int above_, .int below_, .int at_, .int start_, .int sort_, .int value_, .int fault_, .int men_, .int gos_, v_this_ways, v_this_starts, v_this_homes, v_this_hours, v_this_froms, v_this_tos, v_this_whos, v_this_place, v_this_since, v_this_rows, v_this_few, v_this_most, v_this_parts, v_this_fewParts, v_this_mostParts, v_this_far, v_this_queue, v_this_gone, v_this_stood, v_this_trips, .long u397]))] := hD
        refine lv_aload_n hx hb dX10_digest_400 rfl (lv_at hl 0 rfl) ?_
        refine va_get (D := D) (ci := 10) (C := RX10) (T := TX10) (N := 33) hx hb hts iw_X10_digest_X10 hown hK hP 1 rfl rfl 32 (by decide) (hts _ lk_X10_digest_3) (fun _ h9 => h9) rfl dX10_digest_401 ?_
        have er := q_inj h
        subst er
        exact hret _ _ _ _ (hP.sub [1, 0] rfl) (hD.sub [1, 0] rfl rfl) hS dX10_digest_404
      · replace h := q_f c2 h
        refine lv_aload_n hx hb dX10_digest_340 rfl (lv_at hl 0 rfl) ?_
        refine lv_aload_n hx hb dX10_digest_341 rfl (lv_at hl 0 rfl) ?_
        refine va_get (D := D) (ci := 10) (C := RX10) (T := TX10) (N := 33) hx hb hts iw_X10_digest_X10 hown hK hP 0 rfl rfl 0 (by decide) (hts _ lk_X10_digest_0) (fun _ h9 => h9) rfl dX10_digest_342 ?_
        refine lv_sipush (v := 349) hx hb dX10_digest_345 (by decide) ?_
        refine lv_iload_n hx hb dX10_digest_348 rfl (lv_at hl 1 rfl) ?_
        refine lv_iadd hx hb dX10_digest_349 ?_
        obtain ⟨hg5, h⟩ := q_g h
        refine va_iald hx hb hK hP 1 0 rfl rfl (inb_vp hg5) dX10_digest_350 ?_
        obtain ⟨u351, hu351, h⟩ := q_b h
        refine q_aV (va_runV (As := [.int (all_ (349 + x1).toNatClampNeg)]) (rest := []) ⟨hx, hb, hml, hown, hts⟩ (c_X10_mix l D E kI kB kQ q_this (.ref q_this_all) v_this_isKept v_this_refused v_this_ways v_this_starts v_this_homes v_this_hours v_this_froms v_this_tos v_this_whos v_this_place v_this_since v_this_rows v_this_few v_this_most v_this_parts v_this_fewParts v_this_mostParts v_this_far v_this_queue v_this_gone v_this_stood v_this_trips above_ below_ at_ start_ sort_ value_ fault_ men_ gos_ sum_ (all_ (349 + x1).toNatClampNeg) N u351 hu351 H.size) (cwV 1 hts gX10_digest_X10_mix rfl rfl rfl vd_X10_mix ⟨Nat.le_of_ble_eq_true rfl, Nat.le_of_ble_eq_true rfl⟩) (q_pv hK hN hE hS hA hP hD [0] rfl rfl rfl 0 rfl (ci := 10) rfl) rfl rfl hl.1 rfl (lv_room (Nat.le_of_ble_eq_true rfl)) dX10_digest_351 ⟨Nat.zero_le _, Nat.zero_le _⟩) hP hD hS hA [0] [1] (Wr := [(q_this_all, .inl (kI, 1080, .inl all_))]) rfl rfl rfl (by decide) (fun H locs hP hD hS => ?_)
        have hP : va_P D vwCl [(q_this_all, .inl (kI, 1080, .inl all_)), (q_this, .inr (10, [.ref q_this_all, v_this_isKept, v_this_refused, .int above_, .int below_, .int at_, .int start_, .int sort_, .int value_, .int fault_, .int men_, .int gos_, v_this_ways, v_this_starts, v_this_homes, v_this_hours, v_this_froms, v_this_tos, v_this_whos, v_this_place, v_this_since, v_this_rows, v_this_few, v_this_most, v_this_parts, v_this_fewParts, v_this_mostParts, v_this_far, v_this_queue, v_this_gone, v_this_stood, v_this_trips, .long u351]))] H := hP
        have hD : va_D A [(q_this_all, .inl (kI, 1080, .inl all_)), (q_this, .inr (10, [.ref q_this_all, v_this_isKept, v_this_refused, .int above_, .int below_, .int at_, .int start_, .int sort_, .int value_, .int fault_, .int men_, .int gos_, v_this_ways, v_this_starts, v_this_homes, v_this_hours, v_this_froms, v_this_tos, v_this_whos, v_this_place, v_this_since, v_this_rows, v_this_few, v_this_most, v_this_parts, v_this_fewParts, v_this_mostParts, v_this_far, v_this_queue, v_this_gone, v_this_stood, v_this_trips, .long u351]))] := hD
        refine lv_iinc (v := (x1 + 1)) (lv' := [(1, .int (x1 + 1)), (0, .ref q_this)]) hx hb dX10_digest_354 hl (k := 1) rfl rfl (by decide) rfl (fun ls hl => ?_)
        refine lv_goto (tgt := 329) hx hb dX10_digest_357 (by decide) ?_
        exact ih329 (x1 + 1) u351 h _ _ _ (hP.sub [1, 0] rfl) (hD.sub [1, 0] rfl rfl) hS (lv_sub hl [1, 0] rfl)
  have J302 : ∀ (n302 : Nat) (x1 : Int32) (sum_ : Int64), g_X10_digest_302 N above_ below_ all_ n302 x1 sum_ = some r → ∀ (H : Heap) (locs : List Loc) (ls : Array Slot), va_P D vwCl [(q_this, .inr (10, [.ref q_this_all, v_this_isKept, v_this_refused, .int above_, .int below_, .int at_, .int start_, .int sort_, .int value_, .int fault_, .int men_, .int gos_, v_this_ways, v_this_starts, v_this_homes, v_this_hours, v_this_froms, v_this_tos, v_this_whos, v_this_place, v_this_since, v_this_rows, v_this_few, v_this_most, v_this_parts, v_this_fewParts, v_this_mostParts, v_this_far, v_this_queue, v_this_gone, v_this_stood, v_this_trips, .long sum_])), (q_this_all, .inl (kI, 1080, .inl all_))] H → va_D A [(q_this, .inr (10, [.ref q_this_all, v_this_isKept, v_this_refused, .int above_, .int below_, .int at_, .int start_, .int sort_, .int value_, .int fault_, .int men_, .int gos_, v_this_ways, v_this_starts, v_this_homes, v_this_hours, v_this_froms, v_this_tos, v_this_whos, v_this_place, v_this_since, v_this_rows, v_this_few, v_this_most, v_this_parts, v_this_fewParts, v_this_mostParts, v_this_far, v_this_queue, v_this_gone, v_this_stood, v_this_trips, .long sum_])), (q_this_all, .inl (kI, 1080, .inl all_))] → va_S A s.heap H locs → lv_has ls 2 [(0, .ref q_this), (1, .int x1)] → W p l e rm_X10_digest s m args below meth c H locs 0 0 Q (F0 m 302 ls []) := by
    intro n302
    induction n302 with
    | zero => intro x1 sum_ h; exact absurd h (by rw [g_X10_digest_302]; exact fun q => nomatch q)
    | succ n302 ih302 =>
      intro x1 sum_ h H locs ls hP hD hS hl
      rw [g_X10_digest_302] at h
      refine lv_iload_n hx hb dX10_digest_302 rfl (lv_at hl 1 rfl) ?_
      refine lv_iconst (v := 4) hx hb dX10_digest_303 (by decide) ?_
      refine lv_icmp_ge (tgt := 327) hx hb dX10_digest_304 (by decide) (fun c6 => ?_) (fun c6 => ?_)
      · replace h := q_t c6 h
        refine lv_iconst (v := 0) hx hb dX10_digest_327 (by decide) ?_
        refine lv_istore_n (lv' := [(1, .int 0), (0, .ref q_this)]) hx hb dX10_digest_328 rfl hl (by decide) rfl (fun ls hl => ?_)
        exact J329 N 0 sum_ h _ _ _ (hP.sub [0, 1] rfl) (hD.sub [0, 1] rfl rfl) hS (lv_sub hl [1, 0] rfl)
      · replace h := q_f c6 h
        refine lv_aload_n hx hb dX10_digest_307 rfl (lv_at hl 0 rfl) ?_
        refine lv_aload_n hx hb dX10_digest_308 rfl (lv_at hl 0 rfl) ?_
        refine va_get (D := D) (ci := 10) (C := RX10) (T := TX10) (N := 33) hx hb hts iw_X10_digest_X10 hown hK hP 0 rfl rfl 0 (by decide) (hts _ lk_X10_digest_0) (fun _ h9 => h9) rfl dX10_digest_309 ?_
        refine lv_sipush (v := 345) hx hb dX10_digest_312 (by decide) ?_
        refine lv_iload_n hx hb dX10_digest_315 rfl (lv_at hl 1 rfl) ?_
        refine lv_iadd hx hb dX10_digest_316 ?_
        obtain ⟨hg7, h⟩ := q_g h
        refine va_iald hx hb hK hP 1 0 rfl rfl (inb_vp hg7) dX10_digest_317 ?_
        obtain ⟨u318, hu318, h⟩ := q_b h
        refine q_aV (va_runV (As := [.int (all_ (345 + x1).toNatClampNeg)]) (rest := []) ⟨hx, hb, hml, hown, hts⟩ (c_X10_mix l D E kI kB kQ q_this (.ref q_this_all) v_this_isKept v_this_refused v_this_ways v_this_starts v_this_homes v_this_hours v_this_froms v_this_tos v_this_whos v_this_place v_this_since v_this_rows v_this_few v_this_most v_this_parts v_this_fewParts v_this_mostParts v_this_far v_this_queue v_this_gone v_this_stood v_this_trips above_ below_ at_ start_ sort_ value_ fault_ men_ gos_ sum_ (all_ (345 + x1).toNatClampNeg) N u318 hu318 H.size) (cwV 1 hts gX10_digest_X10_mix rfl rfl rfl vd_X10_mix ⟨Nat.le_of_ble_eq_true rfl, Nat.le_of_ble_eq_true rfl⟩) (q_pv hK hN hE hS hA hP hD [0] rfl rfl rfl 0 rfl (ci := 10) rfl) rfl rfl hl.1 rfl (lv_room (Nat.le_of_ble_eq_true rfl)) dX10_digest_318 ⟨Nat.zero_le _, Nat.zero_le _⟩) hP hD hS hA [0] [1] (Wr := [(q_this_all, .inl (kI, 1080, .inl all_))]) rfl rfl rfl (by decide) (fun H locs hP hD hS => ?_)
        have hP : va_P D vwCl [(q_this_all, .inl (kI, 1080, .inl all_)), (q_this, .inr (10, [.ref q_this_all, v_this_isKept, v_this_refused, .int above_, .int below_, .int at_, .int start_, .int sort_, .int value_, .int fault_, .int men_, .int gos_, v_this_ways, v_this_starts, v_this_homes, v_this_hours, v_this_froms, v_this_tos, v_this_whos, v_this_place, v_this_since, v_this_rows, v_this_few, v_this_most, v_this_parts, v_this_fewParts, v_this_mostParts, v_this_far, v_this_queue, v_this_gone, v_this_stood, v_this_trips, .long u318]))] H := hP
        have hD : va_D A [(q_this_all, .inl (kI, 1080, .inl all_)), (q_this, .inr (10, [.ref q_this_all, v_this_isKept, v_this_refused, .int above_, .int below_, .int at_, .int start_, .int sort_, .int value_, .int fault_, .int men_, .int gos_, v_this_ways, v_this_starts, v_this_homes, v_this_hours, v_this_froms, v_this_tos, v_this_whos, v_this_place, v_this_since, v_this_rows, v_this_few, v_this_most, v_this_parts, v_this_fewParts, v_this_mostParts, v_this_far, v_this_queue, v_this_gone, v_this_stood, v_this_trips, .long u318]))] := hD
        refine lv_iinc (v := (x1 + 1)) (lv' := [(1, .int (x1 + 1)), (0, .ref q_this)]) hx hb dX10_digest_321 hl (k := 1) rfl rfl (by decide) rfl (fun ls hl => ?_)
        refine lv_goto (tgt := 302) hx hb dX10_digest_324 (by decide) ?_
        exact ih302 (x1 + 1) u318 h _ _ _ (hP.sub [1, 0] rfl) (hD.sub [1, 0] rfl rfl) hS (lv_sub hl [1, 0] rfl)
  have J256 : ∀ (n256 : Nat) (x1 : Int32) (sum_ : Int64), g_X10_digest_256 N above_ below_ all_ n256 x1 sum_ = some r → ∀ (H : Heap) (locs : List Loc) (ls : Array Slot), va_P D vwCl [(q_this, .inr (10, [.ref q_this_all, v_this_isKept, v_this_refused, .int above_, .int below_, .int at_, .int start_, .int sort_, .int value_, .int fault_, .int men_, .int gos_, v_this_ways, v_this_starts, v_this_homes, v_this_hours, v_this_froms, v_this_tos, v_this_whos, v_this_place, v_this_since, v_this_rows, v_this_few, v_this_most, v_this_parts, v_this_fewParts, v_this_mostParts, v_this_far, v_this_queue, v_this_gone, v_this_stood, v_this_trips, .long sum_])), (q_this_all, .inl (kI, 1080, .inl all_))] H → va_D A [(q_this, .inr (10, [.ref q_this_all, v_this_isKept, v_this_refused, .int above_, .int below_, .int at_, .int start_, .int sort_, .int value_, .int fault_, .int men_, .int gos_, v_this_ways, v_this_starts, v_this_homes, v_this_hours, v_this_froms, v_this_tos, v_this_whos, v_this_place, v_this_since, v_this_rows, v_this_few, v_this_most, v_this_parts, v_this_fewParts, v_this_mostParts, v_this_far, v_this_queue, v_this_gone, v_this_stood, v_this_trips, .long sum_])), (q_this_all, .inl (kI, 1080, .inl all_))] → va_S A s.heap H locs → lv_has ls 2 [(0, .ref q_this), (1, .int x1)] → W p l e rm_X10_digest s m args below meth c H locs 0 0 Q (F0 m 256 ls []) := by
    intro n256
    induction n256 with
    | zero => intro x1 sum_ h; exact absurd h (by rw [g_X10_digest_256]; exact fun q => nomatch q)
    | succ n256 ih256 =>
      intro x1 sum_ h H locs ls hP hD hS hl
      rw [g_X10_digest_256] at h
      refine lv_iload_n hx hb dX10_digest_256 rfl (lv_at hl 1 rfl) ?_
      refine lv_aload_n hx hb dX10_digest_257 rfl (lv_at hl 0 rfl) ?_
      refine va_get (D := D) (ci := 10) (C := RX10) (T := TX10) (N := 33) hx hb hts iw_X10_digest_X10 hown hK hP 0 rfl rfl 0 (by decide) (hts _ lk_X10_digest_0) (fun _ h9 => h9) rfl dX10_digest_258 ?_
      refine lv_iconst (v := 5) hx hb dX10_digest_261 (by decide) ?_
      obtain ⟨hg8, h⟩ := q_g h
      refine va_iald hx hb hK hP 1 0 rfl rfl (inb_vp hg8) dX10_digest_262 ?_
      refine lv_icmp_ge (tgt := 300) hx hb dX10_digest_263 (by decide) (fun c9 => ?_) (fun c9 => ?_)
      · replace h := q_t c9 h
        refine lv_iconst (v := 0) hx hb dX10_digest_300 (by decide) ?_
        refine lv_istore_n (lv' := [(1, .int 0), (0, .ref q_this)]) hx hb dX10_digest_301 rfl hl (by decide) rfl (fun ls hl => ?_)
        exact J302 N 0 sum_ h _ _ _ (hP.sub [0, 1] rfl) (hD.sub [0, 1] rfl rfl) hS (lv_sub hl [1, 0] rfl)
      · replace h := q_f c9 h
        refine lv_aload_n hx hb dX10_digest_266 rfl (lv_at hl 0 rfl) ?_
        refine lv_aload_n hx hb dX10_digest_267 rfl (lv_at hl 0 rfl) ?_
        refine va_get (D := D) (ci := 10) (C := RX10) (T := TX10) (N := 33) hx hb hts iw_X10_digest_X10 hown hK hP 0 rfl rfl 0 (by decide) (hts _ lk_X10_digest_0) (fun _ h9 => h9) rfl dX10_digest_268 ?_
        refine lv_sipush (v := 337) hx hb dX10_digest_271 (by decide) ?_
        refine lv_iload_n hx hb dX10_digest_274 rfl (lv_at hl 1 rfl) ?_
        refine lv_iadd hx hb dX10_digest_275 ?_
        obtain ⟨hg10, h⟩ := q_g h
        refine va_iald hx hb hK hP 1 0 rfl rfl (inb_vp hg10) dX10_digest_276 ?_
        obtain ⟨u277, hu277, h⟩ := q_b h
        refine q_aV (va_runV (As := [.int (all_ (337 + x1).toNatClampNeg)]) (rest := []) ⟨hx, hb, hml, hown, hts⟩ (c_X10_mix l D E kI kB kQ q_this (.ref q_this_all) v_this_isKept v_this_refused v_this_ways v_this_starts v_this_homes v_this_hours v_this_froms v_this_tos v_this_whos v_this_place v_this_since v_this_rows v_this_few v_this_most v_this_parts v_this_fewParts v_this_mostParts v_this_far v_this_queue v_this_gone v_this_stood v_this_trips above_ below_ at_ start_ sort_ value_ fault_ men_ gos_ sum_ (all_ (337 + x1).toNatClampNeg) N u277 hu277 H.size) (cwV 1 hts gX10_digest_X10_mix rfl rfl rfl vd_X10_mix ⟨Nat.le_of_ble_eq_true rfl, Nat.le_of_ble_eq_true rfl⟩) (q_pv hK hN hE hS hA hP hD [0] rfl rfl rfl 0 rfl (ci := 10) rfl) rfl rfl hl.1 rfl (lv_room (Nat.le_of_ble_eq_true rfl)) dX10_digest_277 ⟨Nat.zero_le _, Nat.zero_le _⟩) hP hD hS hA [0] [1] (Wr := [(q_this_all, .inl (kI, 1080, .inl all_))]) rfl rfl rfl (by decide) (fun H locs hP hD hS => ?_)
        have hP : va_P D vwCl [(q_this_all, .inl (kI, 1080, .inl all_)), (q_this, .inr (10, [.ref q_this_all, v_this_isKept, v_this_refused, .int above_, .int below_, .int at_, .int start_, .int sort_, .int value_, .int fault_, .int men_, .int gos_, v_this_ways, v_this_starts, v_this_homes, v_this_hours, v_this_froms, v_this_tos, v_this_whos, v_this_place, v_this_since, v_this_rows, v_this_few, v_this_most, v_this_parts, v_this_fewParts, v_this_mostParts, v_this_far, v_this_queue, v_this_gone, v_this_stood, v_this_trips, .long u277]))] H := hP
        have hD : va_D A [(q_this_all, .inl (kI, 1080, .inl all_)), (q_this, .inr (10, [.ref q_this_all, v_this_isKept, v_this_refused, .int above_, .int below_, .int at_, .int start_, .int sort_, .int value_, .int fault_, .int men_, .int gos_, v_this_ways, v_this_starts, v_this_homes, v_this_hours, v_this_froms, v_this_tos, v_this_whos, v_this_place, v_this_since, v_this_rows, v_this_few, v_this_most, v_this_parts, v_this_fewParts, v_this_mostParts, v_this_far, v_this_queue, v_this_gone, v_this_stood, v_this_trips, .long u277]))] := hD
        refine lv_aload_n hx hb dX10_digest_280 rfl (lv_at hl 0 rfl) ?_
        refine lv_aload_n hx hb dX10_digest_281 rfl (lv_at hl 0 rfl) ?_
        refine va_get (D := D) (ci := 10) (C := RX10) (T := TX10) (N := 33) hx hb hts iw_X10_digest_X10 hown hK hP 1 rfl rfl 0 (by decide) (hts _ lk_X10_digest_0) (fun _ h9 => h9) rfl dX10_digest_282 ?_
        refine lv_sipush (v := 341) hx hb dX10_digest_285 (by decide) ?_
        refine lv_iload_n hx hb dX10_digest_288 rfl (lv_at hl 1 rfl) ?_
        refine lv_iadd hx hb dX10_digest_289 ?_
        obtain ⟨hg11, h⟩ := q_g h
        refine va_iald hx hb hK hP 0 0 rfl rfl (inb_vp hg11) dX10_digest_290 ?_
        obtain ⟨u291, hu291, h⟩ := q_b h
        refine q_aV (va_runV (As := [.int (all_ (341 + x1).toNatClampNeg)]) (rest := []) ⟨hx, hb, hml, hown, hts⟩ (c_X10_mix l D E kI kB kQ q_this (.ref q_this_all) v_this_isKept v_this_refused v_this_ways v_this_starts v_this_homes v_this_hours v_this_froms v_this_tos v_this_whos v_this_place v_this_since v_this_rows v_this_few v_this_most v_this_parts v_this_fewParts v_this_mostParts v_this_far v_this_queue v_this_gone v_this_stood v_this_trips above_ below_ at_ start_ sort_ value_ fault_ men_ gos_ u277 (all_ (341 + x1).toNatClampNeg) N u291 hu291 H.size) (cwV 1 hts gX10_digest_X10_mix rfl rfl rfl vd_X10_mix ⟨Nat.le_of_ble_eq_true rfl, Nat.le_of_ble_eq_true rfl⟩) (q_pv hK hN hE hS hA hP hD [1] rfl rfl rfl 1 rfl (ci := 10) rfl) rfl rfl hl.1 rfl (lv_room (Nat.le_of_ble_eq_true rfl)) dX10_digest_291 ⟨Nat.zero_le _, Nat.zero_le _⟩) hP hD hS hA [1] [0] (Wr := [(q_this_all, .inl (kI, 1080, .inl all_))]) rfl rfl rfl (by decide) (fun H locs hP hD hS => ?_)
        have hP : va_P D vwCl [(q_this_all, .inl (kI, 1080, .inl all_)), (q_this, .inr (10, [.ref q_this_all, v_this_isKept, v_this_refused, .int above_, .int below_, .int at_, .int start_, .int sort_, .int value_, .int fault_, .int men_, .int gos_, v_this_ways, v_this_starts, v_this_homes, v_this_hours, v_this_froms, v_this_tos, v_this_whos, v_this_place, v_this_since, v_this_rows, v_this_few, v_this_most, v_this_parts, v_this_fewParts, v_this_mostParts, v_this_far, v_this_queue, v_this_gone, v_this_stood, v_this_trips, .long u291]))] H := hP
        have hD : va_D A [(q_this_all, .inl (kI, 1080, .inl all_)), (q_this, .inr (10, [.ref q_this_all, v_this_isKept, v_this_refused, .int above_, .int below_, .int at_, .int start_, .int sort_, .int value_, .int fault_, .int men_, .int gos_, v_this_ways, v_this_starts, v_this_homes, v_this_hours, v_this_froms, v_this_tos, v_this_whos, v_this_place, v_this_since, v_this_rows, v_this_few, v_this_most, v_this_parts, v_this_fewParts, v_this_mostParts, v_this_far, v_this_queue, v_this_gone, v_this_stood, v_this_trips, .long u291]))] := hD
        refine lv_iinc (v := (x1 + 1)) (lv' := [(1, .int (x1 + 1)), (0, .ref q_this)]) hx hb dX10_digest_294 hl (k := 1) rfl rfl (by decide) rfl (fun ls hl => ?_)
        refine lv_goto (tgt := 256) hx hb dX10_digest_297 (by decide) ?_
        exact ih256 (x1 + 1) u291 h _ _ _ (hP.sub [1, 0] rfl) (hD.sub [1, 0] rfl rfl) hS (lv_sub hl [1, 0] rfl)
  have J224 : ∀ (n224 : Nat) (x1 : Int32) (sum_ : Int64), g_X10_digest_224 N above_ below_ all_ n224 x1 sum_ = some r → ∀ (H : Heap) (locs : List Loc) (ls : Array Slot), va_P D vwCl [(q_this, .inr (10, [.ref q_this_all, v_this_isKept, v_this_refused, .int above_, .int below_, .int at_, .int start_, .int sort_, .int value_, .int fault_, .int men_, .int gos_, v_this_ways, v_this_starts, v_this_homes, v_this_hours, v_this_froms, v_this_tos, v_this_whos, v_this_place, v_this_since, v_this_rows, v_this_few, v_this_most, v_this_parts, v_this_fewParts, v_this_mostParts, v_this_far, v_this_queue, v_this_gone, v_this_stood, v_this_trips, .long sum_])), (q_this_all, .inl (kI, 1080, .inl all_))] H → va_D A [(q_this, .inr (10, [.ref q_this_all, v_this_isKept, v_this_refused, .int above_, .int below_, .int at_, .int start_, .int sort_, .int value_, .int fault_, .int men_, .int gos_, v_this_ways, v_this_starts, v_this_homes, v_this_hours, v_this_froms, v_this_tos, v_this_whos, v_this_place, v_this_since, v_this_rows, v_this_few, v_this_most, v_this_parts, v_this_fewParts, v_this_mostParts, v_this_far, v_this_queue, v_this_gone, v_this_stood, v_this_trips, .long sum_])), (q_this_all, .inl (kI, 1080, .inl all_))] → va_S A s.heap H locs → lv_has ls 2 [(0, .ref q_this), (1, .int x1)] → W p l e rm_X10_digest s m args below meth c H locs 0 0 Q (F0 m 224 ls []) := by
    intro n224
    induction n224 with
    | zero => intro x1 sum_ h; exact absurd h (by rw [g_X10_digest_224]; exact fun q => nomatch q)
    | succ n224 ih224 =>
      intro x1 sum_ h H locs ls hP hD hS hl
      rw [g_X10_digest_224] at h
      refine lv_iload_n hx hb dX10_digest_224 rfl (lv_at hl 1 rfl) ?_
      refine lv_aload_n hx hb dX10_digest_225 rfl (lv_at hl 0 rfl) ?_
      refine va_get (D := D) (ci := 10) (C := RX10) (T := TX10) (N := 33) hx hb hts iw_X10_digest_X10 hown hK hP 0 rfl rfl 0 (by decide) (hts _ lk_X10_digest_0) (fun _ h9 => h9) rfl dX10_digest_226 ?_
      refine lv_iconst (v := 4) hx hb dX10_digest_229 (by decide) ?_
      obtain ⟨hg12, h⟩ := q_g h
      refine va_iald hx hb hK hP 1 0 rfl rfl (inb_vp hg12) dX10_digest_230 ?_
      refine lv_icmp_ge (tgt := 254) hx hb dX10_digest_231 (by decide) (fun c13 => ?_) (fun c13 => ?_)
      · replace h := q_t c13 h
        refine lv_iconst (v := 0) hx hb dX10_digest_254 (by decide) ?_
        refine lv_istore_n (lv' := [(1, .int 0), (0, .ref q_this)]) hx hb dX10_digest_255 rfl hl (by decide) rfl (fun ls hl => ?_)
        exact J256 N 0 sum_ h _ _ _ (hP.sub [0, 1] rfl) (hD.sub [0, 1] rfl rfl) hS (lv_sub hl [1, 0] rfl)
      · replace h := q_f c13 h
        refine lv_aload_n hx hb dX10_digest_234 rfl (lv_at hl 0 rfl) ?_
        refine lv_aload_n hx hb dX10_digest_235 rfl (lv_at hl 0 rfl) ?_
        refine va_get (D := D) (ci := 10) (C := RX10) (T := TX10) (N := 33) hx hb hts iw_X10_digest_X10 hown hK hP 0 rfl rfl 0 (by decide) (hts _ lk_X10_digest_0) (fun _ h9 => h9) rfl dX10_digest_236 ?_
        refine lv_sipush (v := 329) hx hb dX10_digest_239 (by decide) ?_
        refine lv_iload_n hx hb dX10_digest_242 rfl (lv_at hl 1 rfl) ?_
        refine lv_iadd hx hb dX10_digest_243 ?_
        obtain ⟨hg14, h⟩ := q_g h
        refine va_iald hx hb hK hP 1 0 rfl rfl (inb_vp hg14) dX10_digest_244 ?_
        obtain ⟨u245, hu245, h⟩ := q_b h
        refine q_aV (va_runV (As := [.int (all_ (329 + x1).toNatClampNeg)]) (rest := []) ⟨hx, hb, hml, hown, hts⟩ (c_X10_mix l D E kI kB kQ q_this (.ref q_this_all) v_this_isKept v_this_refused v_this_ways v_this_starts v_this_homes v_this_hours v_this_froms v_this_tos v_this_whos v_this_place v_this_since v_this_rows v_this_few v_this_most v_this_parts v_this_fewParts v_this_mostParts v_this_far v_this_queue v_this_gone v_this_stood v_this_trips above_ below_ at_ start_ sort_ value_ fault_ men_ gos_ sum_ (all_ (329 + x1).toNatClampNeg) N u245 hu245 H.size) (cwV 1 hts gX10_digest_X10_mix rfl rfl rfl vd_X10_mix ⟨Nat.le_of_ble_eq_true rfl, Nat.le_of_ble_eq_true rfl⟩) (q_pv hK hN hE hS hA hP hD [0] rfl rfl rfl 0 rfl (ci := 10) rfl) rfl rfl hl.1 rfl (lv_room (Nat.le_of_ble_eq_true rfl)) dX10_digest_245 ⟨Nat.zero_le _, Nat.zero_le _⟩) hP hD hS hA [0] [1] (Wr := [(q_this_all, .inl (kI, 1080, .inl all_))]) rfl rfl rfl (by decide) (fun H locs hP hD hS => ?_)
        have hP : va_P D vwCl [(q_this_all, .inl (kI, 1080, .inl all_)), (q_this, .inr (10, [.ref q_this_all, v_this_isKept, v_this_refused, .int above_, .int below_, .int at_, .int start_, .int sort_, .int value_, .int fault_, .int men_, .int gos_, v_this_ways, v_this_starts, v_this_homes, v_this_hours, v_this_froms, v_this_tos, v_this_whos, v_this_place, v_this_since, v_this_rows, v_this_few, v_this_most, v_this_parts, v_this_fewParts, v_this_mostParts, v_this_far, v_this_queue, v_this_gone, v_this_stood, v_this_trips, .long u245]))] H := hP
        have hD : va_D A [(q_this_all, .inl (kI, 1080, .inl all_)), (q_this, .inr (10, [.ref q_this_all, v_this_isKept, v_this_refused, .int above_, .int below_, .int at_, .int start_, .int sort_, .int value_, .int fault_, .int men_, .int gos_, v_this_ways, v_this_starts, v_this_homes, v_this_hours, v_this_froms, v_this_tos, v_this_whos, v_this_place, v_this_since, v_this_rows, v_this_few, v_this_most, v_this_parts, v_this_fewParts, v_this_mostParts, v_this_far, v_this_queue, v_this_gone, v_this_stood, v_this_trips, .long u245]))] := hD
        refine lv_iinc (v := (x1 + 1)) (lv' := [(1, .int (x1 + 1)), (0, .ref q_this)]) hx hb dX10_digest_248 hl (k := 1) rfl rfl (by decide) rfl (fun ls hl => ?_)
        refine lv_goto (tgt := 224) hx hb dX10_digest_251 (by decide) ?_
        exact ih224 (x1 + 1) u245 h _ _ _ (hP.sub [1, 0] rfl) (hD.sub [1, 0] rfl rfl) hS (lv_sub hl [1, 0] rfl)
  have J192 : ∀ (n192 : Nat) (x1 : Int32) (sum_ : Int64), g_X10_digest_192 N above_ below_ all_ n192 x1 sum_ = some r → ∀ (H : Heap) (locs : List Loc) (ls : Array Slot), va_P D vwCl [(q_this, .inr (10, [.ref q_this_all, v_this_isKept, v_this_refused, .int above_, .int below_, .int at_, .int start_, .int sort_, .int value_, .int fault_, .int men_, .int gos_, v_this_ways, v_this_starts, v_this_homes, v_this_hours, v_this_froms, v_this_tos, v_this_whos, v_this_place, v_this_since, v_this_rows, v_this_few, v_this_most, v_this_parts, v_this_fewParts, v_this_mostParts, v_this_far, v_this_queue, v_this_gone, v_this_stood, v_this_trips, .long sum_])), (q_this_all, .inl (kI, 1080, .inl all_))] H → va_D A [(q_this, .inr (10, [.ref q_this_all, v_this_isKept, v_this_refused, .int above_, .int below_, .int at_, .int start_, .int sort_, .int value_, .int fault_, .int men_, .int gos_, v_this_ways, v_this_starts, v_this_homes, v_this_hours, v_this_froms, v_this_tos, v_this_whos, v_this_place, v_this_since, v_this_rows, v_this_few, v_this_most, v_this_parts, v_this_fewParts, v_this_mostParts, v_this_far, v_this_queue, v_this_gone, v_this_stood, v_this_trips, .long sum_])), (q_this_all, .inl (kI, 1080, .inl all_))] → va_S A s.heap H locs → lv_has ls 2 [(0, .ref q_this), (1, .int x1)] → W p l e rm_X10_digest s m args below meth c H locs 0 0 Q (F0 m 192 ls []) := by
    intro n192
    induction n192 with
    | zero => intro x1 sum_ h; exact absurd h (by rw [g_X10_digest_192]; exact fun q => nomatch q)
    | succ n192 ih192 =>
      intro x1 sum_ h H locs ls hP hD hS hl
      rw [g_X10_digest_192] at h
      refine lv_iload_n hx hb dX10_digest_192 rfl (lv_at hl 1 rfl) ?_
      refine lv_aload_n hx hb dX10_digest_193 rfl (lv_at hl 0 rfl) ?_
      refine va_get (D := D) (ci := 10) (C := RX10) (T := TX10) (N := 33) hx hb hts iw_X10_digest_X10 hown hK hP 0 rfl rfl 0 (by decide) (hts _ lk_X10_digest_0) (fun _ h9 => h9) rfl dX10_digest_194 ?_
      refine lv_iconst (v := 3) hx hb dX10_digest_197 (by decide) ?_
      obtain ⟨hg15, h⟩ := q_g h
      refine va_iald hx hb hK hP 1 0 rfl rfl (inb_vp hg15) dX10_digest_198 ?_
      refine lv_icmp_ge (tgt := 222) hx hb dX10_digest_199 (by decide) (fun c16 => ?_) (fun c16 => ?_)
      · replace h := q_t c16 h
        refine lv_iconst (v := 0) hx hb dX10_digest_222 (by decide) ?_
        refine lv_istore_n (lv' := [(1, .int 0), (0, .ref q_this)]) hx hb dX10_digest_223 rfl hl (by decide) rfl (fun ls hl => ?_)
        exact J224 N 0 sum_ h _ _ _ (hP.sub [0, 1] rfl) (hD.sub [0, 1] rfl rfl) hS (lv_sub hl [1, 0] rfl)
      · replace h := q_f c16 h
        refine lv_aload_n hx hb dX10_digest_202 rfl (lv_at hl 0 rfl) ?_
        refine lv_aload_n hx hb dX10_digest_203 rfl (lv_at hl 0 rfl) ?_
        refine va_get (D := D) (ci := 10) (C := RX10) (T := TX10) (N := 33) hx hb hts iw_X10_digest_X10 hown hK hP 0 rfl rfl 0 (by decide) (hts _ lk_X10_digest_0) (fun _ h9 => h9) rfl dX10_digest_204 ?_
        refine lv_sipush (v := 129) hx hb dX10_digest_207 (by decide) ?_
        refine lv_iload_n hx hb dX10_digest_210 rfl (lv_at hl 1 rfl) ?_
        refine lv_iadd hx hb dX10_digest_211 ?_
        obtain ⟨hg17, h⟩ := q_g h
        refine va_iald hx hb hK hP 1 0 rfl rfl (inb_vp hg17) dX10_digest_212 ?_
        obtain ⟨u213, hu213, h⟩ := q_b h
        refine q_aV (va_runV (As := [.int (all_ (129 + x1).toNatClampNeg)]) (rest := []) ⟨hx, hb, hml, hown, hts⟩ (c_X10_mix l D E kI kB kQ q_this (.ref q_this_all) v_this_isKept v_this_refused v_this_ways v_this_starts v_this_homes v_this_hours v_this_froms v_this_tos v_this_whos v_this_place v_this_since v_this_rows v_this_few v_this_most v_this_parts v_this_fewParts v_this_mostParts v_this_far v_this_queue v_this_gone v_this_stood v_this_trips above_ below_ at_ start_ sort_ value_ fault_ men_ gos_ sum_ (all_ (129 + x1).toNatClampNeg) N u213 hu213 H.size) (cwV 1 hts gX10_digest_X10_mix rfl rfl rfl vd_X10_mix ⟨Nat.le_of_ble_eq_true rfl, Nat.le_of_ble_eq_true rfl⟩) (q_pv hK hN hE hS hA hP hD [0] rfl rfl rfl 0 rfl (ci := 10) rfl) rfl rfl hl.1 rfl (lv_room (Nat.le_of_ble_eq_true rfl)) dX10_digest_213 ⟨Nat.zero_le _, Nat.zero_le _⟩) hP hD hS hA [0] [1] (Wr := [(q_this_all, .inl (kI, 1080, .inl all_))]) rfl rfl rfl (by decide) (fun H locs hP hD hS => ?_)
        have hP : va_P D vwCl [(q_this_all, .inl (kI, 1080, .inl all_)), (q_this, .inr (10, [.ref q_this_all, v_this_isKept, v_this_refused, .int above_, .int below_, .int at_, .int start_, .int sort_, .int value_, .int fault_, .int men_, .int gos_, v_this_ways, v_this_starts, v_this_homes, v_this_hours, v_this_froms, v_this_tos, v_this_whos, v_this_place, v_this_since, v_this_rows, v_this_few, v_this_most, v_this_parts, v_this_fewParts, v_this_mostParts, v_this_far, v_this_queue, v_this_gone, v_this_stood, v_this_trips, .long u213]))] H := hP
        have hD : va_D A [(q_this_all, .inl (kI, 1080, .inl all_)), (q_this, .inr (10, [.ref q_this_all, v_this_isKept, v_this_refused, .int above_, .int below_, .int at_, .int start_, .int sort_, .int value_, .int fault_, .int men_, .int gos_, v_this_ways, v_this_starts, v_this_homes, v_this_hours, v_this_froms, v_this_tos, v_this_whos, v_this_place, v_this_since, v_this_rows, v_this_few, v_this_most, v_this_parts, v_this_fewParts, v_this_mostParts, v_this_far, v_this_queue, v_this_gone, v_this_stood, v_this_trips, .long u213]))] := hD
        refine lv_iinc (v := (x1 + 1)) (lv' := [(1, .int (x1 + 1)), (0, .ref q_this)]) hx hb dX10_digest_216 hl (k := 1) rfl rfl (by decide) rfl (fun ls hl => ?_)
        refine lv_goto (tgt := 192) hx hb dX10_digest_219 (by decide) ?_
        exact ih192 (x1 + 1) u213 h _ _ _ (hP.sub [1, 0] rfl) (hD.sub [1, 0] rfl rfl) hS (lv_sub hl [1, 0] rfl)
  have J122 : ∀ (n122 : Nat) (x1 : Int32) (sum_ : Int64), g_X10_digest_122 N above_ below_ all_ n122 x1 sum_ = some r → ∀ (H : Heap) (locs : List Loc) (ls : Array Slot), va_P D vwCl [(q_this, .inr (10, [.ref q_this_all, v_this_isKept, v_this_refused, .int above_, .int below_, .int at_, .int start_, .int sort_, .int value_, .int fault_, .int men_, .int gos_, v_this_ways, v_this_starts, v_this_homes, v_this_hours, v_this_froms, v_this_tos, v_this_whos, v_this_place, v_this_since, v_this_rows, v_this_few, v_this_most, v_this_parts, v_this_fewParts, v_this_mostParts, v_this_far, v_this_queue, v_this_gone, v_this_stood, v_this_trips, .long sum_])), (q_this_all, .inl (kI, 1080, .inl all_))] H → va_D A [(q_this, .inr (10, [.ref q_this_all, v_this_isKept, v_this_refused, .int above_, .int below_, .int at_, .int start_, .int sort_, .int value_, .int fault_, .int men_, .int gos_, v_this_ways, v_this_starts, v_this_homes, v_this_hours, v_this_froms, v_this_tos, v_this_whos, v_this_place, v_this_since, v_this_rows, v_this_few, v_this_most, v_this_parts, v_this_fewParts, v_this_mostParts, v_this_far, v_this_queue, v_this_gone, v_this_stood, v_this_trips, .long sum_])), (q_this_all, .inl (kI, 1080, .inl all_))] → va_S A s.heap H locs → lv_has ls 2 [(0, .ref q_this), (1, .int x1)] → W p l e rm_X10_digest s m args below meth c H locs 0 0 Q (F0 m 122 ls []) := by
    intro n122
    induction n122 with
    | zero => intro x1 sum_ h; exact absurd h (by rw [g_X10_digest_122]; exact fun q => nomatch q)
    | succ n122 ih122 =>
      intro x1 sum_ h H locs ls hP hD hS hl
      rw [g_X10_digest_122] at h
      refine lv_iload_n hx hb dX10_digest_122 rfl (lv_at hl 1 rfl) ?_
      refine lv_aload_n hx hb dX10_digest_123 rfl (lv_at hl 0 rfl) ?_
      refine va_get (D := D) (ci := 10) (C := RX10) (T := TX10) (N := 33) hx hb hts iw_X10_digest_X10 hown hK hP 0 rfl rfl 0 (by decide) (hts _ lk_X10_digest_0) (fun _ h9 => h9) rfl dX10_digest_124 ?_
      refine lv_iconst (v := 2) hx hb dX10_digest_127 (by decide) ?_
      obtain ⟨hg18, h⟩ := q_g h
      refine va_iald hx hb hK hP 1 0 rfl rfl (inb_vp hg18) dX10_digest_128 ?_
      refine lv_icmp_ge (tgt := 190) hx hb dX10_digest_129 (by decide) (fun c19 => ?_) (fun c19 => ?_)
      · replace h := q_t c19 h
        refine lv_iconst (v := 0) hx hb dX10_digest_190 (by decide) ?_
        refine lv_istore_n (lv' := [(1, .int 0), (0, .ref q_this)]) hx hb dX10_digest_191 rfl hl (by decide) rfl (fun ls hl => ?_)
        exact J192 N 0 sum_ h _ _ _ (hP.sub [0, 1] rfl) (hD.sub [0, 1] rfl rfl) hS (lv_sub hl [1, 0] rfl)
      · replace h := q_f c19 h
        refine lv_aload_n hx hb dX10_digest_132 rfl (lv_at hl 0 rfl) ?_
        refine lv_aload_n hx hb dX10_digest_133 rfl (lv_at hl 0 rfl) ?_
        refine va_get (D := D) (ci := 10) (C := RX10) (T := TX10) (N := 33) hx hb hts iw_X10_digest_X10 hown hK hP 0 rfl rfl 0 (by decide) (hts _ lk_X10_digest_0) (fun _ h9 => h9) rfl dX10_digest_134 ?_
        refine lv_bipush (v := 33) hx hb dX10_digest_137 (by decide) ?_
        refine lv_iload_n hx hb dX10_digest_139 rfl (lv_at hl 1 rfl) ?_
        refine lv_iadd hx hb dX10_digest_140 ?_
        obtain ⟨hg20, h⟩ := q_g h
        refine va_iald hx hb hK hP 1 0 rfl rfl (inb_vp hg20) dX10_digest_141 ?_
        obtain ⟨u142, hu142, h⟩ := q_b h
        refine q_aV (va_runV (As := [.int (all_ (33 + x1).toNatClampNeg)]) (rest := []) ⟨hx, hb, hml, hown, hts⟩ (c_X10_mix l D E kI kB kQ q_this (.ref q_this_all) v_this_isKept v_this_refused v_this_ways v_this_starts v_this_homes v_this_hours v_this_froms v_this_tos v_this_whos v_this_place v_this_since v_this_rows v_this_few v_this_most v_this_parts v_this_fewParts v_this_mostParts v_this_far v_this_queue v_this_gone v_this_stood v_this_trips above_ below_ at_ start_ sort_ value_ fault_ men_ gos_ sum_ (all_ (33 + x1).toNatClampNeg) N u142 hu142 H.size) (cwV 1 hts gX10_digest_X10_mix rfl rfl rfl vd_X10_mix ⟨Nat.le_of_ble_eq_true rfl, Nat.le_of_ble_eq_true rfl⟩) (q_pv hK hN hE hS hA hP hD [0] rfl rfl rfl 0 rfl (ci := 10) rfl) rfl rfl hl.1 rfl (lv_room (Nat.le_of_ble_eq_true rfl)) dX10_digest_142 ⟨Nat.zero_le _, Nat.zero_le _⟩) hP hD hS hA [0] [1] (Wr := [(q_this_all, .inl (kI, 1080, .inl all_))]) rfl rfl rfl (by decide) (fun H locs hP hD hS => ?_)
        have hP : va_P D vwCl [(q_this_all, .inl (kI, 1080, .inl all_)), (q_this, .inr (10, [.ref q_this_all, v_this_isKept, v_this_refused, .int above_, .int below_, .int at_, .int start_, .int sort_, .int value_, .int fault_, .int men_, .int gos_, v_this_ways, v_this_starts, v_this_homes, v_this_hours, v_this_froms, v_this_tos, v_this_whos, v_this_place, v_this_since, v_this_rows, v_this_few, v_this_most, v_this_parts, v_this_fewParts, v_this_mostParts, v_this_far, v_this_queue, v_this_gone, v_this_stood, v_this_trips, .long u142]))] H := hP
        have hD : va_D A [(q_this_all, .inl (kI, 1080, .inl all_)), (q_this, .inr (10, [.ref q_this_all, v_this_isKept, v_this_refused, .int above_, .int below_, .int at_, .int start_, .int sort_, .int value_, .int fault_, .int men_, .int gos_, v_this_ways, v_this_starts, v_this_homes, v_this_hours, v_this_froms, v_this_tos, v_this_whos, v_this_place, v_this_since, v_this_rows, v_this_few, v_this_most, v_this_parts, v_this_fewParts, v_this_mostParts, v_this_far, v_this_queue, v_this_gone, v_this_stood, v_this_trips, .long u142]))] := hD
        refine lv_aload_n hx hb dX10_digest_145 rfl (lv_at hl 0 rfl) ?_
        refine lv_aload_n hx hb dX10_digest_146 rfl (lv_at hl 0 rfl) ?_
        refine va_get (D := D) (ci := 10) (C := RX10) (T := TX10) (N := 33) hx hb hts iw_X10_digest_X10 hown hK hP 1 rfl rfl 0 (by decide) (hts _ lk_X10_digest_0) (fun _ h9 => h9) rfl dX10_digest_147 ?_
        refine lv_bipush (v := 57) hx hb dX10_digest_150 (by decide) ?_
        refine lv_iload_n hx hb dX10_digest_152 rfl (lv_at hl 1 rfl) ?_
        refine lv_iadd hx hb dX10_digest_153 ?_
        obtain ⟨hg21, h⟩ := q_g h
        refine va_iald hx hb hK hP 0 0 rfl rfl (inb_vp hg21) dX10_digest_154 ?_
        obtain ⟨u155, hu155, h⟩ := q_b h
        refine q_aV (va_runV (As := [.int (all_ (57 + x1).toNatClampNeg)]) (rest := []) ⟨hx, hb, hml, hown, hts⟩ (c_X10_mix l D E kI kB kQ q_this (.ref q_this_all) v_this_isKept v_this_refused v_this_ways v_this_starts v_this_homes v_this_hours v_this_froms v_this_tos v_this_whos v_this_place v_this_since v_this_rows v_this_few v_this_most v_this_parts v_this_fewParts v_this_mostParts v_this_far v_this_queue v_this_gone v_this_stood v_this_trips above_ below_ at_ start_ sort_ value_ fault_ men_ gos_ u142 (all_ (57 + x1).toNatClampNeg) N u155 hu155 H.size) (cwV 1 hts gX10_digest_X10_mix rfl rfl rfl vd_X10_mix ⟨Nat.le_of_ble_eq_true rfl, Nat.le_of_ble_eq_true rfl⟩) (q_pv hK hN hE hS hA hP hD [1] rfl rfl rfl 1 rfl (ci := 10) rfl) rfl rfl hl.1 rfl (lv_room (Nat.le_of_ble_eq_true rfl)) dX10_digest_155 ⟨Nat.zero_le _, Nat.zero_le _⟩) hP hD hS hA [1] [0] (Wr := [(q_this_all, .inl (kI, 1080, .inl all_))]) rfl rfl rfl (by decide) (fun H locs hP hD hS => ?_)
        have hP : va_P D vwCl [(q_this_all, .inl (kI, 1080, .inl all_)), (q_this, .inr (10, [.ref q_this_all, v_this_isKept, v_this_refused, .int above_, .int below_, .int at_, .int start_, .int sort_, .int value_, .int fault_, .int men_, .int gos_, v_this_ways, v_this_starts, v_this_homes, v_this_hours, v_this_froms, v_this_tos, v_this_whos, v_this_place, v_this_since, v_this_rows, v_this_few, v_this_most, v_this_parts, v_this_fewParts, v_this_mostParts, v_this_far, v_this_queue, v_this_gone, v_this_stood, v_this_trips, .long u155]))] H := hP
        have hD : va_D A [(q_this_all, .inl (kI, 1080, .inl all_)), (q_this, .inr (10, [.ref q_this_all, v_this_isKept, v_this_refused, .int above_, .int below_, .int at_, .int start_, .int sort_, .int value_, .int fault_, .int men_, .int gos_, v_this_ways, v_this_starts, v_this_homes, v_this_hours, v_this_froms, v_this_tos, v_this_whos, v_this_place, v_this_since, v_this_rows, v_this_few, v_this_most, v_this_parts, v_this_fewParts, v_this_mostParts, v_this_far, v_this_queue, v_this_gone, v_this_stood, v_this_trips, .long u155]))] := hD
        refine lv_aload_n hx hb dX10_digest_158 rfl (lv_at hl 0 rfl) ?_
        refine lv_aload_n hx hb dX10_digest_159 rfl (lv_at hl 0 rfl) ?_
        refine va_get (D := D) (ci := 10) (C := RX10) (T := TX10) (N := 33) hx hb hts iw_X10_digest_X10 hown hK hP 1 rfl rfl 0 (by decide) (hts _ lk_X10_digest_0) (fun _ h9 => h9) rfl dX10_digest_160 ?_
        refine lv_bipush (v := 81) hx hb dX10_digest_163 (by decide) ?_
        refine lv_iload_n hx hb dX10_digest_165 rfl (lv_at hl 1 rfl) ?_
        refine lv_iadd hx hb dX10_digest_166 ?_
        obtain ⟨hg22, h⟩ := q_g h
        refine va_iald hx hb hK hP 0 0 rfl rfl (inb_vp hg22) dX10_digest_167 ?_
        obtain ⟨u168, hu168, h⟩ := q_b h
        refine q_aV (va_runV (As := [.int (all_ (81 + x1).toNatClampNeg)]) (rest := []) ⟨hx, hb, hml, hown, hts⟩ (c_X10_mix l D E kI kB kQ q_this (.ref q_this_all) v_this_isKept v_this_refused v_this_ways v_this_starts v_this_homes v_this_hours v_this_froms v_this_tos v_this_whos v_this_place v_this_since v_this_rows v_this_few v_this_most v_this_parts v_this_fewParts v_this_mostParts v_this_far v_this_queue v_this_gone v_this_stood v_this_trips above_ below_ at_ start_ sort_ value_ fault_ men_ gos_ u155 (all_ (81 + x1).toNatClampNeg) N u168 hu168 H.size) (cwV 1 hts gX10_digest_X10_mix rfl rfl rfl vd_X10_mix ⟨Nat.le_of_ble_eq_true rfl, Nat.le_of_ble_eq_true rfl⟩) (q_pv hK hN hE hS hA hP hD [1] rfl rfl rfl 1 rfl (ci := 10) rfl) rfl rfl hl.1 rfl (lv_room (Nat.le_of_ble_eq_true rfl)) dX10_digest_168 ⟨Nat.zero_le _, Nat.zero_le _⟩) hP hD hS hA [1] [0] (Wr := [(q_this_all, .inl (kI, 1080, .inl all_))]) rfl rfl rfl (by decide) (fun H locs hP hD hS => ?_)
        have hP : va_P D vwCl [(q_this_all, .inl (kI, 1080, .inl all_)), (q_this, .inr (10, [.ref q_this_all, v_this_isKept, v_this_refused, .int above_, .int below_, .int at_, .int start_, .int sort_, .int value_, .int fault_, .int men_, .int gos_, v_this_ways, v_this_starts, v_this_homes, v_this_hours, v_this_froms, v_this_tos, v_this_whos, v_this_place, v_this_since, v_this_rows, v_this_few, v_this_most, v_this_parts, v_this_fewParts, v_this_mostParts, v_this_far, v_this_queue, v_this_gone, v_this_stood, v_this_trips, .long u168]))] H := hP
        have hD : va_D A [(q_this_all, .inl (kI, 1080, .inl all_)), (q_this, .inr (10, [.ref q_this_all, v_this_isKept, v_this_refused, .int above_, .int below_, .int at_, .int start_, .int sort_, .int value_, .int fault_, .int men_, .int gos_, v_this_ways, v_this_starts, v_this_homes, v_this_hours, v_this_froms, v_this_tos, v_this_whos, v_this_place, v_this_since, v_this_rows, v_this_few, v_this_most, v_this_parts, v_this_fewParts, v_this_mostParts, v_this_far, v_this_queue, v_this_gone, v_this_stood, v_this_trips, .long u168]))] := hD
        refine lv_aload_n hx hb dX10_digest_171 rfl (lv_at hl 0 rfl) ?_
        refine lv_aload_n hx hb dX10_digest_172 rfl (lv_at hl 0 rfl) ?_
        refine va_get (D := D) (ci := 10) (C := RX10) (T := TX10) (N := 33) hx hb hts iw_X10_digest_X10 hown hK hP 1 rfl rfl 0 (by decide) (hts _ lk_X10_digest_0) (fun _ h9 => h9) rfl dX10_digest_173 ?_
        refine lv_bipush (v := 105) hx hb dX10_digest_176 (by decide) ?_
        refine lv_iload_n hx hb dX10_digest_178 rfl (lv_at hl 1 rfl) ?_
        refine lv_iadd hx hb dX10_digest_179 ?_
        obtain ⟨hg23, h⟩ := q_g h
        refine va_iald hx hb hK hP 0 0 rfl rfl (inb_vp hg23) dX10_digest_180 ?_
        obtain ⟨u181, hu181, h⟩ := q_b h
        refine q_aV (va_runV (As := [.int (all_ (105 + x1).toNatClampNeg)]) (rest := []) ⟨hx, hb, hml, hown, hts⟩ (c_X10_mix l D E kI kB kQ q_this (.ref q_this_all) v_this_isKept v_this_refused v_this_ways v_this_starts v_this_homes v_this_hours v_this_froms v_this_tos v_this_whos v_this_place v_this_since v_this_rows v_this_few v_this_most v_this_parts v_this_fewParts v_this_mostParts v_this_far v_this_queue v_this_gone v_this_stood v_this_trips above_ below_ at_ start_ sort_ value_ fault_ men_ gos_ u168 (all_ (105 + x1).toNatClampNeg) N u181 hu181 H.size) (cwV 1 hts gX10_digest_X10_mix rfl rfl rfl vd_X10_mix ⟨Nat.le_of_ble_eq_true rfl, Nat.le_of_ble_eq_true rfl⟩) (q_pv hK hN hE hS hA hP hD [1] rfl rfl rfl 1 rfl (ci := 10) rfl) rfl rfl hl.1 rfl (lv_room (Nat.le_of_ble_eq_true rfl)) dX10_digest_181 ⟨Nat.zero_le _, Nat.zero_le _⟩) hP hD hS hA [1] [0] (Wr := [(q_this_all, .inl (kI, 1080, .inl all_))]) rfl rfl rfl (by decide) (fun H locs hP hD hS => ?_)
        have hP : va_P D vwCl [(q_this_all, .inl (kI, 1080, .inl all_)), (q_this, .inr (10, [.ref q_this_all, v_this_isKept, v_this_refused, .int above_, .int below_, .int at_, .int start_, .int sort_, .int value_, .int fault_, .int men_, .int gos_, v_this_ways, v_this_starts, v_this_homes, v_this_hours, v_this_froms, v_this_tos, v_this_whos, v_this_place, v_this_since, v_this_rows, v_this_few, v_this_most, v_this_parts, v_this_fewParts, v_this_mostParts, v_this_far, v_this_queue, v_this_gone, v_this_stood, v_this_trips, .long u181]))] H := hP
        have hD : va_D A [(q_this_all, .inl (kI, 1080, .inl all_)), (q_this, .inr (10, [.ref q_this_all, v_this_isKept, v_this_refused, .int above_, .int below_, .int at_, .int start_, .int sort_, .int value_, .int fault_, .int men_, .int gos_, v_this_ways, v_this_starts, v_this_homes, v_this_hours, v_this_froms, v_this_tos, v_this_whos, v_this_place, v_this_since, v_this_rows, v_this_few, v_this_most, v_this_parts, v_this_fewParts, v_this_mostParts, v_this_far, v_this_queue, v_this_gone, v_this_stood, v_this_trips, .long u181]))] := hD
        refine lv_iinc (v := (x1 + 1)) (lv' := [(1, .int (x1 + 1)), (0, .ref q_this)]) hx hb dX10_digest_184 hl (k := 1) rfl rfl (by decide) rfl (fun ls hl => ?_)
        refine lv_goto (tgt := 122) hx hb dX10_digest_187 (by decide) ?_
        exact ih122 (x1 + 1) u181 h _ _ _ (hP.sub [1, 0] rfl) (hD.sub [1, 0] rfl rfl) hS (lv_sub hl [1, 0] rfl)
  have J78 : ∀ (n78 : Nat) (x1 : Int32) (sum_ : Int64), g_X10_digest_78 N above_ below_ all_ n78 x1 sum_ = some r → ∀ (H : Heap) (locs : List Loc) (ls : Array Slot), va_P D vwCl [(q_this, .inr (10, [.ref q_this_all, v_this_isKept, v_this_refused, .int above_, .int below_, .int at_, .int start_, .int sort_, .int value_, .int fault_, .int men_, .int gos_, v_this_ways, v_this_starts, v_this_homes, v_this_hours, v_this_froms, v_this_tos, v_this_whos, v_this_place, v_this_since, v_this_rows, v_this_few, v_this_most, v_this_parts, v_this_fewParts, v_this_mostParts, v_this_far, v_this_queue, v_this_gone, v_this_stood, v_this_trips, .long sum_])), (q_this_all, .inl (kI, 1080, .inl all_))] H → va_D A [(q_this, .inr (10, [.ref q_this_all, v_this_isKept, v_this_refused, .int above_, .int below_, .int at_, .int start_, .int sort_, .int value_, .int fault_, .int men_, .int gos_, v_this_ways, v_this_starts, v_this_homes, v_this_hours, v_this_froms, v_this_tos, v_this_whos, v_this_place, v_this_since, v_this_rows, v_this_few, v_this_most, v_this_parts, v_this_fewParts, v_this_mostParts, v_this_far, v_this_queue, v_this_gone, v_this_stood, v_this_trips, .long sum_])), (q_this_all, .inl (kI, 1080, .inl all_))] → va_S A s.heap H locs → lv_has ls 2 [(0, .ref q_this), (1, .int x1)] → W p l e rm_X10_digest s m args below meth c H locs 0 0 Q (F0 m 78 ls []) := by
    intro n78
    induction n78 with
    | zero => intro x1 sum_ h; exact absurd h (by rw [g_X10_digest_78]; exact fun q => nomatch q)
    | succ n78 ih78 =>
      intro x1 sum_ h H locs ls hP hD hS hl
      rw [g_X10_digest_78] at h
      refine lv_iload_n hx hb dX10_digest_78 rfl (lv_at hl 1 rfl) ?_
      refine lv_aload_n hx hb dX10_digest_79 rfl (lv_at hl 0 rfl) ?_
      refine va_get (D := D) (ci := 10) (C := RX10) (T := TX10) (N := 33) hx hb hts iw_X10_digest_X10 hown hK hP 0 rfl rfl 0 (by decide) (hts _ lk_X10_digest_0) (fun _ h9 => h9) rfl dX10_digest_80 ?_
      refine lv_iconst (v := 1) hx hb dX10_digest_83 (by decide) ?_
      obtain ⟨hg24, h⟩ := q_g h
      refine va_iald hx hb hK hP 1 0 rfl rfl (inb_vp hg24) dX10_digest_84 ?_
      refine lv_icmp_ge (tgt := 120) hx hb dX10_digest_85 (by decide) (fun c25 => ?_) (fun c25 => ?_)
      · replace h := q_t c25 h
        refine lv_iconst (v := 0) hx hb dX10_digest_120 (by decide) ?_
        refine lv_istore_n (lv' := [(1, .int 0), (0, .ref q_this)]) hx hb dX10_digest_121 rfl hl (by decide) rfl (fun ls hl => ?_)
        exact J122 N 0 sum_ h _ _ _ (hP.sub [0, 1] rfl) (hD.sub [0, 1] rfl rfl) hS (lv_sub hl [1, 0] rfl)
      · replace h := q_f c25 h
        refine lv_aload_n hx hb dX10_digest_88 rfl (lv_at hl 0 rfl) ?_
        refine lv_aload_n hx hb dX10_digest_89 rfl (lv_at hl 0 rfl) ?_
        refine va_get (D := D) (ci := 10) (C := RX10) (T := TX10) (N := 33) hx hb hts iw_X10_digest_X10 hown hK hP 0 rfl rfl 0 (by decide) (hts _ lk_X10_digest_0) (fun _ h9 => h9) rfl dX10_digest_90 ?_
        refine lv_bipush (v := 23) hx hb dX10_digest_93 (by decide) ?_
        refine lv_iload_n hx hb dX10_digest_95 rfl (lv_at hl 1 rfl) ?_
        refine lv_iadd hx hb dX10_digest_96 ?_
        obtain ⟨hg26, h⟩ := q_g h
        refine va_iald hx hb hK hP 1 0 rfl rfl (inb_vp hg26) dX10_digest_97 ?_
        obtain ⟨u98, hu98, h⟩ := q_b h
        refine q_aV (va_runV (As := [.int (all_ (23 + x1).toNatClampNeg)]) (rest := []) ⟨hx, hb, hml, hown, hts⟩ (c_X10_mix l D E kI kB kQ q_this (.ref q_this_all) v_this_isKept v_this_refused v_this_ways v_this_starts v_this_homes v_this_hours v_this_froms v_this_tos v_this_whos v_this_place v_this_since v_this_rows v_this_few v_this_most v_this_parts v_this_fewParts v_this_mostParts v_this_far v_this_queue v_this_gone v_this_stood v_this_trips above_ below_ at_ start_ sort_ value_ fault_ men_ gos_ sum_ (all_ (23 + x1).toNatClampNeg) N u98 hu98 H.size) (cwV 1 hts gX10_digest_X10_mix rfl rfl rfl vd_X10_mix ⟨Nat.le_of_ble_eq_true rfl, Nat.le_of_ble_eq_true rfl⟩) (q_pv hK hN hE hS hA hP hD [0] rfl rfl rfl 0 rfl (ci := 10) rfl) rfl rfl hl.1 rfl (lv_room (Nat.le_of_ble_eq_true rfl)) dX10_digest_98 ⟨Nat.zero_le _, Nat.zero_le _⟩) hP hD hS hA [0] [1] (Wr := [(q_this_all, .inl (kI, 1080, .inl all_))]) rfl rfl rfl (by decide) (fun H locs hP hD hS => ?_)
        have hP : va_P D vwCl [(q_this_all, .inl (kI, 1080, .inl all_)), (q_this, .inr (10, [.ref q_this_all, v_this_isKept, v_this_refused, .int above_, .int below_, .int at_, .int start_, .int sort_, .int value_, .int fault_, .int men_, .int gos_, v_this_ways, v_this_starts, v_this_homes, v_this_hours, v_this_froms, v_this_tos, v_this_whos, v_this_place, v_this_since, v_this_rows, v_this_few, v_this_most, v_this_parts, v_this_fewParts, v_this_mostParts, v_this_far, v_this_queue, v_this_gone, v_this_stood, v_this_trips, .long u98]))] H := hP
        have hD : va_D A [(q_this_all, .inl (kI, 1080, .inl all_)), (q_this, .inr (10, [.ref q_this_all, v_this_isKept, v_this_refused, .int above_, .int below_, .int at_, .int start_, .int sort_, .int value_, .int fault_, .int men_, .int gos_, v_this_ways, v_this_starts, v_this_homes, v_this_hours, v_this_froms, v_this_tos, v_this_whos, v_this_place, v_this_since, v_this_rows, v_this_few, v_this_most, v_this_parts, v_this_fewParts, v_this_mostParts, v_this_far, v_this_queue, v_this_gone, v_this_stood, v_this_trips, .long u98]))] := hD
        refine lv_aload_n hx hb dX10_digest_101 rfl (lv_at hl 0 rfl) ?_
        refine lv_aload_n hx hb dX10_digest_102 rfl (lv_at hl 0 rfl) ?_
        refine va_get (D := D) (ci := 10) (C := RX10) (T := TX10) (N := 33) hx hb hts iw_X10_digest_X10 hown hK hP 1 rfl rfl 0 (by decide) (hts _ lk_X10_digest_0) (fun _ h9 => h9) rfl dX10_digest_103 ?_
        refine lv_bipush (v := 28) hx hb dX10_digest_106 (by decide) ?_
        refine lv_iload_n hx hb dX10_digest_108 rfl (lv_at hl 1 rfl) ?_
        refine lv_iadd hx hb dX10_digest_109 ?_
        obtain ⟨hg27, h⟩ := q_g h
        refine va_iald hx hb hK hP 0 0 rfl rfl (inb_vp hg27) dX10_digest_110 ?_
        obtain ⟨u111, hu111, h⟩ := q_b h
        refine q_aV (va_runV (As := [.int (all_ (28 + x1).toNatClampNeg)]) (rest := []) ⟨hx, hb, hml, hown, hts⟩ (c_X10_mix l D E kI kB kQ q_this (.ref q_this_all) v_this_isKept v_this_refused v_this_ways v_this_starts v_this_homes v_this_hours v_this_froms v_this_tos v_this_whos v_this_place v_this_since v_this_rows v_this_few v_this_most v_this_parts v_this_fewParts v_this_mostParts v_this_far v_this_queue v_this_gone v_this_stood v_this_trips above_ below_ at_ start_ sort_ value_ fault_ men_ gos_ u98 (all_ (28 + x1).toNatClampNeg) N u111 hu111 H.size) (cwV 1 hts gX10_digest_X10_mix rfl rfl rfl vd_X10_mix ⟨Nat.le_of_ble_eq_true rfl, Nat.le_of_ble_eq_true rfl⟩) (q_pv hK hN hE hS hA hP hD [1] rfl rfl rfl 1 rfl (ci := 10) rfl) rfl rfl hl.1 rfl (lv_room (Nat.le_of_ble_eq_true rfl)) dX10_digest_111 ⟨Nat.zero_le _, Nat.zero_le _⟩) hP hD hS hA [1] [0] (Wr := [(q_this_all, .inl (kI, 1080, .inl all_))]) rfl rfl rfl (by decide) (fun H locs hP hD hS => ?_)
        have hP : va_P D vwCl [(q_this_all, .inl (kI, 1080, .inl all_)), (q_this, .inr (10, [.ref q_this_all, v_this_isKept, v_this_refused, .int above_, .int below_, .int at_, .int start_, .int sort_, .int value_, .int fault_, .int men_, .int gos_, v_this_ways, v_this_starts, v_this_homes, v_this_hours, v_this_froms, v_this_tos, v_this_whos, v_this_place, v_this_since, v_this_rows, v_this_few, v_this_most, v_this_parts, v_this_fewParts, v_this_mostParts, v_this_far, v_this_queue, v_this_gone, v_this_stood, v_this_trips, .long u111]))] H := hP
        have hD : va_D A [(q_this_all, .inl (kI, 1080, .inl all_)), (q_this, .inr (10, [.ref q_this_all, v_this_isKept, v_this_refused, .int above_, .int below_, .int at_, .int start_, .int sort_, .int value_, .int fault_, .int men_, .int gos_, v_this_ways, v_this_starts, v_this_homes, v_this_hours, v_this_froms, v_this_tos, v_this_whos, v_this_place, v_this_since, v_this_rows, v_this_few, v_this_most, v_this_parts, v_this_fewParts, v_this_mostParts, v_this_far, v_this_queue, v_this_gone, v_this_stood, v_this_trips, .long u111]))] := hD
        refine lv_iinc (v := (x1 + 1)) (lv' := [(1, .int (x1 + 1)), (0, .ref q_this)]) hx hb dX10_digest_114 hl (k := 1) rfl rfl (by decide) rfl (fun ls hl => ?_)
        refine lv_goto (tgt := 78) hx hb dX10_digest_117 (by decide) ?_
        exact ih78 (x1 + 1) u111 h _ _ _ (hP.sub [1, 0] rfl) (hD.sub [1, 0] rfl rfl) hS (lv_sub hl [1, 0] rfl)
  have J42 : ∀ (n42 : Nat) (x1 : Int32) (sum_ : Int64), g_X10_digest_42 N above_ below_ all_ n42 x1 sum_ = some r → ∀ (H : Heap) (locs : List Loc) (ls : Array Slot), va_P D vwCl [(q_this, .inr (10, [.ref q_this_all, v_this_isKept, v_this_refused, .int above_, .int below_, .int at_, .int start_, .int sort_, .int value_, .int fault_, .int men_, .int gos_, v_this_ways, v_this_starts, v_this_homes, v_this_hours, v_this_froms, v_this_tos, v_this_whos, v_this_place, v_this_since, v_this_rows, v_this_few, v_this_most, v_this_parts, v_this_fewParts, v_this_mostParts, v_this_far, v_this_queue, v_this_gone, v_this_stood, v_this_trips, .long sum_])), (q_this_all, .inl (kI, 1080, .inl all_))] H → va_D A [(q_this, .inr (10, [.ref q_this_all, v_this_isKept, v_this_refused, .int above_, .int below_, .int at_, .int start_, .int sort_, .int value_, .int fault_, .int men_, .int gos_, v_this_ways, v_this_starts, v_this_homes, v_this_hours, v_this_froms, v_this_tos, v_this_whos, v_this_place, v_this_since, v_this_rows, v_this_few, v_this_most, v_this_parts, v_this_fewParts, v_this_mostParts, v_this_far, v_this_queue, v_this_gone, v_this_stood, v_this_trips, .long sum_])), (q_this_all, .inl (kI, 1080, .inl all_))] → va_S A s.heap H locs → lv_has ls 2 [(0, .ref q_this), (1, .int x1)] → W p l e rm_X10_digest s m args below meth c H locs 0 0 Q (F0 m 42 ls []) := by
    intro n42
    induction n42 with
    | zero => intro x1 sum_ h; exact absurd h (by rw [g_X10_digest_42]; exact fun q => nomatch q)
    | succ n42 ih42 =>
      intro x1 sum_ h H locs ls hP hD hS hl
      rw [g_X10_digest_42] at h
      refine lv_iload_n hx hb dX10_digest_42 rfl (lv_at hl 1 rfl) ?_
      refine lv_bipush (v := 16) hx hb dX10_digest_43 (by decide) ?_
      refine lv_icmp_ge (tgt := 76) hx hb dX10_digest_45 (by decide) (fun c28 => ?_) (fun c28 => ?_)
      · replace h := q_t c28 h
        refine lv_iconst (v := 0) hx hb dX10_digest_76 (by decide) ?_
        refine lv_istore_n (lv' := [(1, .int 0), (0, .ref q_this)]) hx hb dX10_digest_77 rfl hl (by decide) rfl (fun ls hl => ?_)
        exact J78 N 0 sum_ h _ _ _ (hP.sub [0, 1] rfl) (hD.sub [0, 1] rfl rfl) hS (lv_sub hl [1, 0] rfl)
      · replace h := q_f c28 h
        refine lv_iload_n hx hb dX10_digest_48 rfl (lv_at hl 1 rfl) ?_
        refine lv_iconst (v := 4) hx hb dX10_digest_49 (by decide) ?_
        refine lv_irem hx hb dX10_digest_50 (by decide) ?_
        refine lv_iload_n hx hb dX10_digest_51 rfl (lv_at hl 1 rfl) ?_
        refine lv_iconst (v := 4) hx hb dX10_digest_52 (by decide) ?_
        refine lv_idiv hx hb dX10_digest_53 (by decide) ?_
        refine lv_icmp_ge (tgt := 70) hx hb dX10_digest_54 (by decide) (fun c29 => ?_) (fun c29 => ?_)
        · replace h := q_t c29 h
          refine lv_iinc (v := (x1 + 1)) (lv' := [(1, .int (x1 + 1)), (0, .ref q_this)]) hx hb dX10_digest_70 hl (k := 1) rfl rfl (by decide) rfl (fun ls hl => ?_)
          refine lv_goto (tgt := 42) hx hb dX10_digest_73 (by decide) ?_
          exact ih42 (x1 + 1) sum_ h _ _ _ (hP.sub [0, 1] rfl) (hD.sub [0, 1] rfl rfl) hS (lv_sub hl [1, 0] rfl)
        · replace h := q_f c29 h
          refine lv_aload_n hx hb dX10_digest_57 rfl (lv_at hl 0 rfl) ?_
          refine lv_aload_n hx hb dX10_digest_58 rfl (lv_at hl 0 rfl) ?_
          refine va_get (D := D) (ci := 10) (C := RX10) (T := TX10) (N := 33) hx hb hts iw_X10_digest_X10 hown hK hP 0 rfl rfl 0 (by decide) (hts _ lk_X10_digest_0) (fun _ h9 => h9) rfl dX10_digest_59 ?_
          refine lv_bipush (v := 7) hx hb dX10_digest_62 (by decide) ?_
          refine lv_iload_n hx hb dX10_digest_64 rfl (lv_at hl 1 rfl) ?_
          refine lv_iadd hx hb dX10_digest_65 ?_
          obtain ⟨hg30, h⟩ := q_g h
          refine va_iald hx hb hK hP 1 0 rfl rfl (inb_vp hg30) dX10_digest_66 ?_
          obtain ⟨u67, hu67, h⟩ := q_b h
          refine q_aV (va_runV (As := [.int (all_ (7 + x1).toNatClampNeg)]) (rest := []) ⟨hx, hb, hml, hown, hts⟩ (c_X10_mix l D E kI kB kQ q_this (.ref q_this_all) v_this_isKept v_this_refused v_this_ways v_this_starts v_this_homes v_this_hours v_this_froms v_this_tos v_this_whos v_this_place v_this_since v_this_rows v_this_few v_this_most v_this_parts v_this_fewParts v_this_mostParts v_this_far v_this_queue v_this_gone v_this_stood v_this_trips above_ below_ at_ start_ sort_ value_ fault_ men_ gos_ sum_ (all_ (7 + x1).toNatClampNeg) N u67 hu67 H.size) (cwV 1 hts gX10_digest_X10_mix rfl rfl rfl vd_X10_mix ⟨Nat.le_of_ble_eq_true rfl, Nat.le_of_ble_eq_true rfl⟩) (q_pv hK hN hE hS hA hP hD [0] rfl rfl rfl 0 rfl (ci := 10) rfl) rfl rfl hl.1 rfl (lv_room (Nat.le_of_ble_eq_true rfl)) dX10_digest_67 ⟨Nat.zero_le _, Nat.zero_le _⟩) hP hD hS hA [0] [1] (Wr := [(q_this_all, .inl (kI, 1080, .inl all_))]) rfl rfl rfl (by decide) (fun H locs hP hD hS => ?_)
          have hP : va_P D vwCl [(q_this_all, .inl (kI, 1080, .inl all_)), (q_this, .inr (10, [.ref q_this_all, v_this_isKept, v_this_refused, .int above_, .int below_, .int at_, .int start_, .int sort_, .int value_, .int fault_, .int men_, .int gos_, v_this_ways, v_this_starts, v_this_homes, v_this_hours, v_this_froms, v_this_tos, v_this_whos, v_this_place, v_this_since, v_this_rows, v_this_few, v_this_most, v_this_parts, v_this_fewParts, v_this_mostParts, v_this_far, v_this_queue, v_this_gone, v_this_stood, v_this_trips, .long u67]))] H := hP
          have hD : va_D A [(q_this_all, .inl (kI, 1080, .inl all_)), (q_this, .inr (10, [.ref q_this_all, v_this_isKept, v_this_refused, .int above_, .int below_, .int at_, .int start_, .int sort_, .int value_, .int fault_, .int men_, .int gos_, v_this_ways, v_this_starts, v_this_homes, v_this_hours, v_this_froms, v_this_tos, v_this_whos, v_this_place, v_this_since, v_this_rows, v_this_few, v_this_most, v_this_parts, v_this_fewParts, v_this_mostParts, v_this_far, v_this_queue, v_this_gone, v_this_stood, v_this_trips, .long u67]))] := hD
          refine lv_iinc (v := (x1 + 1)) (lv' := [(1, .int (x1 + 1)), (0, .ref q_this)]) hx hb dX10_digest_70 hl (k := 1) rfl rfl (by decide) rfl (fun ls hl => ?_)
          refine lv_goto (tgt := 42) hx hb dX10_digest_73 (by decide) ?_
          exact ih42 (x1 + 1) u67 h _ _ _ (hP.sub [1, 0] rfl) (hD.sub [1, 0] rfl rfl) hS (lv_sub hl [1, 0] rfl)
  have J9 : ∀ (n9 : Nat) (x1 : Int32) (sum_ : Int64), g_X10_digest_9 N above_ below_ all_ n9 x1 sum_ = some r → ∀ (H : Heap) (locs : List Loc) (ls : Array Slot), va_P D vwCl [(q_this, .inr (10, [.ref q_this_all, v_this_isKept, v_this_refused, .int above_, .int below_, .int at_, .int start_, .int sort_, .int value_, .int fault_, .int men_, .int gos_, v_this_ways, v_this_starts, v_this_homes, v_this_hours, v_this_froms, v_this_tos, v_this_whos, v_this_place, v_this_since, v_this_rows, v_this_few, v_this_most, v_this_parts, v_this_fewParts, v_this_mostParts, v_this_far, v_this_queue, v_this_gone, v_this_stood, v_this_trips, .long sum_])), (q_this_all, .inl (kI, 1080, .inl all_))] H → va_D A [(q_this, .inr (10, [.ref q_this_all, v_this_isKept, v_this_refused, .int above_, .int below_, .int at_, .int start_, .int sort_, .int value_, .int fault_, .int men_, .int gos_, v_this_ways, v_this_starts, v_this_homes, v_this_hours, v_this_froms, v_this_tos, v_this_whos, v_this_place, v_this_since, v_this_rows, v_this_few, v_this_most, v_this_parts, v_this_fewParts, v_this_mostParts, v_this_far, v_this_queue, v_this_gone, v_this_stood, v_this_trips, .long sum_])), (q_this_all, .inl (kI, 1080, .inl all_))] → va_S A s.heap H locs → lv_has ls 2 [(0, .ref q_this), (1, .int x1)] → W p l e rm_X10_digest s m args below meth c H locs 0 0 Q (F0 m 9 ls []) := by
    intro n9
    induction n9 with
    | zero => intro x1 sum_ h; exact absurd h (by rw [g_X10_digest_9]; exact fun q => nomatch q)
    | succ n9 ih9 =>
      intro x1 sum_ h H locs ls hP hD hS hl
      rw [g_X10_digest_9] at h
      refine lv_iload_n hx hb dX10_digest_9 rfl (lv_at hl 1 rfl) ?_
      refine lv_bipush (v := 7) hx hb dX10_digest_10 (by decide) ?_
      refine lv_icmp_ge (tgt := 30) hx hb dX10_digest_12 (by decide) (fun c31 => ?_) (fun c31 => ?_)
      · replace h := q_t c31 h
        refine lv_aload_n hx hb dX10_digest_30 rfl (lv_at hl 0 rfl) ?_
        refine lv_aload_n hx hb dX10_digest_31 rfl (lv_at hl 0 rfl) ?_
        refine va_get (D := D) (ci := 10) (C := RX10) (T := TX10) (N := 33) hx hb hts iw_X10_digest_X10 hown hK hP 0 rfl rfl 0 (by decide) (hts _ lk_X10_digest_0) (fun _ h9 => h9) rfl dX10_digest_32 ?_
        refine lv_iconst (v := 0) hx hb dX10_digest_35 (by decide) ?_
        obtain ⟨hg32, h⟩ := q_g h
        refine va_iald hx hb hK hP 1 0 rfl rfl (inb_vp hg32) dX10_digest_36 ?_
        obtain ⟨u37, hu37, h⟩ := q_b h
        refine q_aV (va_runV (As := [.int (all_ (0 : Int32).toNatClampNeg)]) (rest := []) ⟨hx, hb, hml, hown, hts⟩ (c_X10_mix l D E kI kB kQ q_this (.ref q_this_all) v_this_isKept v_this_refused v_this_ways v_this_starts v_this_homes v_this_hours v_this_froms v_this_tos v_this_whos v_this_place v_this_since v_this_rows v_this_few v_this_most v_this_parts v_this_fewParts v_this_mostParts v_this_far v_this_queue v_this_gone v_this_stood v_this_trips above_ below_ at_ start_ sort_ value_ fault_ men_ gos_ sum_ (all_ (0 : Int32).toNatClampNeg) N u37 hu37 H.size) (cwV 1 hts gX10_digest_X10_mix rfl rfl rfl vd_X10_mix ⟨Nat.le_of_ble_eq_true rfl, Nat.le_of_ble_eq_true rfl⟩) (q_pv hK hN hE hS hA hP hD [0] rfl rfl rfl 0 rfl (ci := 10) rfl) rfl rfl hl.1 rfl (lv_room (Nat.le_of_ble_eq_true rfl)) dX10_digest_37 ⟨Nat.zero_le _, Nat.zero_le _⟩) hP hD hS hA [0] [1] (Wr := [(q_this_all, .inl (kI, 1080, .inl all_))]) rfl rfl rfl (by decide) (fun H locs hP hD hS => ?_)
        have hP : va_P D vwCl [(q_this_all, .inl (kI, 1080, .inl all_)), (q_this, .inr (10, [.ref q_this_all, v_this_isKept, v_this_refused, .int above_, .int below_, .int at_, .int start_, .int sort_, .int value_, .int fault_, .int men_, .int gos_, v_this_ways, v_this_starts, v_this_homes, v_this_hours, v_this_froms, v_this_tos, v_this_whos, v_this_place, v_this_since, v_this_rows, v_this_few, v_this_most, v_this_parts, v_this_fewParts, v_this_mostParts, v_this_far, v_this_queue, v_this_gone, v_this_stood, v_this_trips, .long u37]))] H := hP
        have hD : va_D A [(q_this_all, .inl (kI, 1080, .inl all_)), (q_this, .inr (10, [.ref q_this_all, v_this_isKept, v_this_refused, .int above_, .int below_, .int at_, .int start_, .int sort_, .int value_, .int fault_, .int men_, .int gos_, v_this_ways, v_this_starts, v_this_homes, v_this_hours, v_this_froms, v_this_tos, v_this_whos, v_this_place, v_this_since, v_this_rows, v_this_few, v_this_most, v_this_parts, v_this_fewParts, v_this_mostParts, v_this_far, v_this_queue, v_this_gone, v_this_stood, v_this_trips, .long u37]))] := hD
        refine lv_iconst (v := 0) hx hb dX10_digest_40 (by decide) ?_
        refine lv_istore_n (lv' := [(1, .int 0), (0, .ref q_this)]) hx hb dX10_digest_41 rfl hl (by decide) rfl (fun ls hl => ?_)
        exact J42 N 0 u37 h _ _ _ (hP.sub [1, 0] rfl) (hD.sub [1, 0] rfl rfl) hS (lv_sub hl [1, 0] rfl)
      · replace h := q_f c31 h
        refine lv_aload_n hx hb dX10_digest_15 rfl (lv_at hl 0 rfl) ?_
        refine lv_aload_n hx hb dX10_digest_16 rfl (lv_at hl 0 rfl) ?_
        refine lv_iload_n hx hb dX10_digest_17 rfl (lv_at hl 1 rfl) ?_
        obtain ⟨u18, hu18, h⟩ := q_b h
        refine q_aI (va_runV (As := [.int x1]) (rest := [.ref q_this]) ⟨hx, hb, hml, hown, hts⟩ (c_X10_countOf l D E kI kB kQ q_this q_this_all v_this_isKept v_this_refused v_this_ways v_this_starts v_this_homes v_this_hours v_this_froms v_this_tos v_this_whos v_this_place v_this_since v_this_rows v_this_few v_this_most v_this_parts v_this_fewParts v_this_mostParts v_this_far v_this_queue v_this_gone v_this_stood v_this_trips above_ below_ at_ start_ sort_ value_ fault_ men_ gos_ sum_ all_ x1 N u18 hu18 H.size) (cwV 1 hts gX10_digest_X10_countOf rfl rfl rfl vd_X10_countOf ⟨Nat.le_of_ble_eq_true rfl, Nat.le_of_ble_eq_true rfl⟩) (q_pv hK hN hE hS hA hP hD [0, 1] rfl rfl rfl 0 rfl (ci := 10) rfl) rfl rfl hl.1 rfl (lv_room (Nat.le_of_ble_eq_true rfl)) dX10_digest_18 ⟨Nat.zero_le _, Nat.zero_le _⟩) hP hD hS hA [0, 1] [] (Wr := []) rfl rfl rfl (by decide) (fun H locs hP hD hS => ?_)
        have hP : va_P D vwCl [(q_this, .inr (10, [.ref q_this_all, v_this_isKept, v_this_refused, .int above_, .int below_, .int at_, .int start_, .int sort_, .int value_, .int fault_, .int men_, .int gos_, v_this_ways, v_this_starts, v_this_homes, v_this_hours, v_this_froms, v_this_tos, v_this_whos, v_this_place, v_this_since, v_this_rows, v_this_few, v_this_most, v_this_parts, v_this_fewParts, v_this_mostParts, v_this_far, v_this_queue, v_this_gone, v_this_stood, v_this_trips, .long sum_])), (q_this_all, .inl (kI, 1080, .inl all_))] H := hP
        have hD : va_D A [(q_this, .inr (10, [.ref q_this_all, v_this_isKept, v_this_refused, .int above_, .int below_, .int at_, .int start_, .int sort_, .int value_, .int fault_, .int men_, .int gos_, v_this_ways, v_this_starts, v_this_homes, v_this_hours, v_this_froms, v_this_tos, v_this_whos, v_this_place, v_this_since, v_this_rows, v_this_few, v_this_most, v_this_parts, v_this_fewParts, v_this_mostParts, v_this_far, v_this_queue, v_this_gone, v_this_stood, v_this_trips, .long sum_])), (q_this_all, .inl (kI, 1080, .inl all_))] := hD
        obtain ⟨u21, hu21, h⟩ := q_b h
        refine q_aV (va_runV (As := [.int u18]) (rest := []) ⟨hx, hb, hml, hown, hts⟩ (c_X10_mix l D E kI kB kQ q_this (.ref q_this_all) v_this_isKept v_this_refused v_this_ways v_this_starts v_this_homes v_this_hours v_this_froms v_this_tos v_this_whos v_this_place v_this_since v_this_rows v_this_few v_this_most v_this_parts v_this_fewParts v_this_mostParts v_this_far v_this_queue v_this_gone v_this_stood v_this_trips above_ below_ at_ start_ sort_ value_ fault_ men_ gos_ sum_ u18 N u21 hu21 H.size) (cwV 1 hts gX10_digest_X10_mix rfl rfl rfl vd_X10_mix ⟨Nat.le_of_ble_eq_true rfl, Nat.le_of_ble_eq_true rfl⟩) (q_pv hK hN hE hS hA hP hD [0] rfl rfl rfl 0 rfl (ci := 10) rfl) rfl rfl hl.1 rfl (lv_room (Nat.le_of_ble_eq_true rfl)) dX10_digest_21 ⟨Nat.zero_le _, Nat.zero_le _⟩) hP hD hS hA [0] [1] (Wr := [(q_this_all, .inl (kI, 1080, .inl all_))]) rfl rfl rfl (by decide) (fun H locs hP hD hS => ?_)
        have hP : va_P D vwCl [(q_this_all, .inl (kI, 1080, .inl all_)), (q_this, .inr (10, [.ref q_this_all, v_this_isKept, v_this_refused, .int above_, .int below_, .int at_, .int start_, .int sort_, .int value_, .int fault_, .int men_, .int gos_, v_this_ways, v_this_starts, v_this_homes, v_this_hours, v_this_froms, v_this_tos, v_this_whos, v_this_place, v_this_since, v_this_rows, v_this_few, v_this_most, v_this_parts, v_this_fewParts, v_this_mostParts, v_this_far, v_this_queue, v_this_gone, v_this_stood, v_this_trips, .long u21]))] H := hP
        have hD : va_D A [(q_this_all, .inl (kI, 1080, .inl all_)), (q_this, .inr (10, [.ref q_this_all, v_this_isKept, v_this_refused, .int above_, .int below_, .int at_, .int start_, .int sort_, .int value_, .int fault_, .int men_, .int gos_, v_this_ways, v_this_starts, v_this_homes, v_this_hours, v_this_froms, v_this_tos, v_this_whos, v_this_place, v_this_since, v_this_rows, v_this_few, v_this_most, v_this_parts, v_this_fewParts, v_this_mostParts, v_this_far, v_this_queue, v_this_gone, v_this_stood, v_this_trips, .long u21]))] := hD
        refine lv_iinc (v := (x1 + 1)) (lv' := [(1, .int (x1 + 1)), (0, .ref q_this)]) hx hb dX10_digest_24 hl (k := 1) rfl rfl (by decide) rfl (fun ls hl => ?_)
        refine lv_goto (tgt := 9) hx hb dX10_digest_27 (by decide) ?_
        exact ih9 (x1 + 1) u21 h _ _ _ (hP.sub [1, 0] rfl) (hD.sub [1, 0] rfl rfl) hS (lv_sub hl [1, 0] rfl)
  refine lv_aload_n hx hb dX10_digest_0 rfl (lv_at hl 0 rfl) ?_
  refine lv_ldc2 (v := 619) hx hb hown (hts _ lk_X10_digest_4) dX10_digest_1 ?_
  refine va_put (D := D) (ci := 10) (v := .long 619) (ty := .long) (C := RX10) (T := TX10) (N := 33) hx hb hts iw_X10_digest_X10 tyX10 tyX10_ok nmX10 hown hK hP hD hS 0 rfl rfl 32 (by decide) (hts _ lk_X10_digest_3) (fun _ h9 => h9) rfl (by decide +kernel) rfl rfl (Nat.le_of_ble_eq_true rfl) dX10_digest_4 (fun H locs hP hD hS => ?_)
  have hP : va_P D vwCl [(q_this, .inr (10, [.ref q_this_all, v_this_isKept, v_this_refused, .int above_, .int below_, .int at_, .int start_, .int sort_, .int value_, .int fault_, .int men_, .int gos_, v_this_ways, v_this_starts, v_this_homes, v_this_hours, v_this_froms, v_this_tos, v_this_whos, v_this_place, v_this_since, v_this_rows, v_this_few, v_this_most, v_this_parts, v_this_fewParts, v_this_mostParts, v_this_far, v_this_queue, v_this_gone, v_this_stood, v_this_trips, .long 619])), (q_this_all, .inl (kI, 1080, .inl all_))] H := hP
  have hD : va_D A [(q_this, .inr (10, [.ref q_this_all, v_this_isKept, v_this_refused, .int above_, .int below_, .int at_, .int start_, .int sort_, .int value_, .int fault_, .int men_, .int gos_, v_this_ways, v_this_starts, v_this_homes, v_this_hours, v_this_froms, v_this_tos, v_this_whos, v_this_place, v_this_since, v_this_rows, v_this_few, v_this_most, v_this_parts, v_this_fewParts, v_this_mostParts, v_this_far, v_this_queue, v_this_gone, v_this_stood, v_this_trips, .long 619])), (q_this_all, .inl (kI, 1080, .inl all_))] := hD
  refine lv_iconst (v := 0) hx hb dX10_digest_7 (by decide) ?_
  refine lv_istore_n (lv' := [(1, .int 0), (0, .ref q_this)]) hx hb dX10_digest_8 rfl hl (by decide) rfl (fun ls hl => ?_)
  exact J9 N 0 619 h _ _ _ (hP.sub [0, 1] rfl) (hD.sub [0, 1] rfl rfl) hS (lv_sub hl [1, 0] rfl)
