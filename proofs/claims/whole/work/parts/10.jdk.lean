/-! the JDK's String.length, String.charAt over the three words of the reader -/
theorem q_enterY {l : Launch} {D : va_G} {E : q_En} {y : MethodName} {ws ws' : List Cond} {rm : Room} {tys : List (ClassId × FieldType)} {avs : List Value} {W0 W1 : va_W} {r : Int32} (ty : FieldType) (cc : ByteArray) (maxL : Nat) (own : String) (hy : plainName y.cls = true) (hw : ws = Cond.code y cc maxL (some ty) :: ws') (hn : (lg_sl avs).length ≤ maxL) (ho : y.cls = own) (hnr : narrow ty (.int r) = .int r)
    (body : ∀ (p : Program) (e : Env) (s : State) (m : MethodId) (args : Array Value) (below : List Frame) (meth : Method) (c : Code) (Q : State → Prop) (A : Nat → Prop) (ls : Array Slot) (H : Heap), p.tables.exec = Jvm.exec → c.code = cc → c.maxLocals = maxL → s.vm.findClass own = some m.cls → (∀ w ∈ ws, w.before args s = true) → va_K D vwCl tys s → q_N s → q_E E A s s.heap → (∀ q, s.heap.size ≤ q → A q) → va_P D vwCl W0 H → va_S A s.heap H [] → va_D A W0 → lv_has ls maxL (lv_args 0 avs) → (∀ (H : Heap) (locs : List Loc) (pc : Nat) (ls : Array Slot), va_P D vwCl W1 H → va_D A W1 → va_S A s.heap H locs → decode cc pc = .ok (.ireturn, 1) → W p l e rm s m args below meth c H locs 0 0 Q (F0 m pc ls [.int r])) → W p l e rm s m args below meth c H [] 0 0 Q (F0 m 0 ls [])) : CtI l D E y ws rm tys avs W0 W1 r := by
  intro sz
  refine Met.ofW (cc := cc) (maxL := maxL) (ret := some ty) hy hw ?_
  intro p e s m args below meth c s₁ B hml hv
  obtain ⟨rfl, hsz, hP, hK, hD0, hN, hE⟩ := hv
  subst hsz
  rw [lg_entry_eq]
  refine body p e s m _ below meth c _ (va_A W0 s.heap.size) _ s.heap B.exec B.bytes hml (by rw [← ho]; exact findClass_of_methodNamed B.named) (atoms_spec (ws := ws) B.pre) hK hN hE (fun q h => Or.inr h) hP va_S.rf hD0.self (lv_entry avs hn) (fun H locs pc ls hP1 hD1 hS hdg => ?_)
  exact W.zret (v := r) B.exec B.bytes B.returns hnr (fun t ht hW => ⟨⟨r, (), rfl, rfl, by rw [ht]; exact hP1, hD1⟩, hS.F ht⟩) hS.2.2 hdg B.notSynchronized
theorem q_pvS {D : va_G} {E : q_En} {locs : List Loc} {tys : List (ClassId × FieldType)} {A : Nat → Prop} {s : State} {H : Heap} {As : List Value} {i : Nat} (hK : va_K D vwCl tys s) (hN : q_N s) (hE : q_E E A s s.heap) (hS : va_S A s.heap H locs) (hA : ∀ q, s.heap.size ≤ q → A q) (hi : i < 3) : PreV s H RJ0 (E.1 i) (q_Pre D E tys (.ref (E.1 i) :: As) [] H.size) As :=
  ⟨q_blind, vk_recv hE.1 hi hS, fun U hU hW => ⟨rfl, by rw [hU], fun k q h => by simp at h, va_K.moved hW.alike hK, ⟨fun i j p q h => by simp at h, fun k q h => by simp at h⟩, hN.warm hW, by rw [hU]; exact ((hE.kept hS.2.1).narrow (fun q hq => hq.elim (fun ⟨k, e, h⟩ => by simp at h) (fun h => hA q (Nat.le_trans hS.1 h)))).warm hW⟩⟩
theorem q_ps0 {D : va_G} {E : q_En} {locs : List Loc} {tys : List (ClassId × FieldType)} {A : Nat → Prop} {s : State} {H : Heap} {As : List Value} (hK : va_K D vwCl tys s) (hN : q_N s) (hE : q_E E A s s.heap) (hS : va_S A s.heap H locs) (hA : ∀ q, s.heap.size ≤ q → A q) : PreS s H (q_Pre D E tys As [] H.size) As :=
  ⟨q_blind, fun U hU hW => ⟨rfl, by rw [hU], fun k q h => by simp at h, va_K.moved hW.alike hK, ⟨fun i j p q h => by simp at h, fun k q h => by simp at h⟩, hN.warm hW, by rw [hU]; exact ((hE.kept hS.2.1).narrow (fun q hq => hq.elim (fun ⟨k, e, h⟩ => by simp at h) (fun h => hA q (Nat.le_trans hS.1 h)))).warm hW⟩⟩
def q_ch (i : Nat) (k : Int32) : Int32 := (q_byt.getD i []).getD k.toNatClampNeg 0 &&& 255
theorem q_lenS : ∀ i, i < 3 → q_len.getD i 0 < 2147483648 := by decide
abbrev rm_J3_check : Room := { frames := 0, cells := 0, slots := 0, locals := 0 }
abbrev rm_J0_check : Room := { frames := 1, cells := 0, slots := 0, locals := 22 }
abbrev rm_J1_charAt : Room := { frames := 2, cells := 0, slots := 0, locals := 43 }
abbrev rm_J0_small : Room := { frames := 0, cells := 0, slots := 0, locals := 0 }
abbrev rm_J0_length : Room := { frames := 1, cells := 0, slots := 0, locals := 20 }
abbrev rm_J0_charAt : Room := { frames := 3, cells := 0, slots := 0, locals := 64 }
theorem vd_J0_length_8abf5 : yJ0_length_8abf5.cls = RJ0 ∧ yJ0_length_8abf5.cls ≠ "java/lang/invoke/MethodHandle" ∧ yJ0_length_8abf5.cls ≠ "java/lang/invoke/VarHandle" ∧ (parseMethodDescriptor yJ0_length_8abf5.desc).map (fun d => d.parameters.length) = some 0 := by decide +kernel
theorem vd_J0_charAt_5068e : yJ0_charAt_5068e.cls = RJ0 ∧ yJ0_charAt_5068e.cls ≠ "java/lang/invoke/MethodHandle" ∧ yJ0_charAt_5068e.cls ≠ "java/lang/invoke/VarHandle" ∧ (parseMethodDescriptor yJ0_charAt_5068e.desc).map (fun d => d.parameters.length) = some 1 := by decide +kernel
set_option maxHeartbeats 4000000 in
set_option maxRecDepth 100000 in
theorem c_J3_check (l : Launch) (D : va_G) (E : q_En) (tys : List (ClassId × FieldType)) (i n : Int32) (fv : Value) (hfv : fv = .null ∨ ∃ t, fv = .ref t) (h0 : ¬ i < 0) (h1 : i < n) : CtI l D E yJ3_checkIndex_8e157 wsJ3_checkIndex_8e157 rm_J3_check tys [.int i, .int n, fv] [] [] i := by
  have hn : (lg_sl [.int i, .int n, fv]).length ≤ 3 := by
    rcases hfv with rfl | ⟨t, rfl⟩ <;> exact Nat.le_of_ble_eq_true rfl
  refine q_enterI cJ3_checkIndex_8e157 3 RJ3 (by decide) rfl hn rfl ?_
  intro p e s m args below meth c Q A ls H hx hb hml hown hts hK hN hE hA hP hS hD hl hret
  have hl : lv_has ls 3 [(0, .int i), (1, .int n), (2, fv)] := hl
  refine lv_iload_n hx hb dJ3_checkIndex_8e157_0 rfl (lv_at hl 0 rfl) ?_
  refine lv_if_lt (tgt := 9) hx hb dJ3_checkIndex_8e157_1 (by decide) (fun c1 => absurd c1 h0) (fun _ => ?_)
  refine lv_iload_n hx hb dJ3_checkIndex_8e157_4 rfl (lv_at hl 0 rfl) ?_
  refine lv_iload_n hx hb dJ3_checkIndex_8e157_5 rfl (lv_at hl 1 rfl) ?_
  refine lv_icmp_lt (tgt := 16) hx hb dJ3_checkIndex_8e157_6 (by decide) (fun _ => ?_) (fun c1 => absurd h1 c1)
  refine lv_iload_n hx hb dJ3_checkIndex_8e157_16 rfl (lv_at hl 0 rfl) ?_
  exact hret _ _ _ _ hP hD hS dJ3_checkIndex_8e157_17
set_option maxHeartbeats 4000000 in
set_option maxRecDepth 100000 in
theorem c_J0_check (l : Launch) (D : va_G) (E : q_En) (tys : List (ClassId × FieldType)) (i n : Int32) (h0 : ¬ i < 0) (h1 : i < n) : CtV l D E yJ0_checkIndex_df160 wsJ0_checkIndex_df160 rm_J0_check tys [.int i, .int n] [] [] := by
  refine q_enterV cJ0_checkIndex_df160 2 RJ0 (by decide) rfl (Nat.le_of_ble_eq_true rfl) rfl ?_
  intro p e s m args below meth c Q A ls H hx hb hml hown hts hK hN hE hA hP hS hD hl hret
  have hl : lv_has ls 2 [(0, .int i), (1, .int n)] := hl
  refine lv_iload_n hx hb dJ0_checkIndex_df160_0 rfl (lv_at hl 0 rfl) ?_
  refine lv_iload_n hx hb dJ0_checkIndex_df160_1 rfl (lv_at hl 1 rfl) ?_
  obtain ⟨fv, hfv, hZ⟩ : ∃ fv : Value, (fv = .null ∨ ∃ t, fv = .ref t) ∧ va_Z "jdk/internal/util/Preconditions" "SIOOBE_FORMATTER" "Ljava/util/function/BiFunction;" fv A s s.heap := by
    rcases hE.2.2.2 with h | ⟨t, h⟩
    · exact ⟨.null, Or.inl rfl, h⟩
    · exact ⟨.ref t, Or.inr ⟨t, rfl⟩, h⟩
  refine va_gets hx hb hZ hS hown (hts (.fieldLink RJ0 1053 "jdk/internal/util/Preconditions" "SIOOBE_FORMATTER" "Ljava/util/function/BiFunction;") (by decide +kernel)) (fun _ h9 => h9) dJ0_checkIndex_df160_2 ?_
  refine q_aI (va_runS (As := [.int i, .int n, fv]) (rest := []) ⟨hx, hb, hml, hown, hts⟩ (c_J3_check l D E tys i n fv hfv h0 h1 H.size) (va_cwS 3 hts gJ0_checkIndex_df160_J3_checkIndex_8e157 rfl rfl rfl (by decide +kernel) ⟨Nat.le_of_ble_eq_true rfl, Nat.le_of_ble_eq_true rfl⟩) (q_ps0 hK hN hE hS hA) rfl rfl hl.1 rfl (lv_room (Nat.le_of_ble_eq_true rfl)) dJ0_checkIndex_df160_5 ⟨Nat.zero_le _, Nat.zero_le _⟩) hP hD hS hA [] [] (Wr := []) rfl rfl rfl (by decide) (fun H locs hP hD hS => ?_)
  refine lv_pop hx hb dJ0_checkIndex_df160_8 rfl ?_
  exact hret _ _ _ _ hP hD hS dJ0_checkIndex_df160_9
theorem q_char : ∀ i, i < 3 → ∀ k, k < 3 → narrow .char (.int ((q_byt.getD i []).getD k 0 &&& 255)) = .int ((q_byt.getD i []).getD k 0 &&& 255) ∧ ((((q_byt.getD i []).getD k 0) &&& 255).toUInt32 % 65536).toInt32 = ((q_byt.getD i []).getD k 0 &&& 255) := by decide +kernel
theorem q_lenB : ∀ i, i < 3 → q_len.getD i 0 ≤ 3 := by decide
set_option maxHeartbeats 4000000 in
set_option maxRecDepth 100000 in
theorem c_J1_charAt (l : Launch) (D : va_G) (E : q_En) (tys : List (ClassId × FieldType)) (i : Nat) (hi : i < 3) (k : Int32) (hk : inb k (q_len.getD i 0) = true) : CtI l D E yJ1_charAt_3b067 wsJ1_charAt_3b067 rm_J1_charAt tys [.ref (E.2 i), .int k] [] [] (q_ch i k) := by
  have hin := inb_vp hk
  obtain ⟨j, hj, rfl⟩ := vp_in_of hin (q_lenS i hi)
  have hj3 : j < 3 := Nat.lt_of_lt_of_le hj (q_lenB i hi)
  have hcl : (nI j).toNatClampNeg = j := nI_clamp (by omega)
  have hq : q_ch i (nI j) = (q_byt.getD i []).getD j 0 &&& 255 := by unfold q_ch; rw [hcl]
  refine q_enterY .char cJ1_charAt_3b067 2 RJ1 (by decide) rfl (Nat.le_of_ble_eq_true rfl) rfl (by rw [hq]; exact (q_char i hi j hj3).1) ?_
  intro p e s m args below meth c Q A ls H hx hb hml hown hts hK hN hE hA hP hS hD hl hret
  have hl : lv_has ls 2 [(0, .ref (E.2 i)), (1, .int (nI j))] := hl
  have hT := (hE.1.1 i hi).2.2.2
  refine lv_iload_n hx hb dJ1_charAt_3b067_0 rfl (lv_at hl 1 rfl) ?_
  refine lv_aload_n hx hb dJ1_charAt_3b067_1 rfl (lv_at hl 0 rfl) ?_
  refine va_tlen hx hb hT hS (v := nI (q_len.getD i 0)) rfl dJ1_charAt_3b067_2 ?_
  refine q_aV (va_runS (As := [.int (nI j), .int (nI (q_len.getD i 0))]) (rest := []) ⟨hx, hb, hml, hown, hts⟩ (c_J0_check l D E tys (nI j) (nI (q_len.getD i 0)) (nI_pos (by omega)) (nI_lt hj (q_lenS i hi)) H.size) (va_cwS 2 hts gJ1_charAt_3b067_J0_checkIndex_df160 rfl rfl rfl (by decide +kernel) ⟨Nat.le_of_ble_eq_true rfl, Nat.le_of_ble_eq_true rfl⟩) (q_ps0 hK hN hE hS hA) rfl rfl hl.1 rfl (lv_room (Nat.le_of_ble_eq_true rfl)) dJ1_charAt_3b067_3 ⟨Nat.zero_le _, Nat.zero_le _⟩) hP hD hS hA [] [] (Wr := []) rfl rfl rfl (by decide) (fun H locs hP hD hS => ?_)
  refine lv_aload_n hx hb dJ1_charAt_3b067_6 rfl (lv_at hl 0 rfl) ?_
  refine lv_iload_n hx hb dJ1_charAt_3b067_7 rfl (lv_at hl 1 rfl) ?_
  refine va_tb hx hb hT hS hin (v := .int ((q_byt.getD i []).getD j 0)) (by rw [hcl]) dJ1_charAt_3b067_8 ?_
  refine lv_sipush (v := 255) hx hb dJ1_charAt_3b067_9 (by decide) ?_
  refine lv_iand hx hb dJ1_charAt_3b067_12 ?_
  refine lv_i2c (v := q_ch i (nI j)) hx hb dJ1_charAt_3b067_13 (by rw [hq]; exact (q_char i hi j hj3).2) ?_
  exact hret _ _ _ _ hP hD hS dJ1_charAt_3b067_14
set_option maxHeartbeats 4000000 in
set_option maxRecDepth 100000 in
theorem c_J0_isLatin1 (l : Launch) (D : va_G) (E : q_En) (tys : List (ClassId × FieldType)) (i : Nat) (hi : i < 3) : CtI l D E yJ0_isLatin1_aae02 wsJ0_isLatin1_aae02 rm_J0_small tys [.ref (E.1 i)] [] [] 1 := by
  refine q_enterZ cJ0_isLatin1_aae02 1 RJ0 (by decide) rfl (Nat.le_of_ble_eq_true rfl) rfl ?_
  intro p e s m args below meth c Q A ls H hx hb hml hown hts hK hN hE hA hP hS hD hl hret
  have hl : lv_has ls 1 [(0, .ref (E.1 i))] := hl
  refine va_gets hx hb hE.2.2.1 hS hown (hts (.fieldLink RJ0 38 "java/lang/String" "COMPACT_STRINGS" "Z") (by decide +kernel)) (fun _ h9 => h9) dJ0_isLatin1_aae02_0 ?_
  refine lv_if_eq (tgt := 17) hx hb dJ0_isLatin1_aae02_3 (by decide) (fun c1 => absurd c1 (by decide)) (fun _ => ?_)
  refine lv_aload_n hx hb dJ0_isLatin1_aae02_6 rfl (lv_at hl 0 rfl) ?_
  refine vk_getf hx hb (hE.1.1 i hi).2.1 hS hown (hts (.fieldLink RJ0 15 "java/lang/String" "coder" "B") (by decide +kernel)) (fun _ h9 => h9) dJ0_isLatin1_aae02_7 ?_
  refine lv_if_ne (tgt := 17) hx hb dJ0_isLatin1_aae02_10 (by decide) (fun c1 => absurd rfl c1) (fun _ => ?_)
  refine lv_iconst (v := 1) hx hb dJ0_isLatin1_aae02_13 (by decide) ?_
  refine lv_goto (tgt := 18) hx hb dJ0_isLatin1_aae02_14 (by decide) ?_
  exact hret _ _ _ _ rfl hP hD hS dJ0_isLatin1_aae02_18
set_option maxHeartbeats 4000000 in
set_option maxRecDepth 100000 in
theorem c_J0_coder (l : Launch) (D : va_G) (E : q_En) (tys : List (ClassId × FieldType)) (i : Nat) (hi : i < 3) : CtI l D E yJ0_coder_7d493 wsJ0_coder_7d493 rm_J0_small tys [.ref (E.1 i)] [] [] 0 := by
  refine q_enterY .byte cJ0_coder_7d493 1 RJ0 (by decide) rfl (Nat.le_of_ble_eq_true rfl) rfl rfl ?_
  intro p e s m args below meth c Q A ls H hx hb hml hown hts hK hN hE hA hP hS hD hl hret
  have hl : lv_has ls 1 [(0, .ref (E.1 i))] := hl
  refine va_gets hx hb hE.2.2.1 hS hown (hts (.fieldLink RJ0 38 "java/lang/String" "COMPACT_STRINGS" "Z") (by decide +kernel)) (fun _ h9 => h9) dJ0_coder_7d493_0 ?_
  refine lv_if_eq (tgt := 13) hx hb dJ0_coder_7d493_3 (by decide) (fun c1 => absurd c1 (by decide)) (fun _ => ?_)
  refine lv_aload_n hx hb dJ0_coder_7d493_6 rfl (lv_at hl 0 rfl) ?_
  refine vk_getf hx hb (hE.1.1 i hi).2.1 hS hown (hts (.fieldLink RJ0 15 "java/lang/String" "coder" "B") (by decide +kernel)) (fun _ h9 => h9) dJ0_coder_7d493_7 ?_
  refine lv_goto (tgt := 14) hx hb dJ0_coder_7d493_10 (by decide) ?_
  exact hret _ _ _ _ hP hD hS dJ0_coder_7d493_14
set_option maxHeartbeats 4000000 in
set_option maxRecDepth 100000 in
theorem c_J0_length (l : Launch) (D : va_G) (E : q_En) (tys : List (ClassId × FieldType)) (i : Nat) (hi : i < 3) : CtI l D E yJ0_length_8abf5 wsJ0_length_8abf5 rm_J0_length tys [.ref (E.1 i)] [] [] (nI (q_len.getD i 0)) := by
  refine q_enterI cJ0_length_8abf5 1 RJ0 (by decide) rfl (Nat.le_of_ble_eq_true rfl) rfl ?_
  intro p e s m args below meth c Q A ls H hx hb hml hown hts hK hN hE hA hP hS hD hl hret
  have hl : lv_has ls 1 [(0, .ref (E.1 i))] := hl
  refine lv_aload_n hx hb dJ0_length_8abf5_0 rfl (lv_at hl 0 rfl) ?_
  refine vk_getf hx hb (hE.1.1 i hi).2.2.1 hS hown (hts (.fieldLink RJ0 9 "java/lang/String" "value" "[B") (by decide +kernel)) (fun _ h9 => h9) dJ0_length_8abf5_1 ?_
  refine va_tlen hx hb (hE.1.1 i hi).2.2.2 hS (v := nI (q_len.getD i 0)) rfl dJ0_length_8abf5_4 ?_
  refine lv_aload_n hx hb dJ0_length_8abf5_5 rfl (lv_at hl 0 rfl) ?_
  refine q_aI (va_runV (As := []) (rest := [.int (nI (q_len.getD i 0))]) ⟨hx, hb, hml, hown, hts⟩ (c_J0_coder l D E tys i hi H.size) (cwV 0 hts gJ0_length_8abf5_J0_coder_7d493 rfl rfl rfl (by decide +kernel) ⟨Nat.le_of_ble_eq_true rfl, Nat.le_of_ble_eq_true rfl⟩) (q_pvS hK hN hE hS hA hi) rfl rfl hl.1 rfl (lv_room (Nat.le_of_ble_eq_true rfl)) dJ0_length_8abf5_6 ⟨Nat.zero_le _, Nat.zero_le _⟩) hP hD hS hA [] [] (Wr := []) rfl rfl rfl (by decide) (fun H locs hP hD hS => ?_)
  refine lv_ishr hx hb dJ0_length_8abf5_9 ?_
  rw [sb_shr0]
  exact hret _ _ _ _ hP hD hS dJ0_length_8abf5_10
set_option maxHeartbeats 4000000 in
set_option maxRecDepth 100000 in
theorem c_J0_charAt (l : Launch) (D : va_G) (E : q_En) (tys : List (ClassId × FieldType)) (i : Nat) (hi : i < 3) (k : Int32) (hk : inb k (q_len.getD i 0) = true) : CtI l D E yJ0_charAt_5068e wsJ0_charAt_5068e rm_J0_charAt tys [.ref (E.1 i), .int k] [] [] (q_ch i k) := by
  have hin := inb_vp hk
  obtain ⟨j, hj, rfl⟩ := vp_in_of hin (q_lenS i hi)
  have hj3 : j < 3 := Nat.lt_of_lt_of_le hj (q_lenB i hi)
  have hcl : (nI j).toNatClampNeg = j := nI_clamp (by omega)
  have hq : q_ch i (nI j) = (q_byt.getD i []).getD j 0 &&& 255 := by unfold q_ch; rw [hcl]
  refine q_enterY .char cJ0_charAt_5068e 2 RJ0 (by decide) rfl (Nat.le_of_ble_eq_true rfl) rfl (by rw [hq]; exact (q_char i hi j hj3).1) ?_
  intro p e s m args below meth c Q A ls H hx hb hml hown hts hK hN hE hA hP hS hD hl hret
  have hl : lv_has ls 2 [(0, .ref (E.1 i)), (1, .int (nI j))] := hl
  refine lv_aload_n hx hb dJ0_charAt_5068e_0 rfl (lv_at hl 0 rfl) ?_
  refine q_aI (va_runV (As := []) (rest := []) ⟨hx, hb, hml, hown, hts⟩ (c_J0_isLatin1 l D E tys i hi H.size) (cwV 0 hts gJ0_charAt_5068e_J0_isLatin1_aae02 rfl rfl rfl (by decide +kernel) ⟨Nat.le_of_ble_eq_true rfl, Nat.le_of_ble_eq_true rfl⟩) (q_pvS hK hN hE hS hA hi) rfl rfl hl.1 rfl (lv_room (Nat.le_of_ble_eq_true rfl)) dJ0_charAt_5068e_1 ⟨Nat.zero_le _, Nat.zero_le _⟩) hP hD hS hA [] [] (Wr := []) rfl rfl rfl (by decide) (fun H locs hP hD hS => ?_)
  refine lv_if_eq (tgt := 16) hx hb dJ0_charAt_5068e_4 (by decide) (fun c1 => absurd c1 (by decide)) (fun _ => ?_)
  refine lv_aload_n hx hb dJ0_charAt_5068e_7 rfl (lv_at hl 0 rfl) ?_
  refine vk_getf hx hb (hE.1.1 i hi).2.2.1 hS hown (hts (.fieldLink RJ0 9 "java/lang/String" "value" "[B") (by decide +kernel)) (fun _ h9 => h9) dJ0_charAt_5068e_8 ?_
  refine lv_iload_n hx hb dJ0_charAt_5068e_11 rfl (lv_at hl 1 rfl) ?_
  refine q_aI (va_runS (As := [.ref (E.2 i), .int (nI j)]) (rest := []) ⟨hx, hb, hml, hown, hts⟩ (c_J1_charAt l D E tys i hi (nI j) hk H.size) (va_cwS 2 hts gJ0_charAt_5068e_J1_charAt_3b067 rfl rfl rfl (by decide +kernel) ⟨Nat.le_of_ble_eq_true rfl, Nat.le_of_ble_eq_true rfl⟩) (q_ps0 hK hN hE hS hA) rfl rfl hl.1 rfl (lv_room (Nat.le_of_ble_eq_true rfl)) dJ0_charAt_5068e_12 ⟨Nat.zero_le _, Nat.zero_le _⟩) hP hD hS hA [] [] (Wr := []) rfl rfl rfl (by decide) (fun H locs hP hD hS => ?_)
  exact hret _ _ _ _ hP hD hS dJ0_charAt_5068e_15
