/-! constructors: a fresh object h0 with its fields at their defaults becomes a world of its own -/
def q_N2 (U : State) : Prop := va_Nw (.methodLinkNest RX1 20 yX2_init "OnlyPrimes") U ∧ va_Nw (.methodLinkNest RX3 11 yX2_init "OnlyPrimes") U ∧ va_Nw (.methodLinkNest RX9 30 yX3_init "OnlyPrimes") U ∧ va_Nw (.methodLinkNest RX9 37 yX0_init "OnlyPrimes") U ∧ va_Nw (.methodLinkNest RX9 44 yX4_init "OnlyPrimes") U ∧ va_Nw (.methodLinkNest RX9 51 yX6_init "OnlyPrimes") U ∧ va_Nw (.methodLinkNest RX9 58 yX8_init "OnlyPrimes") U ∧ va_Nw (.methodLinkNest RX9 65 yX5_init "OnlyPrimes") U ∧ va_AO "OnlyPrimes$Kept" U
theorem q_AOwarm {s U : State} (hW : s.WarmedH U.vm) (h : va_AO "OnlyPrimes$Kept" s) : va_AO "OnlyPrimes$Kept" U := h.moved hW.alike
theorem q_AOsame {u U : State} (e : u.vm = U.vm) (h : va_AO "OnlyPrimes$Kept" u) : va_AO "OnlyPrimes$Kept" U := h.moved (by rw [e]; exact Vm.Alike.refl U.vm)
theorem q_N2.warm {s U : State} (hW : s.WarmedH U.vm) (h : q_N2 s) : q_N2 U := ⟨h.1.warmM hW, h.2.1.warmM hW, h.2.2.1.warmM hW, h.2.2.2.1.warmM hW, h.2.2.2.2.1.warmM hW, h.2.2.2.2.2.1.warmM hW, h.2.2.2.2.2.2.1.warmM hW, h.2.2.2.2.2.2.2.1.warmM hW, q_AOwarm hW h.2.2.2.2.2.2.2.2⟩
theorem q_N2.same {u U : State} (e : u.vm = U.vm) (h : q_N2 u) : q_N2 U := ⟨h.1.same rfl e, h.2.1.same rfl e, h.2.2.1.same rfl e, h.2.2.2.1.same rfl e, h.2.2.2.2.1.same rfl e, h.2.2.2.2.2.1.same rfl e, h.2.2.2.2.2.2.1.same rfl e, h.2.2.2.2.2.2.2.1.same rfl e, q_AOsame e h.2.2.2.2.2.2.2.2⟩
abbrev q_Nu : Type := (Nat → Nat) × ClassId × ClassId × ClassId
abbrev q_NW : Type := (Nat → Nat) → ClassId → ClassId → ClassId → va_W
abbrev q_NT : Type := ClassId → ClassId → ClassId → List (ClassId × FieldType)
abbrev q_PreN (D : va_G) (E : q_En) (avs : List Value) (W0 : va_W) (sz : Nat) : Array Value → State → Prop := va_Pc avs (fun U => U.heap.size = sz ∧ va_P D vwCl W0 U.heap ∧ va_K D vwCl [] U ∧ va_D (fun _ => True) W0 ∧ q_N U ∧ q_E E (va_A W0 sz) U U.heap ∧ q_N2 U)
abbrev q_BN (D : va_G) (W0 : va_W) (W1 : q_NW) (T1 : q_NT) (sz : Nat) : q_Nu → State → Prop := fun u t => va_P D vwCl (W1 u.1 u.2.1 u.2.2.1 u.2.2.2) t.heap ∧ va_K D vwCl (T1 u.2.1 u.2.2.1 u.2.2.2) t ∧ va_D (va_A W0 sz) (W1 u.1 u.2.1 u.2.2.1 u.2.2.2)
def CtN (l : Launch) (D : va_G) (E : q_En) (y : MethodName) (ws : List Cond) (rm : Room) (avs : List Value) (W0 : va_W) (W1 : q_NW) (T1 : q_NT) (mc ms : Nat) : Prop := ∀ sz : Nat, Met l y ws rm (q_PreN D E avs W0 sz) (va_Qv (fun (_ : q_Nu) => True) (q_BN D W0 W1 T1 sz) (va_A W0 sz)) mc ms (va_A W0 sz)
theorem q_enterN {l : Launch} {D : va_G} {E : q_En} {y : MethodName} {ws ws' : List Cond} {rm : Room} {avs : List Value} {W0 : va_W} {W1 : q_NW} {T1 : q_NT} {mc ms : Nat} (cc : ByteArray) (maxL : Nat) (own : String) (hy : plainName y.cls = true) (hw : ws = Cond.code y cc maxL none :: ws') (hn : (lg_sl avs).length ≤ maxL) (ho : y.cls = own) (hnm : y.name = "<init>")
    (body : ∀ (p : Program) (e : Env) (s : State) (m : MethodId) (args : Array Value) (below : List Frame) (meth : Method) (c : Code) (Q : State → Prop) (A : Nat → Prop) (ls : Array Slot) (H : Heap), p.tables.exec = Jvm.exec → c.code = cc → c.maxLocals = maxL → s.vm.findClass own = some m.cls → (∀ w ∈ ws, w.before args s = true) → va_K D vwCl [] s → q_N s → q_E E A s s.heap → q_N2 s → meth.name = "<init>" → (∀ q, s.heap.size ≤ q → A q) → va_P D vwCl W0 H → va_S A s.heap H [] → va_D A W0 → lv_has ls maxL (lv_args 0 avs) → (∀ (H : Heap) (locs : List Loc) (pc : Nat) (ls : Array Slot) (ad : Nat → Nat) (kI kB kQ : ClassId), va_P D vwCl (W1 ad kI kB kQ) H → va_K D vwCl (T1 kI kB kQ) s → va_D A (W1 ad kI kB kQ) → va_S A s.heap H locs → decode cc pc = .ok (.return_, 1) → W p l e rm s m args below meth c H locs mc ms Q (F0 m pc ls [])) → W p l e rm s m args below meth c H [] 0 0 Q (F0 m 0 ls [])) : CtN l D E y ws rm avs W0 W1 T1 mc ms := by
  intro sz
  refine Met.ofW (cc := cc) (maxL := maxL) (ret := none) hy hw ?_
  intro p e s m args below meth c s₁ B hml hv
  obtain ⟨rfl, hsz, hP, hK, hD0, hN, hE, hN2⟩ := hv
  subst hsz
  rw [lg_entry_eq]
  refine body p e s m _ below meth c _ (va_A W0 s.heap.size) _ s.heap B.exec B.bytes hml (by rw [← ho]; exact findClass_of_methodNamed B.named) (atoms_spec (ws := ws) B.pre) hK hN hE hN2 (by rw [← hnm]; exact (name_of_methodNamed B.named B.method).1) (fun q h => Or.inr h) hP va_S.rf hD0.self (lv_entry avs hn) (fun H locs pc ls ad kI kB kQ hP1 hK1 hD1 hS hdg => ?_)
  exact W.vret B.exec B.bytes B.returns (fun t ht hW => ⟨⟨(ad, kI, kB, kQ), rfl, trivial, by rw [ht]; exact hP1, va_K.moved hW.alike hK1, hD1⟩, hS.F ht⟩) hS.2.2 hdg B.notSynchronized
theorem q_blindN {D : va_G} {E : q_En} {avs : List Value} {W0 : va_W} {sz : Nat} : FrameBlind (q_PreN D E avs W0 sz) := fun a U g mk q => by
  obtain ⟨q0, q1, qP, qK, qD, qN, qE, qN2⟩ := q
  exact ⟨q0, q1, qP, va_K.moved (u := U) (U := U.calling g mk a) (Vm.Alike.refl U.vm) qK, qD, qN.same (u := U) (U := U.calling g mk a) rfl, qE.same (u := U) (U := U.calling g mk a) rfl, qN2.same (u := U) (U := U.calling g mk a) rfl⟩
theorem q_psN {D : va_G} {E : q_En} {locs : List Loc} {tys : List (ClassId × FieldType)} {ws W0 : va_W} {A : Nat → Prop} {s : State} {H : Heap} {As : List Value} (hK : va_K D vwCl tys s) (hN : q_N s) (hE : q_E E A s s.heap) (hN2 : q_N2 s) (hS : va_S A s.heap H locs) (hA : ∀ q, s.heap.size ≤ q → A q) (hP : va_P D vwCl ws H) (hD : va_D A ws) (isC : List Nat) (hC1 : isC.filterMap (fun i => ws[i]?) = W0) (hnC : va_nd isC = true) (hC2 : isC.map (fun i => ws[i]?) = W0.map some) : PreS s H (q_PreN D E As W0 H.size) As :=
  ⟨q_blindN, fun U hU hW => ⟨rfl, by rw [hU], by rw [hU]; exact hP.sub isC hC1, va_K.moved hW.alike (hK.sub [] rfl), (hD.sub isC hnC hC2).weaken (fun _ _ _ _ => trivial), hN.warm hW, by rw [hU]; exact ((hE.kept hS.2.1).narrow (va_free (wc := W0) hD hS hA isC hC2)).warm hW, hN2.warm hW⟩⟩
theorem q_aN {D : va_G} {p : Program} {l : Launch} {e : Env} {R : Room} {s : State} {m : MethodId} {args : Array Value} {below : List Frame} {meth : Method} {c : Code} {H : Heap} {locs : List Loc} {Q : State → Prop} {A : Nat → Prop} {ws W0 Wr : va_W} {W1 : q_NW} {T1 : q_NT} {tys : List (ClassId × FieldType)} {mc ms cells slots : Nat} {pc : Nat} {ls : Array Slot} {st0 rest : List Value} {a : Array Value}
    (hr : va_Run p l e R s m args below meth c H locs cells slots mc ms (F0 m pc ls st0) rest (va_Qv (fun (_ : q_Nu) => True) (q_BN D W0 W1 T1 H.size) (va_A W0 H.size) a) (va_A W0 H.size))
    (hK : va_K D vwCl tys s) (hP : va_P D vwCl ws H) (hD : va_D A ws) (hS : va_S A s.heap H locs) (hA : ∀ q, s.heap.size ≤ q → A q) (isC isR : List Nat) (hC : isC.map (fun i => ws[i]?) = W0.map some) (hR : isR.map (fun i => ws[i]?) = Wr.map some) (hn : va_nd isR = true) (hdis : ∀ i ∈ isR, i ∉ isC)
    (kk : ∀ (ad : Nat → Nat) (kI kB kQ : ClassId) (H1 : Heap) (locs1 : List Loc), va_P D vwCl (Wr ++ W1 ad kI kB kQ) H1 → va_K D vwCl (tys ++ T1 kI kB kQ) s → va_D A (Wr ++ W1 ad kI kB kQ) → va_S A s.heap H1 locs1 → W p l e R s m args below meth c H1 locs1 (cells + mc) (slots + ms) Q (F0 m (pc + 3) ls rest)) : W p l e R s m args below meth c H locs cells slots Q (F0 m pc ls st0) := by
  have hFc := va_free (wc := W0) hD hS hA isC hC
  refine va_callv hr hS (fun q _ h => hFc q h) hFc (fun u t H1 locs1 ht hvm hw hB hz1 hk1 hS1 => ?_)
  obtain ⟨hP1, hK1, hD1⟩ := hB
  rw [ht] at hP1
  obtain ⟨hP2, hD2⟩ := va_join hP hD isC isR hC hR hn hdis hk1 hFc hP1 hD1
  exact kk u.1 u.2.1 u.2.2.1 u.2.2.2 H1 locs1 hP2 (hK.app (va_K.moved hvm.symm hK1)) hD2 hS1
theorem q_aVk {D : va_G} {p : Program} {l : Launch} {e : Env} {R : Room} {s : State} {m : MethodId} {args : Array Value} {below : List Frame} {meth : Method} {c : Code} {H : Heap} {locs : List Loc} {Q : State → Prop} {A : Nat → Prop} {ws W0 W1 Wr : va_W} {pc : Nat} {ls : Array Slot} {st0 rest : List Value} {a : Array Value} {cells slots : Nat}
    (hr : va_Run p l e R s m args below meth c H locs cells slots 0 0 (F0 m pc ls st0) rest (va_Qv (fun (_ : Unit) => True) (q_B D W0 W1 H.size) (va_A W0 H.size) a) (va_A W0 H.size))
    (hP : va_P D vwCl ws H) (hD : va_D A ws) (hS : va_S A s.heap H locs) (hA : ∀ q, s.heap.size ≤ q → A q) (isC isR : List Nat) (hC : isC.map (fun i => ws[i]?) = W0.map some) (hR : isR.map (fun i => ws[i]?) = Wr.map some) (hn : va_nd isR = true) (hdis : ∀ i ∈ isR, i ∉ isC)
    (kk : ∀ (H1 : Heap) (locs1 : List Loc), va_P D vwCl (Wr ++ W1) H1 → va_D A (Wr ++ W1) → va_S A s.heap H1 locs1 → W p l e R s m args below meth c H1 locs1 cells slots Q (F0 m (pc + 3) ls rest)) : W p l e R s m args below meth c H locs cells slots Q (F0 m pc ls st0) := by
  have hFc := va_free (wc := W0) hD hS hA isC hC
  refine va_callv hr hS (fun q _ h => hFc q h) hFc (fun u t H1 locs1 ht hvm hw hB hz1 hk1 hS1 => ?_)
  obtain ⟨hP1, hD1⟩ := hB
  rw [ht] at hP1
  obtain ⟨hP2, hD2⟩ := va_join hP hD isC isR hC hR hn hdis hk1 hFc hP1 hD1
  exact kk H1 locs1 hP2 hD2 hS1
/-- one class of arrays of a type -/
theorem q_kI {D : va_G} {tys : List (ClassId × FieldType)} {s : State} (h : va_K D vwCl tys s) (i j : Nat) {c1 c2 : ClassId} (h1 : tys[i]? = some (c1, .int)) (h2 : tys[j]? = some (c2, .int)) : c1 = c2 := Option.some.inj ((h.2 i _ h1).2.symm.trans (h.2 j _ h2).2)
theorem q_kB {D : va_G} {tys : List (ClassId × FieldType)} {s : State} (h : va_K D vwCl tys s) (i j : Nat) {c1 c2 : ClassId} (h1 : tys[i]? = some (c1, .boolean)) (h2 : tys[j]? = some (c2, .boolean)) : c1 = c2 := Option.some.inj ((h.2 i _ h1).2.symm.trans (h.2 j _ h2).2)
def q_z : Nat → Int32 := fun _ => 0
theorem q_zu (k : Nat) : upd q_z k 0 = q_z := by funext j; unfold upd q_z; split <;> rfl
abbrev rmS (n : Nat) : Room := { frames := 1, cells := 1, slots := n, locals := 21 }
abbrev wN_X7 (h0 n : Nat) : q_NW := fun ad kI _ _ => [(h0, .inr (7, [.ref (ad 0), .int 0])), (ad 0, .inl (kI, n, .inl q_z))]
abbrev tN_I : q_NT := fun kI _ _ => [(kI, .int)]
abbrev tN_IB : q_NT := fun kI kB _ => [(kI, .int), (kB, .boolean)]
set_option maxHeartbeats 4000000 in
set_option maxRecDepth 100000 in
theorem n_X7 (l : Launch) (D : va_G) (E : q_En) (h0 : Nat) (x1 : Int32) (n : Nat) (hx0 : ¬ x1 < 0) (hxn : x1.toNatClampNeg = n) (hn : n ≤ 200) : CtN l D E yX7_init wsX7_init (rmS n) [.ref h0, .int x1] [(h0, .inr (7, [.null, .int 0]))] (wN_X7 h0 n) tN_I 1 n := by
  refine q_enterN cX7_init 2 RX7 (by decide) rfl (Nat.le_of_ble_eq_true rfl) rfl rfl ?_
  intro p e s m args below meth c Q A ls H hx hb hml hown hts hK hN hE hN2 hin hA hP hS hD hl hret
  have hl : lv_has ls 2 [(0, .ref h0), (1, .int x1)] := hl
  refine lv_aload_n hx hb dX7_init_0 rfl (lv_at hl 0 rfl) ?_
  refine W.objInit hx hb hown (hts (.methodLink RX7 1 objectInit) (by decide +kernel)) (hts (.instanceMethod objectInit) (by decide +kernel)) (hts (.code objectInit ⟨#[0xb1]⟩ 1 none) (List.mem_of_getElem? (i := 3) rfl)) rfl (by rw [hml]; exact hl.1) rfl dX7_init_1 (Nat.le_of_ble_eq_true rfl) (Nat.le_of_ble_eq_true rfl) ?_
  refine W.eq (g2 := F0 m 4 ls []) rfl ?_
  refine lv_aload_n hx hb dX7_init_4 rfl (lv_at hl 0 rfl) ?_
  refine lv_iload_n hx hb dX7_init_5 rfl (lv_at hl 1 rfl) ?_
  refine lv_iconst (v := 0) hx hb dX7_init_6 (by decide) ?_
  refine va_mmax hx hb (by rw [hml]; exact hl.1.symm) hown (hts (.methodLink RX7 7 Lib.Math.max.name) (by decide +kernel)) (hts (.static Lib.Math.max.name) (by decide +kernel)) (hts (.initialized "java/lang/Math") (by decide +kernel)) (hts (.code Lib.Math.max.name Lib.Math.max.code 2 (some .int)) (List.mem_of_getElem? (i := 7) rfl)) (Nat.le_of_ble_eq_true rfl) (Nat.le_of_ble_eq_true rfl) (Nat.zero_le _) (Nat.zero_le _) dX7_init_7 ?_
  rw [if_neg hx0]
  refine va_newa (atype := .int) (ty := .int) (a0 := (n, .inl q_z)) (N' := n) hx hb (hts (.arrayClass .int) (by decide +kernel)) rfl hK hP hD hS hA (fun _ => rfl) hx0 hxn (by show n * 4 ≤ 536870912; omega) (Nat.le_of_ble_eq_true rfl) (by show 0 + n ≤ n; omega) dX7_init_10 (fun q kI H hK hP hD hS => ?_)
  refine va_putF (D := D) (ci := 7) (v := .ref q) (ty := .array .int) (C := RX7) (T := TX7) (N := 2) hx hb hts (fun w h => List.mem_cons_of_mem _ (List.mem_append_right _ h)) tyX7 tyX7_ok nmX7 hown hK hP hD hS 0 rfl rfl 0 (by decide) (hts (.fieldLink RX7 13 "OnlyPrimes$Slots" "values" "[I") (by decide +kernel)) (fun _ h9 => h9) rfl hin rfl (by decide +kernel) rfl rfl (Nat.le_of_ble_eq_true rfl) dX7_init_12 (fun H locs hP hD hS => ?_)
  refine W.widen (k := 1) (n := n) (by omega) (by omega) ?_
  exact hret _ _ _ _ (fun _ => q) kI kI kI (hP.sub [0, 1] rfl) (hK.sub [0] rfl) (hD.sub [0, 1] rfl rfl) hS dX7_init_15
