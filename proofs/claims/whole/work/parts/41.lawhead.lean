/-! THE CLAIM OUT OF ONE WALK OF THE LAW'S BODY. Your part is whole_start (and what it stands on); all else here is the same for every law, but numbers. -/
def R_law : String := "OnlyPrimesLaw"
def lw_P (b : Addr) (xs : List Int32) (args : Array Value) (s : State) : Prop := args = #[.ref b] ∧ s.IntsAt b xs ∧ xs.length ≤ 3072 ∧ (Jvm.Cond.and given_1 narrow_1).before args s = true
def lw_Q (_ : Array Value) (s : State) (o : Outcome) (t : State) : Prop := o = .returned (some (.int 1)) ∧ Framed s o t [] 600000 7302250
def lw_Z (below : List Frame) (a : Array Value) (s : State) : State → Prop := fun t => ∃ o, t.status = .running ∧ Ended t below o ∧ lw_Q a s o t
/-- the law's own end, with 1 on the stack, nothing written that was there before, its room as the claim has it -/
theorem lw_ret {p : Program} {l : Launch} {e : Env} {s : State} {m : MethodId} {below : List Frame} {meth : Method} {c : Code} {b : Nat} (hx : p.tables.exec = Jvm.exec) (hb : c.code = code) (hr : meth.sig.returnType = ret) (hlocks : meth.locks = false) {pc : Nat} {H : Heap} {ls : Array Slot} (hdg : decode code pc = .ok (.ireturn, 1)) : W p l e room_1 s m #[Value.ref b] below meth c H [] 600000 7302250 (lw_Z below #[Value.ref b] s) (F0 m pc ls [.int 1]) := by
  intro T hT X
  obtain ⟨fs, hret, hrun, hended, hW, hframe⟩ := X.leave (v := some (.int 1)) (hlocks := hlocks) (fun h => by rw [hr] at h; cases h)
  have hmeth' : T.vm.method? m = some meth := X.method'
  refine ⟨T.setFrames fs, ?_, .returned (some (.int 1)), hrun, hended, rfl, ⟨_, rfl⟩, hW, hframe⟩
  jvm_step X.here [X.here.top, hx, hb, hdg, hmeth', hr, ret, narrow_b1]
  (try refine ⟨rfl, ?_⟩); (try refine ⟨rfl, ?_⟩)
  first | (intro acts; rw [hret _ acts rfl rfl rfl]) | rw [hret _ _ rfl rfl rfl]
  exact Steps.refl _
/-- what holds at the law's entry: the machine, the code, the tables' words (any of lw_tbl by 'hts w (by decide +kernel)'), the script of L ints xs at the cell b, what the Statement gives of the start (any of its parts by flat_of_before) -/
def lw_At (p : Program) (s : State) (m : MethodId) (meth : Method) (c : Code) (b L : Nat) (xs : Nat → Int32) : Prop :=
  p.tables.exec = Jvm.exec ∧ c.code = code ∧ meth.sig.returnType = ret ∧ c.maxLocals = 4 ∧ s.vm.findClass R_law = some m.cls ∧ (∀ w ∈ lw_tbl, w.before #[Value.ref b] s = true) ∧ va_X b L xs s s.heap ∧ b < s.heap.size ∧ meth.locks = false ∧ (Jvm.Cond.and given_1 narrow_1).before #[Value.ref b] s = true
theorem q_aIk {D : va_G} {p : Program} {l : Launch} {e : Env} {R : Room} {s : State} {m : MethodId} {args : Array Value} {below : List Frame} {meth : Method} {c : Code} {H : Heap} {locs : List Loc} {Q : State → Prop} {A : Nat → Prop} {ws W0 W1 Wr : va_W} {r : Int32} {pc : Nat} {ls : Array Slot} {st0 rest : List Value} {a : Array Value} {cells slots : Nat}
    (hr : va_Run p l e R s m args below meth c H locs cells slots 0 0 (F0 m pc ls st0) rest (va_Qi (fun (x : Int32) (_ : Unit) => x = r) (q_B D W0 W1 H.size) (va_A W0 H.size) a) (va_A W0 H.size))
    (hP : va_P D vwCl ws H) (hD : va_D A ws) (hS : va_S A s.heap H locs) (hA : ∀ q, s.heap.size ≤ q → A q) (isC isR : List Nat) (hC : isC.map (fun i => ws[i]?) = W0.map some) (hR : isR.map (fun i => ws[i]?) = Wr.map some) (hn : va_nd isR = true) (hdis : ∀ i ∈ isR, i ∉ isC)
    (kk : ∀ (H1 : Heap) (locs1 : List Loc), va_P D vwCl (Wr ++ W1) H1 → va_D A (Wr ++ W1) → va_S A s.heap H1 locs1 → W p l e R s m args below meth c H1 locs1 cells slots Q (F0 m (pc + 3) ls (.int r :: rest))) : W p l e R s m args below meth c H locs cells slots Q (F0 m pc ls st0) := by
  have hFc := va_free (wc := W0) hD hS hA isC hC
  refine va_calli hr hS (fun q _ h => hFc q h) hFc (fun r' u t H1 locs1 ht hvm hw hB hz1 hk1 hS1 => ?_)
  subst hw
  obtain ⟨hP1, hD1⟩ := hB
  rw [ht] at hP1
  obtain ⟨hP2, hD2⟩ := va_join hP hD isC isR hC hR hn hdis hk1 hFc hP1 hD1
  exact kk H1 locs1 hP2 hD2 hS1
theorem q_aLk {D : va_G} {p : Program} {l : Launch} {e : Env} {R : Room} {s : State} {m : MethodId} {args : Array Value} {below : List Frame} {meth : Method} {c : Code} {H : Heap} {locs : List Loc} {Q : State → Prop} {A : Nat → Prop} {ws W0 W1 Wr : va_W} {r : Int64} {pc : Nat} {ls : Array Slot} {st0 rest : List Value} {a : Array Value} {cells slots : Nat}
    (hr : va_Run p l e R s m args below meth c H locs cells slots 0 0 (F0 m pc ls st0) rest (va_Ql (fun (x : Int64) (_ : Unit) => x = r) (q_B D W0 W1 H.size) (va_A W0 H.size) a) (va_A W0 H.size))
    (hP : va_P D vwCl ws H) (hD : va_D A ws) (hS : va_S A s.heap H locs) (hA : ∀ q, s.heap.size ≤ q → A q) (isC isR : List Nat) (hC : isC.map (fun i => ws[i]?) = W0.map some) (hR : isR.map (fun i => ws[i]?) = Wr.map some) (hn : va_nd isR = true) (hdis : ∀ i ∈ isR, i ∉ isC)
    (kk : ∀ (H1 : Heap) (locs1 : List Loc), va_P D vwCl (Wr ++ W1) H1 → va_D A (Wr ++ W1) → va_S A s.heap H1 locs1 → W p l e R s m args below meth c H1 locs1 cells slots Q (F0 m (pc + 3) ls (.long r :: rest))) : W p l e R s m args below meth c H locs cells slots Q (F0 m pc ls st0) := by
  have hFc := va_free (wc := W0) hD hS hA isC hC
  refine va_calll hr hS (fun q _ h => hFc q h) hFc (fun r' u t H1 locs1 ht hvm hw hB hz1 hk1 hS1 => ?_)
  subst hw
  obtain ⟨hP1, hD1⟩ := hB
  rw [ht] at hP1
  obtain ⟨hP2, hD2⟩ := va_join hP hD isC isR hC hR hn hdis hk1 hFc hP1 hD1
  exact kk H1 locs1 hP2 hD2 hS1
theorem goodIn_up {ws : List Cond} (h : GoodIn wsL_law ws) : GoodIn lw_tbl ws := fun w hw => ⟨wsL_law_in w (h w hw).1, (h w hw).2⟩
theorem q_lcmp (x : Int64) : lg_cmp x x = 0 := by
  unfold lg_cmp
  simp
/-! a call in a large world: cell by cell, what is the callee's is the callee's, the rest stays where it is -/
def q_mix : Nat → List Nat → va_W → va_W → va_W → Prop
  | _, _, _, [], [] => True
  | k, isC, W1, w :: ws, w' :: ws' => (w'.1 = w.1 ∧ ((isC.contains k = false ∧ w' = w) ∨ w' ∈ W1)) ∧ q_mix (k + 1) isC W1 ws ws'
  | _, _, _, _, _ => False
theorem q_mix_s {k : Nat} {isC : List Nat} {W1 ws ws' : va_W} {w w' : Nat × va_E} (h1 : isC.contains k = false) (h2 : w' = w) (h : q_mix (k + 1) isC W1 ws ws') : q_mix k isC W1 (w :: ws) (w' :: ws') := ⟨⟨by rw [h2], Or.inl ⟨h1, h2⟩⟩, h⟩
theorem q_mix_c {k : Nat} {isC : List Nat} {W1 ws ws' : va_W} {w w' : Nat × va_E} (h1 : w'.1 = w.1) (j : Nat) (h2 : W1[j]? = some w') (h : q_mix (k + 1) isC W1 ws ws') : q_mix k isC W1 (w :: ws) (w' :: ws') := ⟨⟨h1, Or.inr (List.mem_of_getElem? h2)⟩, h⟩
theorem q_mix_0 {k : Nat} {isC : List Nat} {W1 : va_W} : q_mix k isC W1 [] [] := trivial
theorem q_mix_get {isC : List Nat} {W1 : va_W} : ∀ (ws ws' : va_W) (k0 : Nat), q_mix k0 isC W1 ws ws' → ∀ (k : Nat) (q' : Nat × va_E), ws'[k]? = some q' → ∃ q, ws[k]? = some q ∧ q'.1 = q.1 ∧ ((isC.contains (k0 + k) = false ∧ q' = q) ∨ q' ∈ W1) := by
  intro ws
  induction ws with
  | nil =>
    intro ws' k0 h k q' hq
    cases ws' with
    | nil => simp at hq
    | cons w' ws' => exact h.elim
  | cons w ws ih =>
    intro ws' k0 h k q' hq
    cases ws' with
    | nil => exact h.elim
    | cons w' ws' =>
      obtain ⟨⟨h1, h2⟩, h3⟩ := h
      cases k with
      | zero =>
        have e : w' = q' := by simpa using hq
        subst e
        exact ⟨w, rfl, h1, h2⟩
      | succ k =>
        have e : ws'[k]? = some q' := by simpa using hq
        obtain ⟨q, g1, g2, g3⟩ := ih ws' (k0 + 1) h3 k q' e
        refine ⟨q, by simpa using g1, g2, ?_⟩
        rw [show k0 + (k + 1) = k0 + 1 + k by omega]
        exact g3
theorem q_mixP {A : Nat → Prop} {D : va_G} {cl : List vw_C} {ws ws' W0 W1 : va_W} {H H1 : Heap} (hP : va_P D cl ws H) (hD : va_D A ws) (isC : List Nat) (hC : isC.map (fun i => ws[i]?) = W0.map some) (hk : ∀ q : Nat, q < H.size → ¬ va_A W0 H.size q → H1[q]? = H[q]?) (hP1 : va_P D cl W1 H1) (hm : q_mix 0 isC W1 ws ws') : va_P D cl ws' H1 ∧ va_D A ws' := by
  have at' : ∀ (k : Nat) (q : Nat × va_E), W0[k]? = some q → ∃ i, isC[k]? = some i ∧ ws[i]? = some q := by
    intro k q hq
    have h1 : (isC.map (fun i => ws[i]?))[k]? = some (some q) := by rw [hC, List.getElem?_map, hq]; rfl
    rw [List.getElem?_map] at h1
    cases hi : isC[k]? with
    | none => rw [hi] at h1; cases h1
    | some i => rw [hi] at h1; exact ⟨i, rfl, Option.some.inj h1⟩
  have hg := q_mix_get ws ws' 0 hm
  constructor
  · intro k q' hq'
    obtain ⟨q, g1, g2, g3⟩ := hg k q' hq'
    rcases g3 with ⟨g3, rfl⟩ | g3
    · have hl := (hP k q' g1).lt
      refine (hP k q' g1).kept (hk q'.1 hl (fun h => ?_))
      rcases h with ⟨k2, e, h⟩ | h
      · obtain ⟨i, h3, h4⟩ := at' k2 (q'.1, e) h
        have hij := hD.1 k i q' (q'.1, e) g1 h4 rfl
        subst hij
        have hmem : k ∈ isC := List.mem_of_getElem? h3
        rw [Nat.zero_add] at g3
        have := List.contains_iff_mem.mpr hmem
        rw [g3] at this
        cases this
      · omega
    · obtain ⟨j, hj⟩ := List.mem_iff_getElem?.mp g3
      exact hP1 j q' hj
  · constructor
    · intro i j p q hp hq e
      obtain ⟨p0, a1, a2, -⟩ := hg i p hp
      obtain ⟨q0, b1, b2, -⟩ := hg j q hq
      exact hD.1 i j p0 q0 a1 b1 (by rw [← a2, ← b2]; exact e)
    · intro k q hq
      obtain ⟨q0, b1, b2, -⟩ := hg k q hq
      rw [b2]
      exact hD.2 k q0 b1
theorem q_fmap {ws W0 : va_W} {isC : List Nat} (hC : isC.map (fun i => ws[i]?) = W0.map some) : isC.filterMap (fun i => ws[i]?) = W0 := by
  have h : (isC.map (fun i => ws[i]?)).filterMap id = (W0.map some).filterMap id := by rw [hC]
  simpa [List.filterMap_map, Function.comp_def] using h
theorem q_lawI {D : va_G} {E : q_En} {p : Program} {l : Launch} {e : Env} {R : Room} {s : State} {m : MethodId} {args : Array Value} {below : List Frame} {meth : Method} {c : Code} {H : Heap} {locs : List Loc} {Q : State → Prop} {A : Nat → Prop} {ws W0 W1 : va_W} {tys : List (ClassId × FieldType)} {r : Int32} {pc : Nat} {ls : Array Slot} {st0 As rest : List Value} {cells slots : Nat} {cc bytes : ByteArray} {nL maxL n index : Nat} {Ts wsC : List Cond} {own C : String} {T : u_T} {NN ci : Nat} {fs : List Value} {b : Addr} {y : MethodName} {rmC : Room} {ret0 : Option FieldType}
    (S : CallFix p m c cc nL s args Ts own) (hM : CtI l D E y wsC rmC tys (.ref b :: As) W0 W1 r) (cw : CallW R s args own C index y bytes maxL ret0 wsC rmC 0 0 n) (hK : va_K D vwCl tys s) (hN : q_N s) (hE : q_E E A s s.heap) (hS : va_S A s.heap H locs) (hA : ∀ q, s.heap.size ≤ q → A q) (hP : va_P D vwCl ws H) (hD : va_D A ws) (isC : List Nat) (hC : isC.map (fun i => ws[i]?) = W0.map some) (hnC : va_nd isC = true) (q0 : Nat) (hrecv : ws[q0]? = some (b, .inr (ci, fs))) (hci : vwCl[ci]? = some (C, T, NN)) (hn : As.length = n) (hls : ls.size = nL) (hst : st0 = As.reverse ++ .ref b :: rest) (hcat : (rest.map fun v => v.category).sum ≤ 8) (hdg : decode cc pc = .ok (.invokevirtual index, 3)) (hf : cells ≤ R.cells ∧ slots ≤ R.slots) (ws' : va_W) (hm : q_mix 0 isC W1 ws ws')
    (kk : ∀ (H1 : Heap) (locs1 : List Loc), va_P D vwCl ws' H1 → va_D A ws' → va_S A s.heap H1 locs1 → W p l e R s m args below meth c H1 locs1 cells slots Q (F0 m (pc + 3) ls (.int r :: rest))) : W p l e R s m args below meth c H locs cells slots Q (F0 m pc ls st0) := by
  have hFc := va_free (wc := W0) hD hS hA isC hC
  refine va_calli (va_runV (g := F0 m pc ls st0) S (hM H.size) cw (q_pv hK hN hE hS hA hP hD isC (q_fmap hC) hnC hC q0 hrecv hci) rfl hn hls hst (lv_room hcat) hdg hf) hS (fun q _ h => hFc q h) hFc (fun r' u t H1 locs1 ht hvm hw hB hz1 hk1 hS1 => ?_)
  subst hw
  obtain ⟨hP1, hD1⟩ := hB
  rw [ht] at hP1
  obtain ⟨hP2, hD2⟩ := q_mixP hP hD isC hC hk1 hP1 hm
  exact kk H1 locs1 hP2 hD2 hS1
theorem q_lawL {D : va_G} {E : q_En} {p : Program} {l : Launch} {e : Env} {R : Room} {s : State} {m : MethodId} {args : Array Value} {below : List Frame} {meth : Method} {c : Code} {H : Heap} {locs : List Loc} {Q : State → Prop} {A : Nat → Prop} {ws W0 W1 : va_W} {tys : List (ClassId × FieldType)} {r : Int64} {pc : Nat} {ls : Array Slot} {st0 As rest : List Value} {cells slots : Nat} {cc bytes : ByteArray} {nL maxL n index : Nat} {Ts wsC : List Cond} {own C : String} {T : u_T} {NN ci : Nat} {fs : List Value} {b : Addr} {y : MethodName} {rmC : Room} {ret0 : Option FieldType}
    (S : CallFix p m c cc nL s args Ts own) (hM : CtL l D E y wsC rmC tys (.ref b :: As) W0 W1 r) (cw : CallW R s args own C index y bytes maxL ret0 wsC rmC 0 0 n) (hK : va_K D vwCl tys s) (hN : q_N s) (hE : q_E E A s s.heap) (hS : va_S A s.heap H locs) (hA : ∀ q, s.heap.size ≤ q → A q) (hP : va_P D vwCl ws H) (hD : va_D A ws) (isC : List Nat) (hC : isC.map (fun i => ws[i]?) = W0.map some) (hnC : va_nd isC = true) (q0 : Nat) (hrecv : ws[q0]? = some (b, .inr (ci, fs))) (hci : vwCl[ci]? = some (C, T, NN)) (hn : As.length = n) (hls : ls.size = nL) (hst : st0 = As.reverse ++ .ref b :: rest) (hcat : (rest.map fun v => v.category).sum ≤ 8) (hdg : decode cc pc = .ok (.invokevirtual index, 3)) (hf : cells ≤ R.cells ∧ slots ≤ R.slots) (ws' : va_W) (hm : q_mix 0 isC W1 ws ws')
    (kk : ∀ (H1 : Heap) (locs1 : List Loc), va_P D vwCl ws' H1 → va_D A ws' → va_S A s.heap H1 locs1 → W p l e R s m args below meth c H1 locs1 cells slots Q (F0 m (pc + 3) ls (.long r :: rest))) : W p l e R s m args below meth c H locs cells slots Q (F0 m pc ls st0) := by
  have hFc := va_free (wc := W0) hD hS hA isC hC
  refine va_calll (va_runV (g := F0 m pc ls st0) S (hM H.size) cw (q_pv hK hN hE hS hA hP hD isC (q_fmap hC) hnC hC q0 hrecv hci) rfl hn hls hst (lv_room hcat) hdg hf) hS (fun q _ h => hFc q h) hFc (fun r' u t H1 locs1 ht hvm hw hB hz1 hk1 hS1 => ?_)
  subst hw
  obtain ⟨hP1, hD1⟩ := hB
  rw [ht] at hP1
  obtain ⟨hP2, hD2⟩ := q_mixP hP hD isC hC hk1 hP1 hm
  exact kk H1 locs1 hP2 hD2 hS1
