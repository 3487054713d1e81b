-- ===== end of PART A; then your names; then what follows =====
/-! THE CLAIM OUT OF ONE WALK OF THE LAW'S BODY. Your part is whole_start (and what it stands on); all else here is the same for every law, but numbers. -/
def R_law : String := "ThermalCoreSchedulerLaw"
def lw_P (b : Addr) (xs : List Int32) (args : Array Value) (s : State) : Prop := args = #[.ref b] ∧ s.IntsAt b xs ∧ xs.length ≤ 3584 ∧ (Jvm.Cond.and given_1 narrow_1).before args s = true
/-- what a walk over the start with the record d0 says of its end, said of the start itself -/
theorem lw_closed {s t : State} {o : Outcome} {d0 : Drawn} {L : List Loc} {k n : Nat} (hd0 : s.drawn.sameBut d0 lw_cs) (hv : ∃ v, o = .returned v) (hW : (s.setDrawn d0).WarmedH t.vm) (hs : (s.setDrawn d0).sameButNew ({ t with vm := s.vm } : State) L k n) : State.butDraws s t lw_cs (fun t1 => Framed s o t1 L k n) := by
  have h2 : t.drawn = d0 := congrArg State.drawn hs.1
  refine ⟨⟨hv, hW, State.sameButNew.setDrawn hs s.drawn⟩, ?_, by decide⟩
  rw [h2]
  exact hd0
def lw_Q (_ : Array Value) (s : State) (o : Outcome) (t : State) : Prop := o = .returned (some (.int 1)) ∧ State.butDraws s t lw_cs (fun t1 => Framed s o t1 [] 603072 7059562)
def lw_Z (below : List Frame) (a : Array Value) (s : State) : State → Prop := fun t => ∃ o, t.status = .running ∧ Ended t below o ∧ lw_Q a s o t
/-- the law's own end, with 1 on the stack, nothing written that was there before, its room as the claim has it; d0: the record of draws at this point (at the entry s.drawn: begin with 'refine W.base ?_' and 'have hd0 := Drawn.sameBut.refl s.drawn lw_cs') -/
theorem lw_ret {p : Program} {l : Launch} {e : Env} {s : State} {m : MethodId} {below : List Frame} {meth : Method} {c : Code} {b : Nat} {d0 : Drawn} (hd0 : s.drawn.sameBut d0 lw_cs) (hx : p.tables.exec = Jvm.exec) (hb : c.code = code) (hr : meth.sig.returnType = ret) (hlocks : meth.locks = false) {pc : Nat} {H : Heap} {ls : Array Slot} (hdg : decode code pc = .ok (.ireturn, 1)) : W p l e room_1 (s.setDrawn d0) m #[Value.ref b] below meth c H [] 603072 7059562 (lw_Z below #[Value.ref b] s) (F0 m pc ls [.int 1]) := by
  intro T hT X
  obtain ⟨fs, hret, hrun, hended, hW, hframe⟩ := X.leave (v := some (.int 1)) (hlocks := hlocks) (fun h => by rw [hr] at h; cases h)
  have hmeth' : T.vm.method? m = some meth := X.method'
  refine ⟨T.setFrames fs, ?_, .returned (some (.int 1)), hrun, hended, rfl, lw_closed hd0 ⟨_, rfl⟩ hW hframe⟩
  jvm_step X.here [X.here.top, hx, hb, hdg, hmeth', hr, ret, narrow_b1]
  (try refine ⟨rfl, ?_⟩); (try refine ⟨rfl, ?_⟩)
  first | (intro acts; rw [hret _ acts rfl rfl rfl]) | rw [hret _ _ rfl rfl rfl]
  exact Steps.refl _
/-- what holds at the law's entry: the machine, the code, the tables' words (any of lw_tbl by 'hts w (by decide +kernel)'), the script of L ints xs at the cell b, what the Statement gives of the start (any of its parts by flat_of_before) -/
def lw_At (p : Program) (s : State) (m : MethodId) (meth : Method) (c : Code) (b L : Nat) (xs : Nat → Int32) : Prop :=
  p.tables.exec = Jvm.exec ∧ c.code = code ∧ meth.sig.returnType = ret ∧ c.maxLocals = 9 ∧ s.vm.findClass R_law = some m.cls ∧ (∀ w ∈ lw_tbl, w.before #[Value.ref b] s = true) ∧ va_X b L xs s s.heap ∧ b < s.heap.size ∧ meth.locks = false ∧ (Jvm.Cond.and given_1 narrow_1).before #[Value.ref b] s = true
theorem lw_retR {p : Program} {l : Launch} {e : Env} {s : State} {m : MethodId} {below : List Frame} {meth : Method} {c : Code} {b : Nat} {d0 : Drawn} {R : Room} (hd0 : s.drawn.sameBut d0 lw_cs) (hx : p.tables.exec = Jvm.exec) (hb : c.code = code) (hr : meth.sig.returnType = ret) (hlocks : meth.locks = false) {pc : Nat} {H : Heap} {ls : Array Slot} (hdg : decode code pc = .ok (.ireturn, 1)) : W p l e R (s.setDrawn d0) m #[Value.ref b] below meth c H [] 603072 7059562 (lw_Z below #[Value.ref b] s) (F0 m pc ls [.int 1]) := by
  intro T hT X
  obtain ⟨fs, hret, hrun, hended, hW, hframe⟩ := X.leave (v := some (.int 1)) (hlocks := hlocks) (fun h => by rw [hr] at h; cases h)
  have hmeth' : T.vm.method? m = some meth := X.method'
  refine ⟨T.setFrames fs, ?_, .returned (some (.int 1)), hrun, hended, rfl, lw_closed hd0 ⟨_, rfl⟩ hW hframe⟩
  jvm_step X.here [X.here.top, hx, hb, hdg, hmeth', hr, ret, narrow_b1]
  (try refine ⟨rfl, ?_⟩); (try refine ⟨rfl, ?_⟩)
  first | (intro acts; rw [hret _ acts rfl rfl rfl]) | rw [hret _ _ rfl rfl rfl]
  exact Steps.refl _

def lawsw (xs : Nat → Int32) (Ls : Nat) (x5 v : Int32) (w : MW) : Option MW :=
  if v = 0 then lawc_0 xs Ls x5 w else if v = 1 then lawc_1 xs Ls x5 w else if v = 2 then lawc_2 xs Ls x5 w else if v = 3 then lawc_3 xs Ls x5 w else if v = 4 then lawc_4 xs Ls x5 w else if v = 5 then lawc_5 xs Ls x5 w else if v = 6 then lawc_6 xs Ls x5 w else if v = 7 then lawc_7 xs Ls x5 w else if v = 8 then lawc_8 xs Ls x5 w else if v = 9 then lawc_9 xs Ls x5 w else if v = 10 then lawc_10 xs Ls x5 w else if v = 11 then lawc_11 xs Ls x5 w else if v = 12 then lawc_12 xs Ls x5 w else if v = 13 then lawc_13 xs Ls x5 w else if v = 14 then lawc_14 xs Ls x5 w else if v = 15 then lawc_15 xs Ls x5 w else if v = 16 then lawc_16 xs Ls x5 w else if v = 17 then lawc_17 xs Ls x5 w else if v = 18 then lawc_18 xs Ls x5 w else if v = 19 then lawc_19 xs Ls x5 w else if v = 20 then lawc_20 xs Ls x5 w else if v = 21 then lawc_21 xs Ls x5 w else if v = 22 then lawc_22 xs Ls x5 w else if v = 23 then lawc_23 xs Ls x5 w else if v = 24 then lawc_24 xs Ls x5 w else if v = 25 then lawc_25 xs Ls x5 w else if v = 26 then lawc_26 xs Ls x5 w else if v = 27 then lawc_27 xs Ls x5 w else if v = 28 then lawc_28 xs Ls x5 w else if v = 29 then lawc_29 xs Ls x5 w else if v = 30 then lawc_30 xs Ls x5 w else if v = 31 then lawc_31 xs Ls x5 w else if v = 32 then lawc_32 xs Ls x5 w else if v = 33 then lawc_33 xs Ls x5 w else if v = 34 then lawc_34 xs Ls x5 w else if v = 35 then lawc_35 xs Ls x5 w else if v = 36 then lawc_36 xs Ls x5 w else if v = 37 then lawc_37 xs Ls x5 w else if v = 38 then lawc_38 xs Ls x5 w else if v = 39 then lawc_39 xs Ls x5 w else some w
def lawgo (xs : Nat → Int32) (Ls : Nat) : Nat → Nat → MW → Option Unit
  | 0, _, _ => none
  | N + 1, i, w => if Int32.ofNat Ls - 7 < nI (7 * i) then some () else hz_gd (hz_ix (nI (7 * i)) Ls) (Option.bind (lawsw xs Ls (nI (7 * i)) (xs (nI (7 * i)).toNatClampNeg &&& 63) w) (fun w1 => lawgo xs Ls N (i + 1) w1))
set_option maxHeartbeats 4000000 in
set_option maxRecDepth 100000 in
theorem lsw_ok {p : Program} {l : Launch} (hl : l.stackTraces = false) {e : Env} {s : State} {m : MethodId} {args : Array Value} {below : List Frame} {meth : Method} {c : Code} {ret : Option FieldType} {B : Bt} {tb : List ExceptionTableEntry} {ini : Bool} {ρ : Type} {Fi : ρ → State → Prop} {Ko : MW → Option ρ} {b Ls k sl : Nat} {xs : Nat → Int32} (hX : va_X b Ls xs s s.heap) (hbl : b < s.heap.size) (hbA : ¬ hz_A B b) (hk : k + 8 ≤ 603072 ∧ sl + 48 ≤ 7059562) {x5 v : Int32} {w : MW} (hj : ∀ w', hz_J p l e (hz_rm 21 603072 7059562) s m args below meth c cL_law 9 RL ret B tb ini false Fi Ko 2647 [(0, .ref b), (1, .ref (B.1 + 0)), (2, .ref (B.1 + 336)), (3, .ref (B.1 + 356)), (4, .ref (B.1 + 357)), (5, .int x5)] [] (k + 8) (sl + 48) 358 w' (some w')) : hz_J p l e (hz_rm 21 603072 7059562) s m args below meth c cL_law 9 RL ret B tb ini false Fi Ko 45 [(0, .ref b), (1, .ref (B.1 + 0)), (2, .ref (B.1 + 336)), (3, .ref (B.1 + 356)), (4, .ref (B.1 + 357)), (5, .int x5)] [.int v] k sl 358 w (lawsw xs Ls x5 v w) := by
  unfold lawsw
  refine hz_swIn (v := 0) (off := 175) (tgt := 220) dL_law_45 (by decide) (by decide) (by decide +kernel) (by decide) (lct_0 hl hX hbl hbA hk hj) (fun hs0 => ?_)
  refine hz_swIn (v := 1) (off := 279) (tgt := 324) dL_law_45 (by decide) (by decide) (by decide +kernel) (by decide) (lct_1 hl hX hbl hbA hk hj) (fun hs1 => ?_)
  refine hz_swIn (v := 2) (off := 335) (tgt := 380) dL_law_45 (by decide) (by decide) (by decide +kernel) (by decide) (lct_2 hl hX hbl hbA hk hj) (fun hs2 => ?_)
  refine hz_swIn (v := 3) (off := 348) (tgt := 393) dL_law_45 (by decide) (by decide) (by decide +kernel) (by decide) (lct_3 hl hX hbl hbA hk hj) (fun hs3 => ?_)
  refine hz_swIn (v := 4) (off := 361) (tgt := 406) dL_law_45 (by decide) (by decide) (by decide +kernel) (by decide) (lct_4 hl hX hbl hbA hk hj) (fun hs4 => ?_)
  refine hz_swIn (v := 5) (off := 479) (tgt := 524) dL_law_45 (by decide) (by decide) (by decide +kernel) (by decide) (lct_5 hl hX hbl hbA hk hj) (fun hs5 => ?_)
  refine hz_swIn (v := 6) (off := 535) (tgt := 580) dL_law_45 (by decide) (by decide) (by decide +kernel) (by decide) (lct_6 hl hX hbl hbA hk hj) (fun hs6 => ?_)
  refine hz_swIn (v := 7) (off := 603) (tgt := 648) dL_law_45 (by decide) (by decide) (by decide +kernel) (by decide) (lct_7 hl hX hbl hbA hk hj) (fun hs7 => ?_)
  refine hz_swIn (v := 8) (off := 671) (tgt := 716) dL_law_45 (by decide) (by decide) (by decide +kernel) (by decide) (lct_8 hl hX hbl hbA hk hj) (fun hs8 => ?_)
  refine hz_swIn (v := 9) (off := 727) (tgt := 772) dL_law_45 (by decide) (by decide) (by decide +kernel) (by decide) (lct_9 hl hX hbl hbA hk hj) (fun hs9 => ?_)
  refine hz_swIn (v := 10) (off := 783) (tgt := 828) dL_law_45 (by decide) (by decide) (by decide +kernel) (by decide) (lct_10 hl hX hbl hbA hk hj) (fun hs10 => ?_)
  refine hz_swIn (v := 11) (off := 827) (tgt := 872) dL_law_45 (by decide) (by decide) (by decide +kernel) (by decide) (lct_11 hl hX hbl hbA hk hj) (fun hs11 => ?_)
  refine hz_swIn (v := 12) (off := 883) (tgt := 928) dL_law_45 (by decide) (by decide) (by decide +kernel) (by decide) (lct_12 hl hX hbl hbA hk hj) (fun hs12 => ?_)
  refine hz_swIn (v := 13) (off := 939) (tgt := 984) dL_law_45 (by decide) (by decide) (by decide +kernel) (by decide) (lct_13 hl hX hbl hbA hk hj) (fun hs13 => ?_)
  refine hz_swIn (v := 14) (off := 995) (tgt := 1040) dL_law_45 (by decide) (by decide) (by decide +kernel) (by decide) (lct_14 hl hX hbl hbA hk hj) (fun hs14 => ?_)
  refine hz_swIn (v := 15) (off := 1063) (tgt := 1108) dL_law_45 (by decide) (by decide) (by decide +kernel) (by decide) (lct_15 hl hX hbl hbA hk hj) (fun hs15 => ?_)
  refine hz_swIn (v := 16) (off := 1131) (tgt := 1176) dL_law_45 (by decide) (by decide) (by decide +kernel) (by decide) (lct_16 hl hX hbl hbA hk hj) (fun hs16 => ?_)
  refine hz_swIn (v := 17) (off := 1187) (tgt := 1232) dL_law_45 (by decide) (by decide) (by decide +kernel) (by decide) (lct_17 hl hX hbl hbA hk hj) (fun hs17 => ?_)
  refine hz_swIn (v := 18) (off := 1265) (tgt := 1310) dL_law_45 (by decide) (by decide) (by decide +kernel) (by decide) (lct_18 hl hX hbl hbA hk hj) (fun hs18 => ?_)
  refine hz_swIn (v := 19) (off := 1309) (tgt := 1354) dL_law_45 (by decide) (by decide) (by decide +kernel) (by decide) (lct_19 hl hX hbl hbA hk hj) (fun hs19 => ?_)
  refine hz_swIn (v := 20) (off := 1377) (tgt := 1422) dL_law_45 (by decide) (by decide) (by decide +kernel) (by decide) (lct_20 hl hX hbl hbA hk hj) (fun hs20 => ?_)
  refine hz_swIn (v := 21) (off := 1433) (tgt := 1478) dL_law_45 (by decide) (by decide) (by decide +kernel) (by decide) (lct_21 hl hX hbl hbA hk hj) (fun hs21 => ?_)
  refine hz_swIn (v := 22) (off := 1477) (tgt := 1522) dL_law_45 (by decide) (by decide) (by decide +kernel) (by decide) (lct_22 hl hX hbl hbA hk hj) (fun hs22 => ?_)
  refine hz_swIn (v := 23) (off := 1545) (tgt := 1590) dL_law_45 (by decide) (by decide) (by decide +kernel) (by decide) (lct_23 hl hX hbl hbA hk hj) (fun hs23 => ?_)
  refine hz_swIn (v := 24) (off := 1601) (tgt := 1646) dL_law_45 (by decide) (by decide) (by decide +kernel) (by decide) (lct_24 hl hX hbl hbA hk hj) (fun hs24 => ?_)
  refine hz_swIn (v := 25) (off := 1678) (tgt := 1723) dL_law_45 (by decide) (by decide) (by decide +kernel) (by decide) (lct_25 hl hX hbl hbA hk hj) (fun hs25 => ?_)
  refine hz_swIn (v := 26) (off := 1734) (tgt := 1779) dL_law_45 (by decide) (by decide) (by decide +kernel) (by decide) (lct_26 hl hX hbl hbA hk hj) (fun hs26 => ?_)
  refine hz_swIn (v := 27) (off := 1778) (tgt := 1823) dL_law_45 (by decide) (by decide) (by decide +kernel) (by decide) (lct_27 hl hX hbl hbA hk hj) (fun hs27 => ?_)
  refine hz_swIn (v := 28) (off := 1822) (tgt := 1867) dL_law_45 (by decide) (by decide) (by decide +kernel) (by decide) (lct_28 hl hX hbl hbA hk hj) (fun hs28 => ?_)
  refine hz_swIn (v := 29) (off := 1890) (tgt := 1935) dL_law_45 (by decide) (by decide) (by decide +kernel) (by decide) (lct_29 hl hX hbl hbA hk hj) (fun hs29 => ?_)
  refine hz_swIn (v := 30) (off := 1946) (tgt := 1991) dL_law_45 (by decide) (by decide) (by decide +kernel) (by decide) (lct_30 hl hX hbl hbA hk hj) (fun hs30 => ?_)
  refine hz_swIn (v := 31) (off := 2002) (tgt := 2047) dL_law_45 (by decide) (by decide) (by decide +kernel) (by decide) (lct_31 hl hX hbl hbA hk hj) (fun hs31 => ?_)
  refine hz_swIn (v := 32) (off := 2058) (tgt := 2103) dL_law_45 (by decide) (by decide) (by decide +kernel) (by decide) (lct_32 hl hX hbl hbA hk hj) (fun hs32 => ?_)
  refine hz_swIn (v := 33) (off := 2114) (tgt := 2159) dL_law_45 (by decide) (by decide) (by decide +kernel) (by decide) (lct_33 hl hX hbl hbA hk hj) (fun hs33 => ?_)
  refine hz_swIn (v := 34) (off := 2206) (tgt := 2251) dL_law_45 (by decide) (by decide) (by decide +kernel) (by decide) (lct_34 hl hX hbl hbA hk hj) (fun hs34 => ?_)
  refine hz_swIn (v := 35) (off := 2286) (tgt := 2331) dL_law_45 (by decide) (by decide) (by decide +kernel) (by decide) (lct_35 hl hX hbl hbA hk hj) (fun hs35 => ?_)
  refine hz_swIn (v := 36) (off := 2366) (tgt := 2411) dL_law_45 (by decide) (by decide) (by decide +kernel) (by decide) (lct_36 hl hX hbl hbA hk hj) (fun hs36 => ?_)
  refine hz_swIn (v := 37) (off := 2422) (tgt := 2467) dL_law_45 (by decide) (by decide) (by decide +kernel) (by decide) (lct_37 hl hX hbl hbA hk hj) (fun hs37 => ?_)
  refine hz_swIn (v := 38) (off := 2490) (tgt := 2535) dL_law_45 (by decide) (by decide) (by decide +kernel) (by decide) (lct_38 hl hX hbl hbA hk hj) (fun hs38 => ?_)
  refine hz_swIn (v := 39) (off := 2558) (tgt := 2603) dL_law_45 (by decide) (by decide) (by decide +kernel) (by decide) (lct_39 hl hX hbl hbA hk hj) (fun hs39 => ?_)
  refine hz_swOut (tgt := 2647) dL_law_45 (by have z0 := lv_neT (a := 0) hs0 (by decide); have z1 := lv_neT (a := 1) hs1 (by decide); have z2 := lv_neT (a := 2) hs2 (by decide); have z3 := lv_neT (a := 3) hs3 (by decide); have z4 := lv_neT (a := 4) hs4 (by decide); have z5 := lv_neT (a := 5) hs5 (by decide); have z6 := lv_neT (a := 6) hs6 (by decide); have z7 := lv_neT (a := 7) hs7 (by decide); have z8 := lv_neT (a := 8) hs8 (by decide); have z9 := lv_neT (a := 9) hs9 (by decide); have z10 := lv_neT (a := 10) hs10 (by decide); have z11 := lv_neT (a := 11) hs11 (by decide); have z12 := lv_neT (a := 12) hs12 (by decide); have z13 := lv_neT (a := 13) hs13 (by decide); have z14 := lv_neT (a := 14) hs14 (by decide); have z15 := lv_neT (a := 15) hs15 (by decide); have z16 := lv_neT (a := 16) hs16 (by decide); have z17 := lv_neT (a := 17) hs17 (by decide); have z18 := lv_neT (a := 18) hs18 (by decide); have z19 := lv_neT (a := 19) hs19 (by decide); have z20 := lv_neT (a := 20) hs20 (by decide); have z21 := lv_neT (a := 21) hs21 (by decide); have z22 := lv_neT (a := 22) hs22 (by decide); have z23 := lv_neT (a := 23) hs23 (by decide); have z24 := lv_neT (a := 24) hs24 (by decide); have z25 := lv_neT (a := 25) hs25 (by decide); have z26 := lv_neT (a := 26) hs26 (by decide); have z27 := lv_neT (a := 27) hs27 (by decide); have z28 := lv_neT (a := 28) hs28 (by decide); have z29 := lv_neT (a := 29) hs29 (by decide); have z30 := lv_neT (a := 30) hs30 (by decide); have z31 := lv_neT (a := 31) hs31 (by decide); have z32 := lv_neT (a := 32) hs32 (by decide); have z33 := lv_neT (a := 33) hs33 (by decide); have z34 := lv_neT (a := 34) hs34 (by decide); have z35 := lv_neT (a := 35) hs35 (by decide); have z36 := lv_neT (a := 36) hs36 (by decide); have z37 := lv_neT (a := 37) hs37 (by decide); have z38 := lv_neT (a := 38) hs38 (by decide); have z39 := lv_neT (a := 39) hs39 (by decide); omega) (by decide) ?_
  exact hz_wide (k' := k + 8) (sl' := sl + 48) (by omega) (by omega) rfl (hj w)
theorem hz_sld0 {p : Program} {l : Launch} {e : Env} {R : Room} {s : State} {m : MethodId} {args : Array Value} {below : List Frame} {meth : Method} {c : Code} {cc : ByteArray} {nL : Nat} {own : String} {ret : Option FieldType} {B : Bt} {tb : List ExceptionTableEntry} {ini ex : Bool} {σ ρ : Type} {Fi : ρ → State → Prop} {Ko : σ → Option ρ} {pc pc' : Nat} {L : List (Nat × Value)} {st : List Value} {k sl n : Nat} {w : MW} {comp : Option σ} {b Ls : Nat} {xs : Nat → Int32} {i : Int32} (hX : va_X b Ls xs s s.heap) (hbl : b < s.heap.size) (hbA : ¬ hz_A B b) (hi : hz_ix i Ls = true) (d : decode cc pc = .ok (.iaload, 1)) (hp : pc + 1 = pc') (K : hz_J p l e R s m args below meth c cc nL own ret B tb ini ex Fi Ko pc' L (.int (xs i.toNatClampNeg) :: st) k sl n w comp) : hz_J p l e R s m args below meth c cc nL own ret B tb ini ex Fi Ko pc L (.int i :: .ref b :: st) k sl n w comp := by
  intro X hx q hq r hr H locs ls hl hH hS
  subst hp
  exact va_sld X.1.1 X.1.2.1 hX hbl hbA hS (hz_ix_in hi) d (K X hx q hq r hr H locs ls hl hH hS)
theorem law_end {p : Program} {l : Launch} {e : Env} {s : State} {m : MethodId} {below : List Frame} {meth : Method} {c : Code} {B : Bt} {tb : List ExceptionTableEntry} {ini : Bool} {b k sl : Nat} {L : List (Nat × Value)} {w : MW} (hB : B.1 = s.heap.size) (hk : k ≤ 603072 ∧ sl ≤ 7059562) : hz_J p l e (hz_rm 21 603072 7059562) s m #[Value.ref b] below meth c cL_law 9 RL ret B tb ini false (fun _ : Unit => lw_Z below #[Value.ref b] s) some 2654 L [.int 1] k sl 358 w (some ()) := by
  intro X hx q hq r hr H locs ls hl hH hS
  refine va_forget (fun q hq => by have h := hS.2.2 q hq; rw [← hB]; exact h) ?_
  refine W.widen hk.1 hk.2 ?_
  exact lw_retR (d0 := s.drawn) (Drawn.sameBut.refl s.drawn lw_cs) X.1.1 X.1.2.1 X.2.2.2.2.2.1 X.2.2.1 dL_law_2654
set_option maxHeartbeats 4000000 in
set_option maxRecDepth 100000 in
theorem law_loop {p : Program} {l : Launch} (hl : l.stackTraces = false) {e : Env} {s : State} {m : MethodId} {below : List Frame} {meth : Method} {c : Code} {B : Bt} {tb : List ExceptionTableEntry} {ini : Bool} {b Ls k0 sl0 : Nat} {xs : Nat → Int32} (hB : B.1 = s.heap.size) (hX : va_X b Ls xs s s.heap) (hbl : b < s.heap.size) (hbA : ¬ hz_A B b) (hL : Ls ≤ 3584) (hk : k0 + 5000 ≤ 603072 ∧ sl0 + 30000 ≤ 7059562) : ∀ (N i : Nat) (w : MW), 7 * i ≤ 3591 → hz_J p l e (hz_rm 21 603072 7059562) s m #[Value.ref b] below meth c cL_law 9 RL ret B tb ini false (fun _ : Unit => lw_Z below #[Value.ref b] s) some 28 [(0, .ref b), (1, .ref (B.1 + 0)), (2, .ref (B.1 + 336)), (3, .ref (B.1 + 356)), (4, .ref (B.1 + 357)), (5, .int (nI (7 * i)))] [] (k0 + 8 * i) (sl0 + 48 * i) 358 w (lawgo xs Ls N i w) := by
  intro N
  induction N with
  | zero => intro i w hi; exact hz_no rfl
  | succ N ih =>
    intro i w hi
    rw [lawgo]
    refine hz_iload (pc' := 30) (j := 5) dL_law_28 rfl rfl ?_
    refine hz_aload_n (pc' := 31) (j := 0) dL_law_30 rfl rfl rfl ?_
    refine hz_slenS (pc' := 32) hX hbl hbA dL_law_31 rfl ?_
    refine hz_bipush (pc' := 34) (v := 7) dL_law_32 rfl (by decide) ?_
    refine hz_isub (pc' := 35) dL_law_34 rfl ?_
    refine hz_icmpgt (pc' := 38) (tgt := 2653) dL_law_35 (by decide) rfl ?_ ?_
    · refine hz_iconst (pc' := 2654) (v := 1) dL_law_2653 rfl (by decide) ?_
      exact law_end hB (by omega)
    · refine hz_gdr (fun hix => ?_)
      have h7 : 7 * i < Ls := by
        have h := hix
        simp only [hz_ix, Bool.and_eq_true, decide_eq_true_eq] at h
        rw [nI_clamp (by omega)] at h
        exact h.2
      refine hz_aload_n (pc' := 39) (j := 0) dL_law_38 rfl rfl rfl ?_
      refine hz_iload (pc' := 41) (j := 5) dL_law_39 rfl rfl ?_
      refine hz_sld0 (pc' := 42) hX hbl hbA hix dL_law_41 rfl ?_
      refine hz_bipush (pc' := 44) (v := 63) dL_law_42 rfl (by decide) ?_
      refine hz_iand (pc' := 45) dL_law_44 rfl ?_
      refine hz_bindJ (pcJ := 2647) (LJ := fun _ : MW => [(0, .ref b), (1, .ref (B.1 + 0)), (2, .ref (B.1 + 336)), (3, .ref (B.1 + 356)), (4, .ref (B.1 + 357)), (5, .int (nI (7 * i)))]) (stJ := fun _ => []) (kJ := k0 + 8 * i + 8) (slJ := sl0 + 48 * i + 48) (nJ := 358) (wJ := fun q : MW => q) (fun w1 => ?_) (fun hj => ?_)
      · have e7 : nI (7 * i) + Int32.ofInt 7 = nI (7 * (i + 1)) := by
          rw [show Int32.ofInt 7 = nI 7 from rfl, nI_add, show 7 * i + 7 = 7 * (i + 1) by omega]
        refine hz_iinc (pc' := 2650) (j := 5) (v := nI (7 * (i + 1))) (L' := [(5, .int (nI (7 * (i + 1)))), (0, .ref b), (1, .ref (B.1 + 0)), (2, .ref (B.1 + 336)), (3, .ref (B.1 + 356)), (4, .ref (B.1 + 357))]) dL_law_2647 rfl rfl e7 (by decide) rfl ?_
        refine hz_goto (tgt := 28) dL_law_2650 (by decide) ?_
        rw [show k0 + 8 * i + 8 = k0 + 8 * (i + 1) by omega, show sl0 + 48 * i + 48 = sl0 + 48 * (i + 1) by omega]
        exact hz_loc [1, 2, 3, 4, 5, 0] rfl (ih (i + 1) w1 (by omega))
      · exact lsw_ok hl hX hbl hbA (by omega) hj
def lawall (xs : Nat → Int32) (Ls : Nat) (w : MW) : Option Unit :=
  hz_gd (hz_sh 0 == 10) (hz_let (hz_fr w 0) (fun w1 => hz_bv (f_X9_init 0 (0 + 1) w1) (fun w3 => hz_gd (hz_sh (0 + 336) == 11) (hz_let (hz_fr w3 (0 + 336)) (fun w5 => hz_bv (f_X10_init (0 + 336) (0 + 337) w5) (fun w8 => hz_gd (hz_ga (0 + 356) 23 1) (hz_let (hz_po (hz_fr w8 (0 + 356)) 0) (fun w11 => hz_gd (hz_ga (0 + 357) 24 1) (hz_let (hz_pd (hz_fr w11 (0 + 357)) 0) (fun w15 => lawgo xs Ls 600 0 w15))))))))))
set_option maxHeartbeats 4000000 in
set_option maxRecDepth 100000 in
theorem law_all {p : Program} {l : Launch} (hl : l.stackTraces = false) {e : Env} {s : State} {m : MethodId} {below : List Frame} {meth : Method} {c : Code} {B : Bt} {tb : List ExceptionTableEntry} {b Ls : Nat} {xs : Nat → Int32} (hB : B.1 = s.heap.size) (hX : va_X b Ls xs s s.heap) (hbl : b < s.heap.size) (hbA : ¬ hz_A B b) (hL : Ls ≤ 3584) {w : MW} : hz_J p l e (hz_rm 21 603072 7059562) s m #[Value.ref b] below meth c cL_law 9 RL ret B tb false true (fun _ : Unit => lw_Z below #[Value.ref b] s) some 0 [(0, .ref b)] [] 0 0 0 w (lawall xs Ls w) := by
  unfold lawall
  refine hz_new (pc' := 3) (N := 10) cl_L_8 rfl rfl ⟨by omega, by omega⟩ dL_law_0 rfl (fun w1 g2 => ?_)
  refine hz_dup (pc' := 4) dL_law_3 rfl rfl ?_
  refine hz_cI (pc' := 7) (n' := 0 + 336) (av := []) (rest := [.ref (B.1 + 0)]) il_L_140 (fun w' h => ct_X9_init hl h) rfl rfl (Nat.le_of_ble_eq_true rfl) (by decide) ⟨by omega, by omega⟩ rfl (by omega) dL_law_4 rfl (fun w3 => ?_)
  have g4 := hz_g_up (n' := 0 + 336) g2 (by omega)
  refine hz_astore_n (pc' := 8) (L' := [(1, .ref (B.1 + 0)), (0, .ref b)]) dL_law_7 rfl rfl (by decide) rfl ?_
  refine hz_new (pc' := 11) (N := 38) cl_L_141 rfl rfl ⟨by omega, by omega⟩ dL_law_8 rfl (fun w5 g6 => ?_)
  have g7 := hz_g_up (n' := 0 + 337) g4 (by omega)
  refine hz_dup (pc' := 12) dL_law_11 rfl rfl ?_
  refine hz_cI (pc' := 15) (n' := 0 + 356) (av := []) (rest := [.ref (B.1 + (0 + 336))]) il_L_143 (fun w' h => ct_X10_init hl h) rfl rfl (Nat.le_of_ble_eq_true rfl) (by decide) ⟨by omega, by omega⟩ rfl (by omega) dL_law_12 rfl (fun w8 => ?_)
  have g9 := hz_g_up (n' := 0 + 356) g7 (by omega)
  have g10 := hz_g_up (n' := 0 + 356) g6 (by omega)
  refine hz_astore_n (pc' := 16) (L' := [(2, .ref (B.1 + (0 + 336))), (1, .ref (B.1 + 0)), (0, .ref b)]) dL_law_15 rfl rfl (by decide) rfl ?_
  refine hz_iconst (pc' := 17) (v := 1) dL_law_16 rfl (by decide) ?_
  refine hz_newal (pc' := 19) (N := 1) hq_1729 rfl (by decide) (by decide) (by decide) ⟨by omega, by omega⟩ dL_law_17 rfl (fun w11 g12 => ?_)
  have g13 := hz_g_up (n' := 0 + 357) g10 (by omega)
  have g14 := hz_g_up (n' := 0 + 357) g9 (by omega)
  refine hz_astore_n (pc' := 20) (L' := [(3, .ref (B.1 + (0 + 356))), (2, .ref (B.1 + (0 + 336))), (1, .ref (B.1 + 0)), (0, .ref b)]) dL_law_19 rfl rfl (by decide) rfl ?_
  refine hz_iconst (pc' := 21) (v := 1) dL_law_20 rfl (by decide) ?_
  refine hz_newad (pc' := 23) (N := 1) hq_1730 rfl (by decide) (by decide) (by decide) ⟨by omega, by omega⟩ dL_law_21 rfl (fun w15 g16 => ?_)
  have g17 := hz_g_up (n' := 0 + 358) g12 (by omega)
  have g18 := hz_g_up (n' := 0 + 358) g13 (by omega)
  have g19 := hz_g_up (n' := 0 + 358) g14 (by omega)
  refine hz_astore (pc' := 25) (L' := [(4, .ref (B.1 + (0 + 357))), (3, .ref (B.1 + (0 + 356))), (2, .ref (B.1 + (0 + 336))), (1, .ref (B.1 + 0)), (0, .ref b)]) dL_law_23 rfl (by decide) rfl ?_
  refine hz_iconst (pc' := 26) (v := 0) dL_law_25 rfl (by decide) ?_
  refine hz_istore (pc' := 28) (L' := [(5, .int 0), (4, .ref (B.1 + (0 + 357))), (3, .ref (B.1 + (0 + 356))), (2, .ref (B.1 + (0 + 336))), (1, .ref (B.1 + 0)), (0, .ref b)]) dL_law_26 rfl (by decide) rfl ?_
  exact hz_exdrop (hz_loc [5, 4, 3, 2, 1, 0] rfl (law_loop (k0 := 358) (sl0 := 10067) hl hB hX hbl hbA hL (by decide) 600 0 w15 (by decide)))
theorem hz_room {p : Program} {l : Launch} {e : Env} {R R' : Room} {s : State} {m : MethodId} {args : Array Value} {below : List Frame} {meth : Method} {c : Code} {H : Heap} {locs : List Loc} {k n : Nat} {Q : State → Prop} {g : JFrame} (hr : R'.frames ≤ R.frames ∧ R'.cells ≤ R.cells ∧ R'.slots ≤ R.slots ∧ R'.locals ≤ R.locals) (h : W p l e R' s m args below meth c H locs k n Q g) : W p l e R s m args below meth c H locs k n Q g := by
  intro T hT X
  refine h T hT { X with room := ?_ }
  have h0 := X.room
  obtain ⟨r1, r2, r3, r4⟩ := hr
  simp only [State.hasRoom, Bool.and_eq_true, decide_eq_true_eq] at h0 ⊢
  obtain ⟨⟨⟨⟨q1, q2, q3, q4, q5, q6⟩, q7⟩, q8⟩, q9⟩ := h0
  exact ⟨⟨⟨⟨by omega, by omega, by omega, by omega, by omega, q6⟩, by omega⟩, by omega⟩, q9⟩
set_option maxHeartbeats 4000000 in
/-- the law, from its entry, if lawall comes to an end -/
theorem whole_start_open {p : Program} {e : Env} {s : State} {m : MethodId} {below : List Frame} {meth : Method} {c : Code} (l : Launch) (hflags : l.flags = flags0) {b L : Nat} {xs : Nat → Int32} (hL : L ≤ 3584) (C0 : lw_At p s m meth c b L xs) (hall : ∃ w, lawall xs L w = some ()) : W p l e room_1 s m #[Value.ref b] below meth c s.heap [] 0 0 (lw_Z below #[Value.ref b] s) (entryFrame m ([Value.ref b] : List Value).toArray 9) := by
  obtain ⟨hx, hb, hr, hml, hown, hts, hX, hbl, hlocks, hgv⟩ := id C0
  obtain ⟨B, hB, hE⟩ := hz_entry hts hgv
  have hl : l.stackTraces = false := by
    unfold Launch.stackTraces
    rw [hflags]
    decide +kernel
  have hbA : ¬ hz_A B b := by
    intro h
    have h2 : B.1 ≤ b := h
    omega
  have hl0 := lv_entry ([.ref b]) (n := 9) (Nat.le_of_ble_eq_true rfl)
  rw [lg_entry_eq]
  generalize (lg_sl ([.ref b]) ++ List.replicate (9 - (lg_sl ([.ref b])).length) Slot.unset).toArray = ls at hl0 ⊢
  have hl0 : lv_has ls 9 [(0, .ref b)] := hl0
  refine hz_room (R' := hz_rm 21 603072 7059562) (by decide) ?_
  obtain ⟨w, hw⟩ := hall
  exact law_all (tb := c.exceptionTable.toList) hl hB hX hbl hbA hL (w := w) ⟨⟨hx, hb, hml, hown, fun w hw => hts w (List.mem_filter.mp hw).1⟩, hE, hlocks, hl, rfl, hr, fun z => nomatch z⟩ (fun _ => by omega) () hw () rfl s.heap [] ls hl0 ⟨by omega, fun k q h => by simp [hz_wl] at h⟩ va_S.rf
