/-! ===== a method's start and end; throws; things made ===== -/
/-- what a method that returns owes -/
def hz_Fi {ρ : Type} (rv : ρ → Option Value) (wo : ρ → MW) (below : List Frame) (args : Array Value) (s : State) (B : Bt) (ex : Bool) (n' mc ms : Nat) : ρ → State → Prop := fun r => MQ below (fun _ st oc t => oc = .returned (rv r) ∧ hz_Hd B n' (wo r) t.heap ∧ (ex = true → t.heap.size = B.1 + n') ∧ va_F (hz_A B) st t) args s mc ms (hz_A B)
/-- what a method that returns or throws owes -/
def hz_FiX {τ : Type} (rv : τ → Option Value) (below : List Frame) (args : Array Value) (s : State) (B : Bt) (n mc ms : Nat) : (String ⊕ τ) × MW → State → Prop := fun r => vx_MQ below (fun _ st oc t => (∃ v, Sum.map id rv r.1 = .inr v ∧ oc = .returned v) ∧ hz_Hd B n r.2 t.heap ∧ va_F (hz_A B) st t) (fun E st t => Sum.map id rv r.1 = .inl E ∧ hz_Hd B n r.2 t.heap ∧ va_F (hz_A B) st t) args s mc ms (hz_A B)
theorem hz_notab {p : Program} {l : Launch} {y : MethodName} {ws : List Cond} {rm : Room} {cc : ByteArray} {mL : Nat} {ret : Option FieldType} {e : Env} {s s₁ : State} {m : MethodId} {args : Array Value} {below : List Frame} {meth : Method} {c : Code} (B : BodyLoose p l y (headSpec (Cond.code y cc mL ret :: ws) rm) cc mL ret e s m args below meth c s₁) : c.exceptionTable.toList = [] := by
  obtain ⟨meth9, c9, h1, h2, -, -, -, -, h7, -⟩ := Cond.code_spec B.named (atoms_spec (ws := Cond.code y cc mL ret :: ws) B.pre _ List.mem_cons_self)
  cases Option.some.inj (h1.symm.trans B.method)
  cases Option.some.inj (h2.symm.trans (Stand.of_body B).code)
  rw [Array.isEmpty_iff.mp h7]
theorem hz_ofJ {l : Launch} {B : Bt} {ex : Bool} {n n' : Nat} {y : MethodName} {cb : ByteArray} {mL : Nat} {ret : Option FieldType} {d mc ms : Nat} {av : List Value} {w : MW} {ρ : Type} {rv : ρ → Option Value} {wo : ρ → MW} {comp : Option ρ} {r : ρ} {L : List (Nat × Value)} {own : String} {ini : Bool} (hl0 : l.stackTraces = false) (hy : plainName y.cls = true) (hown0 : y.cls = own) (hini : y.name = "<init>" ∨ ini = false) (hlen : (lg_sl av).length ≤ mL) (hL : lv_args 0 av = L)
    (hJ : ∀ p e s m args below meth c, hz_J p l e (hz_rm d mc ms) s m args below meth c cb mL own ret B [] ini ex (hz_Fi rv wo below args s B ex n' mc ms) some 0 L [] 0 0 n w comp) (hc : comp = some r) : hz_Met l B ex n n' y cb mL ret d mc ms av w (rv r) (wo r) := by
  refine Met.ofW (cc := cb) (maxL := mL) (ret := ret) hy rfl ?_
  intro p e s m args below meth c s₁ Bd hml hv
  obtain ⟨rfl, hE, hH, hsz⟩ := hv
  have hts := atoms_spec (ws := Cond.code y cb mL ret :: hz_good) Bd.pre
  have hown : s.vm.findClass own = some m.cls := by rw [← hown0]; exact findClass_of_methodNamed Bd.named
  have hl := lv_entry av (n := mL) hlen
  rw [lg_entry_eq]
  generalize (lg_sl av ++ List.replicate (mL - (lg_sl av).length) Slot.unset).toArray = ls at hl ⊢
  rw [hL] at hl
  have X : hz_Cx p l s m av.toArray meth c cb mL own ret B [] ini := ⟨⟨Bd.exec, Bd.bytes, hml, hown, fun w hw => hts w (List.mem_cons_of_mem _ hw)⟩, hE, Bd.notSynchronized, hl0, hz_notab Bd, Bd.returns, fun z => by
    rcases hini with h | h
    · rw [(name_of_methodNamed Bd.named Bd.method).1]; exact h
    · rw [h] at z; cases z⟩
  exact hJ p e s m av.toArray below meth c X (fun z => by rw [hsz z]; exact Nat.le_refl _) r hc r rfl s.heap [] ls hl hH va_S.rf
theorem hz_ofJX {l : Launch} {B : Bt} {n : Nat} {y : MethodName} {cb : ByteArray} {mL : Nat} {ret : Option FieldType} {d mc ms : Nat} {av : List Value} {w : MW} {τ : Type} {rv : τ → Option Value} {comp : Option ((String ⊕ τ) × MW)} {r : (String ⊕ τ) × MW} {L : List (Nat × Value)} {own : String} (hl0 : l.stackTraces = false) (hy : plainName y.cls = true) (hown0 : y.cls = own) (hlen : (lg_sl av).length ≤ mL) (hL : lv_args 0 av = L)
    (hJ : ∀ p e s m args below meth c, hz_J p l e (hz_rm d mc ms) s m args below meth c cb mL own ret B [] false false (hz_FiX rv below args s B n mc ms) some 0 L [] 0 0 n w comp) (hc : comp = some r) : hz_MetX l B n y cb mL ret d mc ms av w (Sum.map id rv r.1) r.2 := by
  refine vx_ofW (cc := cb) (maxL := mL) (ret := ret) hy rfl ?_
  intro p e s m args below meth c s₁ Bd hml htab hv
  obtain ⟨rfl, hE, hH⟩ := hv
  have hts := atoms_spec (ws := Cond.code y cb mL ret :: hz_good) Bd.pre
  have hown : s.vm.findClass own = some m.cls := by rw [← hown0]; exact findClass_of_methodNamed Bd.named
  have hl := lv_entry av (n := mL) hlen
  rw [lg_entry_eq]
  generalize (lg_sl av ++ List.replicate (mL - (lg_sl av).length) Slot.unset).toArray = ls at hl ⊢
  rw [hL] at hl
  have X : hz_Cx p l s m av.toArray meth c cb mL own ret B [] false := ⟨⟨Bd.exec, Bd.bytes, hml, hown, fun w hw => hts w (List.mem_cons_of_mem _ hw)⟩, hE, Bd.notSynchronized, hl0, hz_notab Bd, Bd.returns, fun z => by cases z⟩
  exact hJ p e s m av.toArray below meth c X (fun z => by cases z) r hc r rfl s.heap [] ls hl hH va_S.rf
/-- the words of a throw of own's making -/
def hz_TL (own : String) (ik is ic i : Nat) (E tx : String) : Prop := Bundle.fit E = true ∧ Cond.classLink own ik E ∈ hz_good ∧ Cond.initialized E ∈ hz_good ∧ hz_strs[i]? = some (own, is, tx) ∧ (∀ w ∈ vx_atS own ic E ["java/lang/RuntimeException", "java/lang/Exception"], w ∈ hz_good ∨ w ∈ hz_faces) ∧ (∀ w ∈ Cond.classLink own ik E :: Cond.initialized E :: vx_atS own ic E ["java/lang/RuntimeException", "java/lang/Exception"], vx_ot w = true)
theorem hz_fitn : ∀ n ∈ ["java/lang/RuntimeException", "java/lang/Exception"], Bundle.fit n = true := by decide +kernel
section HZE
variable {p : Program} {l : Launch} {e : Env} {d9 m9 s9 : Nat} {s : State} {m : MethodId} {args : Array Value} {below : List Frame} {meth : Method} {c : Code} {cc : ByteArray} {nL : Nat} {own : String} {ret : Option FieldType} {B : Bt} {tb : List ExceptionTableEntry} {ini ex : Bool} {σ ρ τ : Type} {Fi : ρ → State → Prop} {Ko : σ → Option ρ} {pc pc' : Nat} {L : List (Nat × Value)} {st : List Value} {k sl n : Nat} {w : MW} {comp : Option σ}
theorem hz_end {H : Heap} {locs : List Loc} {t : State} {n' : Nat} (hH : hz_Hd B n' w H) (hS : va_S (hz_A B) s.heap H locs) (hsz : ex = true → H.size = B.1 + n') (ht : t.heap = H) : hz_Hd B n' w t.heap ∧ (ex = true → t.heap.size = B.1 + n') ∧ va_F (hz_A B) s t :=
  ⟨by rw [ht]; exact hH, fun z => by rw [ht]; exact hsz z, hS.F ht⟩
theorem hz_reti {x : Int32} (d : decode cc pc = .ok (.ireturn, 1)) (hret : ret = some .int) (hk : k ≤ m9 ∧ sl ≤ s9) : hz_J p l e (hz_rm d9 m9 s9) s m args below meth c cc nL own ret B tb ini ex (hz_Fi (fun r => some (.int r.1)) (fun r => r.2) below args s B ex n m9 s9) some pc L [.int x] k sl n w (some (x, w)) := by
  intro X hx q hq r hr H locs ls hl hH hS
  cases hq
  cases hr
  refine hz_sized (fun hz => ?_)
  have h9 := hH.1
  have hsz : ex = true → H.size = B.1 + n := fun z => by have := hx z; omega
  refine W.widen hk.1 hk.2 ?_
  exact W.iret X.1.1 X.1.2.1 (X.2.2.2.2.2.1.trans hret) (fun t ht _ => ⟨rfl, hz_end hH hS hsz ht⟩) hS.2.2 d X.2.2.1
theorem hz_retiX {x : Int32} (d : decode cc pc = .ok (.ireturn, 1)) (hret : ret = some .int) (hk : k ≤ m9 ∧ sl ≤ s9) : hz_J p l e (hz_rm d9 m9 s9) s m args below meth c cc nL own ret B tb ini ex (hz_FiX (fun r => some (.int r)) below args s B n m9 s9) some pc L [.int x] k sl n w (some (.inr x, w)) := by
  intro X hx q hq r hr H locs ls hl hH hS
  cases hq
  cases hr
  refine W.widen hk.1 hk.2 ?_
  exact vx_ret (W.iret X.1.1 X.1.2.1 (X.2.2.2.2.2.1.trans hret) (fun t ht _ => ⟨⟨_, rfl, rfl⟩, by rw [ht]; exact hH, hS.F ht⟩) hS.2.2 d X.2.2.1)
theorem hz_retz {x : Int32} (d : decode cc pc = .ok (.ireturn, 1)) (hret : ret = some .boolean) (hk : k ≤ m9 ∧ sl ≤ s9) : hz_J p l e (hz_rm d9 m9 s9) s m args below meth c cc nL own ret B tb ini ex (hz_Fi (fun r => some (.int r.1)) (fun r => r.2) below args s B ex n m9 s9) some pc L [.int x] k sl n w (hz_gd (hz_isb x) (some (x, w))) := by
  intro X hx q hq r hr H locs ls hl hH hS
  obtain ⟨hb1, hq⟩ := hz_gd_some hq
  cases hq
  cases hr
  refine hz_sized (fun hz => ?_)
  have h9 := hH.1
  have hsz : ex = true → H.size = B.1 + n := fun z => by have := hx z; omega
  refine W.widen hk.1 hk.2 ?_
  exact W.zret X.1.1 X.1.2.1 (X.2.2.2.2.2.1.trans hret) (hz_isb_n hb1).1 (fun t ht _ => ⟨rfl, hz_end hH hS hsz ht⟩) hS.2.2 d X.2.2.1
theorem hz_retl {x : Int64} (d : decode cc pc = .ok (.lreturn, 1)) (hret : ret = some .long) (hk : k ≤ m9 ∧ sl ≤ s9) : hz_J p l e (hz_rm d9 m9 s9) s m args below meth c cc nL own ret B tb ini ex (hz_Fi (fun r => some (.long r.1)) (fun r => r.2) below args s B ex n m9 s9) some pc L [.long x] k sl n w (some (x, w)) := by
  intro X hx q hq r hr H locs ls hl hH hS
  cases hq
  cases hr
  refine hz_sized (fun hz => ?_)
  have h9 := hH.1
  have hsz : ex = true → H.size = B.1 + n := fun z => by have := hx z; omega
  refine W.widen hk.1 hk.2 ?_
  exact W.lret X.1.1 X.1.2.1 (X.2.2.2.2.2.1.trans hret) (fun t ht _ => ⟨rfl, hz_end hH hS hsz ht⟩) hS.2.2 d X.2.2.1
theorem hz_retf {x : UInt32} (d : decode cc pc = .ok (.freturn, 1)) (hret : ret = some .float) (hk : k ≤ m9 ∧ sl ≤ s9) : hz_J p l e (hz_rm d9 m9 s9) s m args below meth c cc nL own ret B tb ini ex (hz_Fi (fun r => some (.float r.1)) (fun r => r.2) below args s B ex n m9 s9) some pc L [.float x] k sl n w (some (x, w)) := by
  intro X hx q hq r hr H locs ls hl hH hS
  cases hq
  cases hr
  refine hz_sized (fun hz => ?_)
  have h9 := hH.1
  have hsz : ex = true → H.size = B.1 + n := fun z => by have := hx z; omega
  refine W.widen hk.1 hk.2 ?_
  exact W.fret X.1.1 X.1.2.1 (X.2.2.2.2.2.1.trans hret) (fun t ht _ => ⟨rfl, hz_end hH hS hsz ht⟩) hS.2.2 d X.2.2.1
theorem hz_retfX {x : UInt32} (d : decode cc pc = .ok (.freturn, 1)) (hret : ret = some .float) (hk : k ≤ m9 ∧ sl ≤ s9) : hz_J p l e (hz_rm d9 m9 s9) s m args below meth c cc nL own ret B tb ini ex (hz_FiX (fun r => some (.float r)) below args s B n m9 s9) some pc L [.float x] k sl n w (some (.inr x, w)) := by
  intro X hx q hq r hr H locs ls hl hH hS
  cases hq
  cases hr
  refine W.widen hk.1 hk.2 ?_
  exact vx_ret (W.fret X.1.1 X.1.2.1 (X.2.2.2.2.2.1.trans hret) (fun t ht _ => ⟨⟨_, rfl, rfl⟩, by rw [ht]; exact hH, hS.F ht⟩) hS.2.2 d X.2.2.1)
theorem hz_retd {x : UInt64} (d : decode cc pc = .ok (.dreturn, 1)) (hret : ret = some .double) (hk : k ≤ m9 ∧ sl ≤ s9) : hz_J p l e (hz_rm d9 m9 s9) s m args below meth c cc nL own ret B tb ini ex (hz_Fi (fun r => some (.double r.1)) (fun r => r.2) below args s B ex n m9 s9) some pc L [.double x] k sl n w (some (x, w)) := by
  intro X hx q hq r hr H locs ls hl hH hS
  cases hq
  cases hr
  refine hz_sized (fun hz => ?_)
  have h9 := hH.1
  have hsz : ex = true → H.size = B.1 + n := fun z => by have := hx z; omega
  refine W.widen hk.1 hk.2 ?_
  exact W.dret X.1.1 X.1.2.1 (X.2.2.2.2.2.1.trans hret) (fun t ht _ => ⟨rfl, hz_end hH hS hsz ht⟩) hS.2.2 d X.2.2.1
theorem hz_retdX {x : UInt64} (d : decode cc pc = .ok (.dreturn, 1)) (hret : ret = some .double) (hk : k ≤ m9 ∧ sl ≤ s9) : hz_J p l e (hz_rm d9 m9 s9) s m args below meth c cc nL own ret B tb ini ex (hz_FiX (fun r => some (.double r)) below args s B n m9 s9) some pc L [.double x] k sl n w (some (.inr x, w)) := by
  intro X hx q hq r hr H locs ls hl hH hS
  cases hq
  cases hr
  refine W.widen hk.1 hk.2 ?_
  exact vx_ret (W.dret X.1.1 X.1.2.1 (X.2.2.2.2.2.1.trans hret) (fun t ht _ => ⟨⟨_, rfl, rfl⟩, by rw [ht]; exact hH, hS.F ht⟩) hS.2.2 d X.2.2.1)
theorem hz_retv (d : decode cc pc = .ok (.return_, 1)) (hret : ret = none) (hk : k ≤ m9 ∧ sl ≤ s9) : hz_J p l e (hz_rm d9 m9 s9) s m args below meth c cc nL own ret B tb ini ex (hz_Fi (fun _ => none) (fun r => r) below args s B ex n m9 s9) some pc L [] k sl n w (some w) := by
  intro X hx q hq r hr H locs ls hl hH hS
  cases hq
  cases hr
  refine hz_sized (fun hz => ?_)
  have h9 := hH.1
  have hsz : ex = true → H.size = B.1 + n := fun z => by have := hx z; omega
  refine W.widen hk.1 hk.2 ?_
  exact W.vret X.1.1 X.1.2.1 (X.2.2.2.2.2.1.trans hret) (fun t ht _ => ⟨rfl, hz_end hH hS hsz ht⟩) hS.2.2 d X.2.2.1
theorem hz_retvX (d : decode cc pc = .ok (.return_, 1)) (hret : ret = none) (hk : k ≤ m9 ∧ sl ≤ s9) : hz_J p l e (hz_rm d9 m9 s9) s m args below meth c cc nL own ret B tb ini ex (hz_FiX (fun _ : Unit => none) below args s B n m9 s9) some pc L [] k sl n w (some (.inr (), w)) := by
  intro X hx q hq r hr H locs ls hl hH hS
  cases hq
  cases hr
  refine W.widen hk.1 hk.2 ?_
  exact vx_ret (W.vret X.1.1 X.1.2.1 (X.2.2.2.2.2.1.trans hret) (fun t ht _ => ⟨⟨_, rfl, rfl⟩, by rw [ht]; exact hH, hS.F ht⟩) hS.2.2 d X.2.2.1)
-- throws
theorem hz_face_use {w9 : Cond} (X : hz_Cx p l s m args meth c cc nL own ret B tb ini) (h : w9 ∈ hz_good ∨ w9 ∈ hz_faces) : w9.before args s = true := by
  rcases h with h | h
  · exact X.1.2.2.2.2 _ h
  · have hc := hz_faces_ok w9 h
    simp only [Bool.and_eq_true] at hc
    exact va_Nw.use hc.2 (X.2.1.2.2.2.1 w9 h)
theorem hz_throwW {ik is ic i : Nat} {E tx : String} {rv : τ → Option Value} (F : hz_TL own ik is ic i E tx) (d0 : decode cc pc = .ok (.new ik, 3)) (d3 : decode cc (pc + 3) = .ok (.dup, 1)) (d4 : decode cc (pc + 4) = .ok (.ldc_w is, 3)) (d7 : decode cc (pc + 7) = .ok (.invokespecial ic, 3)) (d10 : decode cc (pc + 10) = .ok (.athrow, 1)) (hst : (st.map fun v => v.category).sum ≤ 8) (hR : 6 ≤ d9 ∧ k + 1 ≤ m9 ∧ sl + 6 ≤ s9) : hz_J p l e (hz_rm d9 m9 s9) s m args below meth c cc nL own ret B [] ini ex (hz_FiX rv below args s B n m9 s9) some pc L st k sl n w (some (.inl E, w)) := by
  intro X hx q hq r hr H locs ls hl hH hS
  cases hq
  cases hr
  obtain ⟨g1, g2, g3, g4, g5, g6⟩ := F
  refine vx_throwSW X.1.1 X.1.2.1 X.2.2.2.1 X.1.2.2.2.1 g1 hz_fitn (X.1.2.2.2.2 _ g2) (X.1.2.2.2.2 _ g3) (X.2.1.2.2.2.2.2.2.1 i _ g4) (fun w hw => hz_face_use X (g5 w hw)) g6 X.2.1.2.2.2.2.2.2.2.2.1 X.2.1.2.2.2.2.2.2.2.2.2.1 hS (hl.1.trans X.1.2.2.1.symm) d0 d3 d4 d7 d10 (fun x hx => by rw [X.2.2.2.2.1] at hx; cases hx) (by show 2 + 3 < d9; omega) (by show _ + (13 * 3 + 43) ≤ 64 * d9; omega) hR.2.1 hR.2.2 X.2.2.1 (fun t hv hz hk => ?_) hS.2.2 hR.2.1 hR.2.2
  exact ⟨rfl, hH.kept hz hk, Nat.le_trans hS.1 hz, fun q h1 h2 => by rw [hk q (Nat.lt_of_lt_of_le h1 hS.1)]; exact hS.2.1 q h1 h2⟩
theorem hz_throwS {ik is ic i : Nat} {E tx : String} {rv : τ → Option Value} (F : hz_TL own ik is ic i E tx) (d0 : decode cc pc = .ok (.new ik, 3)) (d3 : decode cc (pc + 3) = .ok (.dup, 1)) (d4 : decode cc (pc + 4) = .ok (.ldc is, 2)) (d6 : decode cc (pc + 6) = .ok (.invokespecial ic, 3)) (d9' : decode cc (pc + 9) = .ok (.athrow, 1)) (hst : (st.map fun v => v.category).sum ≤ 8) (hR : 6 ≤ d9 ∧ k + 1 ≤ m9 ∧ sl + 6 ≤ s9) : hz_J p l e (hz_rm d9 m9 s9) s m args below meth c cc nL own ret B [] ini ex (hz_FiX rv below args s B n m9 s9) some pc L st k sl n w (some (.inl E, w)) := by
  intro X hx q hq r hr H locs ls hl hH hS
  cases hq
  cases hr
  obtain ⟨g1, g2, g3, g4, g5, g6⟩ := F
  refine vx_throwS X.1.1 X.1.2.1 X.2.2.2.1 X.1.2.2.2.1 g1 hz_fitn (X.1.2.2.2.2 _ g2) (X.1.2.2.2.2 _ g3) (X.2.1.2.2.2.2.2.2.1 i _ g4) (fun w hw => hz_face_use X (g5 w hw)) g6 X.2.1.2.2.2.2.2.2.2.2.1 X.2.1.2.2.2.2.2.2.2.2.2.1 hS (hl.1.trans X.1.2.2.1.symm) d0 d3 d4 d6 d9' (fun x hx => by rw [X.2.2.2.2.1] at hx; cases hx) (by show 2 + 3 < d9; omega) (by show _ + (13 * 3 + 43) ≤ 64 * d9; omega) hR.2.1 hR.2.2 X.2.2.1 (fun t hv hz hk => ?_) hS.2.2 hR.2.1 hR.2.2
  exact ⟨rfl, hH.kept hz hk, Nat.le_trans hS.1 hz, fun q h1 h2 => by rw [hk q (Nat.lt_of_lt_of_le h1 hS.1)]; exact hS.2.1 q h1 h2⟩
theorem hz_afterX {R : Room} {H : Heap} {locs : List Loc} {Q : State → Prop} {ls : Array Slot} {rest st0 : List Value} {mc ms : Nat} {rv : String ⊕ Option Value} {w' : MW} (hS : va_S (hz_A B) s.heap H locs)
    (hr : vx_Run p l e R s m args below meth c H locs k sl mc ms (F0 m pc ls st0) rest (fun st oc t => (∃ v, rv = .inr v ∧ oc = .returned v) ∧ hz_Hd B n w' t.heap ∧ va_F (hz_A B) st t) (fun E st t => rv = .inl E ∧ hz_Hd B n w' t.heap ∧ va_F (hz_A B) st t) (hz_A B))
    (kk : ∀ v, rv = .inr v → ∀ (H1 : Heap) (locs1 : List Loc), hz_Hd B n w' H1 → va_S (hz_A B) s.heap H1 locs1 → W p l e R s m args below meth c H1 locs1 (k + mc) (sl + ms) Q (F0 m (pc + 3) ls (v.toList ++ rest)))
    (kx : ∀ E, rv = .inl E → ∀ (ce : Cell) (q9 : Addr) (H1 : Heap) (locs1 : List Loc), hz_Hd B n w' H1 → va_S (hz_A B) s.heap H1 locs1 → H1[q9]? = some ce → ce.vm = .none → s.vm.findClass E = some ce.cls → vx_W p l e R s m args below meth c H1 locs1 (k + mc) (sl + ms) Q (F0 m pc ls rest) q9) : W p l e R s m args below meth c H locs k sl Q (F0 m pc ls st0) := by
  intro T hT X
  rcases hr T hT X with ⟨v, st₀, t, T', L, h0, X', hL, e1, e2, ⟨⟨v', hv1, hv2⟩, hd, hF⟩, go⟩ | ⟨q, st₀, t, T', L, E, ce, h0, X', hL, e1, e2, ⟨hv1, hd, hF⟩, hce, hcv, hcl, go⟩
  · cases hv2
    obtain ⟨k1, k2, k3⟩ := vx_keep h0 e1 hS (fun _ _ h => h) (fun _ h => h) hL hF
    obtain ⟨t2, a1, b1⟩ := kk _ hv1 T'.heap (locs ++ L) (by rw [e1]; exact hd) k3 T' rfl X'
    exact ⟨t2, go t2 a1, b1⟩
  · obtain ⟨k1, k2, k3⟩ := vx_keep h0 e1 hS (fun _ _ h => h) (fun _ h => h) hL hF
    obtain ⟨t2, a1, b1⟩ := kx E hv1 ce q T'.heap (locs ++ L) (by rw [e1]; exact hd) k3 (by rw [e1]; exact hce) hcv hcl T' rfl X'
    exact ⟨t2, go.trans a1, b1⟩
theorem hz_wVX {R : Room} {H : Heap} {locs : List Loc} {Q : State → Prop} {ls : Array Slot} {rest st0 av : List Value} {z ci mL d mc ms na b : Nat} {y : MethodName} {cb : ByteArray} {rt : Option FieldType} {rv : String ⊕ Option Value} {w' : MW} (X : hz_Cx p l s m args meth c cc nL own ret B tb ini) (F : hz_VL own z ci y cb mL rt na) (hM : hz_MetX l B n y cb mL rt d mc ms (.ref (B.1 + b) :: av) w rv w') (hg : hz_g n b ci = true) (hna : av.length = na) (hst : st0 = av.reverse ++ .ref (B.1 + b) :: rest) (hrs : (rest.map fun v => v.category).sum ≤ 8) (hR : d + 1 ≤ R.frames ∧ 8 + (mL + 11) + 64 * d ≤ R.locals) (hf : k + mc ≤ R.cells ∧ sl + ms ≤ R.slots) (dd : decode cc pc = .ok (.invokevirtual z, 3))
    (hl : lv_has ls nL L) (hH : hz_Hd B n w H) (hS : va_S (hz_A B) s.heap H locs)
    (kk : ∀ v, rv = .inr v → ∀ (H1 : Heap) (locs1 : List Loc), hz_Hd B n w' H1 → va_S (hz_A B) s.heap H1 locs1 → W p l e R s m args below meth c H1 locs1 (k + mc) (sl + ms) Q (F0 m (pc + 3) ls (v.toList ++ rest)))
    (kx : ∀ E, rv = .inl E → ∀ (ce : Cell) (q9 : Addr) (H1 : Heap) (locs1 : List Loc), hz_Hd B n w' H1 → va_S (hz_A B) s.heap H1 locs1 → H1[q9]? = some ce → ce.vm = .none → s.vm.findClass E = some ce.cls → vx_W p l e R s m args below meth c H1 locs1 (k + mc) (sl + ms) Q (F0 m pc ls rest) q9) : W p l e R s m args below meth c H locs k sl Q (F0 m pc ls st0) := by
  obtain ⟨C, T, N, f1, f2, f3, f4, f5, f6, f7, f8⟩ := F
  have hG : GoodIn hz_good (wsV own z C y (Cond.code y cb mL rt :: hz_good)) := hz_gd_in (fun w hw => by
    rcases List.mem_append.mp hw with h | h
    · simp only [List.mem_cons, List.not_mem_nil, or_false] at h
      rcases h with rfl | rfl | rfl | rfl <;> assumption
    · rcases List.mem_cons.mp h with rfl | h
      · exact f7
      · exact h)
  exact hz_afterX hS (vx_runV (As := av) (rest := rest) X.1 hM (cwV na X.1.2.2.2.2 hG rfl rfl rfl f8 hR) ⟨hz_blindX, va_recv X.2.1.2.1 hH.2 f1 (hz_at_o hg f2), fun U hU hW => ⟨rfl, X.2.1.next hS hU hW, by rw [hU]; exact hH⟩⟩ rfl hna (hl.1) hst (lv_room hrs) dd hf) kk kx
theorem hz_wSX {R : Room} {H : Heap} {locs : List Loc} {Q : State → Prop} {ls : Array Slot} {rest st0 av : List Value} {z mL d mc ms na : Nat} {y : MethodName} {cb : ByteArray} {rt : Option FieldType} {rv : String ⊕ Option Value} {w' : MW} (X : hz_Cx p l s m args meth c cc nL own ret B tb ini) (F : hz_SL own z y cb mL rt na) (hM : hz_MetX l B n y cb mL rt d mc ms av w rv w') (hna : av.length = na) (hst : st0 = av.reverse ++ rest) (hrs : (rest.map fun v => v.category).sum ≤ 8) (hR : d + 1 ≤ R.frames ∧ 8 + (mL + 11) + 64 * d ≤ R.locals) (hf : k + mc ≤ R.cells ∧ sl + ms ≤ R.slots) (dd : decode cc pc = .ok (.invokestatic z, 3))
    (hl : lv_has ls nL L) (hH : hz_Hd B n w H) (hS : va_S (hz_A B) s.heap H locs)
    (kk : ∀ v, rv = .inr v → ∀ (H1 : Heap) (locs1 : List Loc), hz_Hd B n w' H1 → va_S (hz_A B) s.heap H1 locs1 → W p l e R s m args below meth c H1 locs1 (k + mc) (sl + ms) Q (F0 m (pc + 3) ls (v.toList ++ rest)))
    (kx : ∀ E, rv = .inl E → ∀ (ce : Cell) (q9 : Addr) (H1 : Heap) (locs1 : List Loc), hz_Hd B n w' H1 → va_S (hz_A B) s.heap H1 locs1 → H1[q9]? = some ce → ce.vm = .none → s.vm.findClass E = some ce.cls → vx_W p l e R s m args below meth c H1 locs1 (k + mc) (sl + ms) Q (F0 m pc ls rest) q9) : W p l e R s m args below meth c H locs k sl Q (F0 m pc ls st0) := by
  obtain ⟨f3, f4, f6, f7, f8⟩ := F
  have hG : GoodIn hz_good (Cond.code y cb mL rt :: hz_good) := hz_gd_in (fun w hw => by
    rcases List.mem_cons.mp hw with rfl | h
    · exact f7
    · exact h)
  exact hz_afterX hS (vx_runS (As := av) (rest := rest) X.1 hM ⟨callB_of na X.1.2.2.2.2 hG rfl rfl rfl (X.1.2.2.2.2 _ f6) (X.1.2.2.2.2 _ f3) f8 hR, X.1.2.2.2.2 _ f4⟩ ⟨hz_blindX, fun U hU hW => ⟨rfl, X.2.1.next hS hU hW, by rw [hU]; exact hH⟩⟩ rfl hna (hl.1) hst (lv_room hrs) dd hf) kk kx
/-- a throw from a call leaves this method too -/
theorem hz_pass {H1 : Heap} {locs1 : List Loc} {ls : Array Slot} {rest : List Value} {E : String} {ce : Cell} {q9 : Addr} {rv : τ → Option Value} (X : hz_Cx p l s m args meth c cc nL own ret B [] ini) (hH : hz_Hd B n w H1) (hS : va_S (hz_A B) s.heap H1 locs1) (hce : H1[q9]? = some ce) (hcv : ce.vm = .none) (hcl : s.vm.findClass E = some ce.cls) (hk : k ≤ m9) (hs : sl ≤ s9) : vx_W p l e (hz_rm d9 m9 s9) s m args below meth c H1 locs1 k sl (hz_FiX rv below args s B n m9 s9 (.inl E, w)) (F0 m pc ls rest) q9 :=
  vx_out (fun x hx => by rw [X.2.2.2.2.1] at hx; cases hx) X.2.2.1 hce hcv hcl (fun t ht _ => ⟨rfl, by rw [ht]; exact hH, hS.F ht⟩) hS.2.2 hk hs
theorem hz_xVv {z mL d mc ms na : Nat} {ci b : Nat} {y : MethodName} {cb : ByteArray} {rt : Option FieldType} {av rest st0 : List Value} {rv : τ → Option Value} {F : Option ((String ⊕ Unit) × MW)} {KK : Unit → MW → Option ((String ⊕ τ) × MW)} (FL : hz_VL own z ci y cb mL rt na) (hM : ∀ v w', F = some (v, w') → hz_MetX l B n y cb mL rt d mc ms (.ref (B.1 + b) :: av) w (Sum.map id (fun _ => none) v) w') (hg : hz_g n b ci = true) (hna : av.length = na) (hst : st0 = av.reverse ++ .ref (B.1 + b) :: rest) (hrs : (rest.map fun v => v.category).sum ≤ 8) (hR : d + 1 ≤ d9 ∧ 8 + (mL + 11) + 64 * d ≤ 64 * d9) (hf : k + mc ≤ m9 ∧ sl + ms ≤ s9) (dd : decode cc pc = .ok (.invokevirtual z, 3)) (hp : pc + 3 = pc') (K : ∀ w', hz_J p l e (hz_rm d9 m9 s9) s m args below meth c cc nL own ret B [] ini false (hz_FiX rv below args s B n m9 s9) some pc' L rest (k + mc) (sl + ms) n w' (KK () w')) : hz_J p l e (hz_rm d9 m9 s9) s m args below meth c cc nL own ret B [] ini false (hz_FiX rv below args s B n m9 s9) some pc L st0 k sl n w (hz_bx F KK) := by
  intro X hx q hq r hr H locs ls hl hH hS
  subst hp
  cases hF : F with
  | none => rw [hF] at hq; cases hq
  | some w1 =>
    rw [hF] at hq
    obtain ⟨v1, w1⟩ := w1
    cases v1 with
    | inl E =>
      cases hq
      cases hr
      refine hz_wVX (d := d) X FL (hM _ w1 hF) hg hna hst hrs hR hf dd hl hH hS (fun v hv => nomatch hv) (fun E' hE ce q9 H1 locs1 h1 h2 h3 h4 h5 => ?_)
      cases hE
      exact hz_pass X h1 h2 h3 h4 h5 hf.1 hf.2
    | inr v =>
      refine hz_wVX (d := d) X FL (hM _ w1 hF) hg hna hst hrs hR hf dd hl hH hS (fun v9 hv H1 locs1 h1 h2 => ?_) (fun E' hE => nomatch hE)
      cases hv
      exact K w1 X (fun z => by cases z) q hq r hr H1 locs1 ls hl h1 h2
theorem hz_xSv {z mL d mc ms na : Nat} {y : MethodName} {cb : ByteArray} {rt : Option FieldType} {av rest st0 : List Value} {rv : τ → Option Value} {F : Option ((String ⊕ Unit) × MW)} {KK : Unit → MW → Option ((String ⊕ τ) × MW)} (FL : hz_SL own z y cb mL rt na) (hM : ∀ v w', F = some (v, w') → hz_MetX l B n y cb mL rt d mc ms (av) w (Sum.map id (fun _ => none) v) w') (hna : av.length = na) (hst : st0 = av.reverse ++ rest) (hrs : (rest.map fun v => v.category).sum ≤ 8) (hR : d + 1 ≤ d9 ∧ 8 + (mL + 11) + 64 * d ≤ 64 * d9) (hf : k + mc ≤ m9 ∧ sl + ms ≤ s9) (dd : decode cc pc = .ok (.invokestatic z, 3)) (hp : pc + 3 = pc') (K : ∀ w', hz_J p l e (hz_rm d9 m9 s9) s m args below meth c cc nL own ret B [] ini false (hz_FiX rv below args s B n m9 s9) some pc' L rest (k + mc) (sl + ms) n w' (KK () w')) : hz_J p l e (hz_rm d9 m9 s9) s m args below meth c cc nL own ret B [] ini false (hz_FiX rv below args s B n m9 s9) some pc L st0 k sl n w (hz_bx F KK) := by
  intro X hx q hq r hr H locs ls hl hH hS
  subst hp
  cases hF : F with
  | none => rw [hF] at hq; cases hq
  | some w1 =>
    rw [hF] at hq
    obtain ⟨v1, w1⟩ := w1
    cases v1 with
    | inl E =>
      cases hq
      cases hr
      refine hz_wSX (d := d) X FL (hM _ w1 hF) hna hst hrs hR hf dd hl hH hS (fun v hv => nomatch hv) (fun E' hE ce q9 H1 locs1 h1 h2 h3 h4 h5 => ?_)
      cases hE
      exact hz_pass X h1 h2 h3 h4 h5 hf.1 hf.2
    | inr v =>
      refine hz_wSX (d := d) X FL (hM _ w1 hF) hna hst hrs hR hf dd hl hH hS (fun v9 hv H1 locs1 h1 h2 => ?_) (fun E' hE => nomatch hE)
      cases hv
      exact K w1 X (fun z => by cases z) q hq r hr H1 locs1 ls hl h1 h2
end HZE
