/-! ===== methods with handlers: the law's own ===== -/
def hz_MetW (l : Launch) (B : Bt) (n : Nat) (y : MethodName) (cb : ByteArray) (mL : Nat) (ret : Option FieldType) (hh : List (Nat × Nat × Nat × Nat)) (d mc ms : Nat) (av : List Value) (w : MW) (rv : Option Value) (w' : MW) : Prop :=
  Met l y (Cond.codeWith y cb mL ret hh :: hz_good) (hz_rm d mc ms) (va_Pc av (fun U => hz_Ev B U ∧ hz_Hd B n w U.heap ∧ (false = true → U.heap.size = B.1 + n))) (fun _ st oc t => oc = .returned rv ∧ hz_Hd B n w' t.heap ∧ (false = true → t.heap.size = B.1 + n) ∧ va_F (hz_A B) st t) mc ms (hz_A B)
theorem hz_ofJW {l : Launch} {B : Bt} {n : Nat} {y : MethodName} {cb : ByteArray} {mL : Nat} {ret : Option FieldType} {hh : List (Nat × Nat × Nat × Nat)} {d mc ms : Nat} {av : List Value} {w : MW} {ρ : Type} {rv : ρ → Option Value} {wo : ρ → MW} {comp : Option ρ} {r : ρ} {L : List (Nat × Value)} {own : String} (hl0 : l.stackTraces = false) (hy : plainName y.cls = true) (hown0 : y.cls = own) (hlen : (lg_sl av).length ≤ mL) (hL : lv_args 0 av = L)
    (hJ : ∀ p e s m args below meth c, hz_J p l e (hz_rm d mc ms) s m args below meth c cb mL own ret B (tableOf hh) false false (hz_Fi rv wo below args s B false n mc ms) some 0 L [] 0 0 n w comp) (hc : comp = some r) : hz_MetW l B n y cb mL ret hh d mc ms av w (rv r) (wo r) := by
  refine va_MetW (cc := cb) (maxL := mL) (ret := ret) (hh := hh) hy rfl ?_
  intro p e s m args below meth c s₁ Bd hml hv
  obtain ⟨rfl, hE, hH, hsz⟩ := hv
  have hts := atoms_spec (ws := Cond.codeWith y cb mL ret hh :: hz_good) Bd.pre
  have hown : s.vm.findClass own = some m.cls := by rw [← hown0]; exact findClass_of_methodNamed Bd.named
  have hl := lv_entry av (n := mL) hlen
  rw [lg_entry_eq]
  generalize (lg_sl av ++ List.replicate (mL - (lg_sl av).length) Slot.unset).toArray = ls at hl ⊢
  rw [hL] at hl
  have X : hz_Cx p l s m av.toArray meth c cb mL own ret B (tableOf hh) false := ⟨⟨Bd.exec, Bd.bytes, hml, hown, fun w hw => hts w (List.mem_cons_of_mem _ hw)⟩, hE, Bd.notSynchronized, hl0, vx_table (x := y) Bd (hts _ List.mem_cons_self), Bd.returns, fun z => by cases z⟩
  exact hJ p e s m av.toArray below meth c X (fun z => by cases z) r hc r rfl s.heap [] ls hl hH va_S.rf
def hz_bt {α σ : Type} (F : Option ((String ⊕ α) × MW)) (K : α → MW → Option σ) (Hh : String → MW → Option σ) : Option σ := match F with
  | some (.inr x, w) => K x w
  | some (.inl E, w) => Hh E w
  | none => none
/-- as J, with a thing thrown over the frame -/
def hz_JX (p : Program) (l : Launch) (e : Env) (R : Room) (s : State) (m : MethodId) (args : Array Value) (below : List Frame) (meth : Method) (c : Code) (cc : ByteArray) (nL : Nat) (own : String) (ret : Option FieldType) (B : Bt) (tb : List ExceptionTableEntry) (ini ex : Bool) {σ ρ : Type} (Fi : ρ → State → Prop) (Ko : σ → Option ρ) (E : String) (pc : Nat) (L : List (Nat × Value)) (st : List Value) (k sl n : Nat) (w : MW) (comp : Option σ) : Prop :=
  hz_Cx p l s m args meth c cc nL own ret B tb ini → (ex = true → s.heap.size + k ≤ B.1 + n) → ∀ q, comp = some q → ∀ r, Ko q = some r → ∀ (H : Heap) (locs : List Loc) (ls : Array Slot) (ce : Cell) (q9 : Addr), lv_has ls nL L → hz_Hd B n w H → va_S (hz_A B) s.heap H locs → H[q9]? = some ce → ce.vm = .none → s.vm.findClass E = some ce.cls → vx_W p l e R s m args below meth c H locs k sl (Fi r) (F0 m pc ls st) q9
section HZT
variable {p : Program} {l : Launch} {e : Env} {d9 m9 s9 : Nat} {s : State} {m : MethodId} {args : Array Value} {below : List Frame} {meth : Method} {c : Code} {cc : ByteArray} {nL : Nat} {own : String} {ret : Option FieldType} {B : Bt} {tb : List ExceptionTableEntry} {ini ex : Bool} {σ ρ τ : Type} {Fi : ρ → State → Prop} {Ko : σ → Option ρ} {pc pc' : Nat} {L : List (Nat × Value)} {st : List Value} {k sl n : Nat} {w : MW} {comp : Option σ}
theorem hz_xif {R : Room} {E nm : String} {A C : Option σ} (h1 : E = nm → hz_JX p l e R s m args below meth c cc nL own ret B tb ini ex Fi Ko E pc L st k sl n w A) (h2 : ¬ E = nm → hz_JX p l e R s m args below meth c cc nL own ret B tb ini ex Fi Ko E pc L st k sl n w C) : hz_JX p l e R s m args below meth c cc nL own ret B tb ini ex Fi Ko E pc L st k sl n w (if E = nm then A else C) := by
  intro X hx q hq
  by_cases h : E = nm
  · rw [if_pos h] at hq
    exact h1 h X hx q hq
  · rw [if_neg h] at hq
    exact h2 h X hx q hq
theorem hz_xno {R : Room} {E : String} : hz_JX p l e R s m args below meth c cc nL own ret B tb ini ex Fi Ko E pc L st k sl n w (none : Option σ) := fun _ _ _ hq => nomatch hq
/-- caught: the rows ahead name other classes -/
theorem hz_xcatch {R : Room} {E : String} (pre : List ExceptionTableEntry) (x : ExceptionTableEntry) (suf : List ExceptionTableEntry) (hsplit : tb = pre ++ x :: suf) (hpass : ∀ z ∈ pre, z.catchType ≠ 0 ∧ ∃ nm : String, Cond.classLink own z.catchType nm ∈ hz_good ∧ (E, nm) ∈ hz_ncs) (hx1 : covers x pc = true) (hx2 : x.catchType ≠ 0) (hlink : Cond.classLink own x.catchType E ∈ hz_good) (hcast : Cond.castable E E ∈ hz_faces) (K : ∀ q9, hz_J p l e R s m args below meth c cc nL own ret B tb ini ex Fi Ko x.handlerPc L [.ref q9] k sl n w comp) : hz_JX p l e R s m args below meth c cc nL own ret B tb ini ex Fi Ko E pc L st k sl n w comp := by
  intro X hx q hq r hr H locs ls ce q9 hl hH hS hce hcv hcl
  exact vx_catch X.1.2.2.2.1 pre x suf (X.2.2.2.2.1.trans hsplit) (fun z hz => Or.inr ⟨(hpass z hz).1, (hpass z hz).2.choose, X.1.2.2.2.2 _ (hpass z hz).2.choose_spec.1, X.2.1.2.2.2.2.1 _ (hpass z hz).2.choose_spec.2⟩) hx1 hx2 (X.1.2.2.2.2 _ hlink) (hz_face_use X (Or.inr hcast)) hce hcv hcl (K q9 X hx q hq r hr H locs ls hl hH hS)
theorem hz_tVi {z mL d mc ms na ci b : Nat} {y : MethodName} {cb : ByteArray} {rt : Option FieldType} {av rest st0 : List Value} {F : Option ((String ⊕ Int32) × MW)} {KK : Int32 → MW → Option σ} {HH : String → MW → Option σ} (FL : hz_VL own z ci y cb mL rt na) (hM : ∀ v w', F = some (v, w') → hz_MetX l B n y cb mL rt d mc ms (.ref (B.1 + b) :: av) w (Sum.map id (fun r => some (.int r)) v) w') (hg : hz_g n b ci = true) (hna : av.length = na) (hst : st0 = av.reverse ++ .ref (B.1 + b) :: rest) (hrs : (rest.map fun v => v.category).sum ≤ 8) (hR : d + 1 ≤ d9 ∧ 8 + (mL + 11) + 64 * d ≤ 64 * d9) (hf : k + mc ≤ m9 ∧ sl + ms ≤ s9) (dd : decode cc pc = .ok (.invokevirtual z, 3)) (hp : pc + 3 = pc') (K : ∀ x w', hz_J p l e (hz_rm d9 m9 s9) s m args below meth c cc nL own ret B tb ini false Fi Ko pc' L (.int x :: rest) (k + mc) (sl + ms) n w' (KK x w')) (KX : ∀ E w', hz_JX p l e (hz_rm d9 m9 s9) s m args below meth c cc nL own ret B tb ini false Fi Ko E pc L rest (k + mc) (sl + ms) n w' (HH E w')) : hz_J p l e (hz_rm d9 m9 s9) s m args below meth c cc nL own ret B tb ini false Fi Ko pc L st0 k sl n w (hz_bt F KK HH) := by
  intro X hx q hq r hr H locs ls hl hH hS
  subst hp
  cases hF : F with
  | none => rw [hF] at hq; cases hq
  | some w1 =>
    rw [hF] at hq
    obtain ⟨v1, w1⟩ := w1
    cases v1 with
    | inl E =>
      refine hz_wVX (d := d) X FL (hM _ w1 hF) hg hna hst hrs hR hf dd hl hH hS (fun v hv => nomatch hv) (fun E' hE ce q9 H1 locs1 h1 h2 h3 h4 h5 => ?_)
      cases hE
      exact KX E w1 X (fun z => by cases z) q hq r hr H1 locs1 ls ce q9 hl h1 h2 h3 h4 h5
    | inr v =>
      refine hz_wVX (d := d) X FL (hM _ w1 hF) hg hna hst hrs hR hf dd hl hH hS (fun v9 hv H1 locs1 h1 h2 => ?_) (fun E' hE => nomatch hE)
      cases hv
      exact K v w1 X (fun z => by cases z) q hq r hr H1 locs1 ls hl h1 h2
theorem hz_tVf {z mL d mc ms na ci b : Nat} {y : MethodName} {cb : ByteArray} {rt : Option FieldType} {av rest st0 : List Value} {F : Option ((String ⊕ UInt32) × MW)} {KK : UInt32 → MW → Option σ} {HH : String → MW → Option σ} (FL : hz_VL own z ci y cb mL rt na) (hM : ∀ v w', F = some (v, w') → hz_MetX l B n y cb mL rt d mc ms (.ref (B.1 + b) :: av) w (Sum.map id (fun r => some (.float r)) v) w') (hg : hz_g n b ci = true) (hna : av.length = na) (hst : st0 = av.reverse ++ .ref (B.1 + b) :: rest) (hrs : (rest.map fun v => v.category).sum ≤ 8) (hR : d + 1 ≤ d9 ∧ 8 + (mL + 11) + 64 * d ≤ 64 * d9) (hf : k + mc ≤ m9 ∧ sl + ms ≤ s9) (dd : decode cc pc = .ok (.invokevirtual z, 3)) (hp : pc + 3 = pc') (K : ∀ x w', hz_J p l e (hz_rm d9 m9 s9) s m args below meth c cc nL own ret B tb ini false Fi Ko pc' L (.float x :: rest) (k + mc) (sl + ms) n w' (KK x w')) (KX : ∀ E w', hz_JX p l e (hz_rm d9 m9 s9) s m args below meth c cc nL own ret B tb ini false Fi Ko E pc L rest (k + mc) (sl + ms) n w' (HH E w')) : hz_J p l e (hz_rm d9 m9 s9) s m args below meth c cc nL own ret B tb ini false Fi Ko pc L st0 k sl n w (hz_bt F KK HH) := by
  intro X hx q hq r hr H locs ls hl hH hS
  subst hp
  cases hF : F with
  | none => rw [hF] at hq; cases hq
  | some w1 =>
    rw [hF] at hq
    obtain ⟨v1, w1⟩ := w1
    cases v1 with
    | inl E =>
      refine hz_wVX (d := d) X FL (hM _ w1 hF) hg hna hst hrs hR hf dd hl hH hS (fun v hv => nomatch hv) (fun E' hE ce q9 H1 locs1 h1 h2 h3 h4 h5 => ?_)
      cases hE
      exact KX E w1 X (fun z => by cases z) q hq r hr H1 locs1 ls ce q9 hl h1 h2 h3 h4 h5
    | inr v =>
      refine hz_wVX (d := d) X FL (hM _ w1 hF) hg hna hst hrs hR hf dd hl hH hS (fun v9 hv H1 locs1 h1 h2 => ?_) (fun E' hE => nomatch hE)
      cases hv
      exact K v w1 X (fun z => by cases z) q hq r hr H1 locs1 ls hl h1 h2
theorem hz_tVd {z mL d mc ms na ci b : Nat} {y : MethodName} {cb : ByteArray} {rt : Option FieldType} {av rest st0 : List Value} {F : Option ((String ⊕ UInt64) × MW)} {KK : UInt64 → MW → Option σ} {HH : String → MW → Option σ} (FL : hz_VL own z ci y cb mL rt na) (hM : ∀ v w', F = some (v, w') → hz_MetX l B n y cb mL rt d mc ms (.ref (B.1 + b) :: av) w (Sum.map id (fun r => some (.double r)) v) w') (hg : hz_g n b ci = true) (hna : av.length = na) (hst : st0 = av.reverse ++ .ref (B.1 + b) :: rest) (hrs : (rest.map fun v => v.category).sum ≤ 8) (hR : d + 1 ≤ d9 ∧ 8 + (mL + 11) + 64 * d ≤ 64 * d9) (hf : k + mc ≤ m9 ∧ sl + ms ≤ s9) (dd : decode cc pc = .ok (.invokevirtual z, 3)) (hp : pc + 3 = pc') (K : ∀ x w', hz_J p l e (hz_rm d9 m9 s9) s m args below meth c cc nL own ret B tb ini false Fi Ko pc' L (.double x :: rest) (k + mc) (sl + ms) n w' (KK x w')) (KX : ∀ E w', hz_JX p l e (hz_rm d9 m9 s9) s m args below meth c cc nL own ret B tb ini false Fi Ko E pc L rest (k + mc) (sl + ms) n w' (HH E w')) : hz_J p l e (hz_rm d9 m9 s9) s m args below meth c cc nL own ret B tb ini false Fi Ko pc L st0 k sl n w (hz_bt F KK HH) := by
  intro X hx q hq r hr H locs ls hl hH hS
  subst hp
  cases hF : F with
  | none => rw [hF] at hq; cases hq
  | some w1 =>
    rw [hF] at hq
    obtain ⟨v1, w1⟩ := w1
    cases v1 with
    | inl E =>
      refine hz_wVX (d := d) X FL (hM _ w1 hF) hg hna hst hrs hR hf dd hl hH hS (fun v hv => nomatch hv) (fun E' hE ce q9 H1 locs1 h1 h2 h3 h4 h5 => ?_)
      cases hE
      exact KX E w1 X (fun z => by cases z) q hq r hr H1 locs1 ls ce q9 hl h1 h2 h3 h4 h5
    | inr v =>
      refine hz_wVX (d := d) X FL (hM _ w1 hF) hg hna hst hrs hR hf dd hl hH hS (fun v9 hv H1 locs1 h1 h2 => ?_) (fun E' hE => nomatch hE)
      cases hv
      exact K v w1 X (fun z => by cases z) q hq r hr H1 locs1 ls hl h1 h2
theorem hz_wW {R : Room} {H : Heap} {locs : List Loc} {Q : State → Prop} {ls : Array Slot} {rest st0 av : List Value} {z mL d mc ms na : Nat} {y : MethodName} {cb : ByteArray} {rt : Option FieldType} {hh : List (Nat × Nat × Nat × Nat)} {rv : Option Value} {w' : MW} (X : hz_Cx p l s m args meth c cc nL own ret B tb ini) (h1 : Cond.methodLink own z y ∈ hz_good) (h2 : Cond.static y ∈ hz_good) (h3 : Cond.initialized y.cls ∈ hz_good) (h4 : Cond.codeWith y cb mL rt hh ∈ hz_good) (h5 : y.cls ≠ "java/lang/invoke/MethodHandle" ∧ y.cls ≠ "java/lang/invoke/VarHandle" ∧ (parseMethodDescriptor y.desc).map (fun d => d.parameters.length) = some na) (hM : hz_MetW l B n y cb mL rt hh d mc ms av w rv w') (hna : av.length = na) (hst : st0 = av.reverse ++ rest) (hrs : (rest.map fun v => v.category).sum ≤ 8) (hR : d + 1 ≤ R.frames ∧ 8 + (mL + 11) + 64 * d ≤ R.locals) (hf : k + mc ≤ R.cells ∧ sl + ms ≤ R.slots) (dd : decode cc pc = .ok (.invokestatic z, 3))
    (hl : lv_has ls nL L) (hH : hz_Hd B n w H) (hS : va_S (hz_A B) s.heap H locs) (kk : ∀ (H1 : Heap) (locs1 : List Loc), hz_Hd B n w' H1 → va_S (hz_A B) s.heap H1 locs1 → W p l e R s m args below meth c H1 locs1 (k + mc) (sl + ms) Q (F0 m (pc + 3) ls (rv.toList ++ rest))) : W p l e R s m args below meth c H locs k sl Q (F0 m pc ls st0) := by
  have hG : GoodIn hz_good (va_wsS own z y (Cond.codeWith y cb mL rt hh :: hz_good)) := hz_gd_in (fun w hw => by
    rcases List.mem_append.mp hw with h | h
    · simp only [List.mem_cons, List.not_mem_nil, or_false] at h
      rcases h with rfl | rfl | rfl <;> assumption
    · rcases List.mem_cons.mp h with rfl | h
      · exact h4
      · exact h)
  exact hz_after (ex := false) (n := n) hS (fun z => nomatch z) (vx_runSW (As := av) (rest := rest) X.1 hM (vx_cwSW na X.1.2.2.2.2 hG rfl rfl rfl h5 hR) ⟨hz_blind, fun U hU hW => ⟨rfl, X.2.1.next hS hU hW, by rw [hU]; exact hH, fun z => nomatch z⟩⟩ rfl hna (hl.1) hst (lv_room hrs) dd hf) (fun H1 locs1 h1 h2 _ => kk H1 locs1 h1 h2)
theorem hz_cW {z mL d mc ms na : Nat} {y : MethodName} {cb : ByteArray} {rt : Option FieldType} {hh : List (Nat × Nat × Nat × Nat)} {av rest st0 : List Value} {F : Option (Int32 × MW)} {KK : Int32 → MW → Option σ} (h1 : Cond.methodLink own z y ∈ hz_good) (h2 : Cond.static y ∈ hz_good) (h3 : Cond.initialized y.cls ∈ hz_good) (h4 : Cond.codeWith y cb mL rt hh ∈ hz_good) (h5 : y.cls ≠ "java/lang/invoke/MethodHandle" ∧ y.cls ≠ "java/lang/invoke/VarHandle" ∧ (parseMethodDescriptor y.desc).map (fun d => d.parameters.length) = some na) (hM : ∀ x w', F = some (x, w') → hz_MetW l B n y cb mL rt hh d mc ms av w (some (.int x)) w') (hna : av.length = na) (hst : st0 = av.reverse ++ rest) (hrs : (rest.map fun v => v.category).sum ≤ 8) (hR : d + 1 ≤ d9 ∧ 8 + (mL + 11) + 64 * d ≤ 64 * d9) (hf : k + mc ≤ m9 ∧ sl + ms ≤ s9) (he : ex = false) (dd : decode cc pc = .ok (.invokestatic z, 3)) (hp : pc + 3 = pc') (K : ∀ x w', hz_J p l e (hz_rm d9 m9 s9) s m args below meth c cc nL own ret B tb ini ex Fi Ko pc' L (.int x :: rest) (k + mc) (sl + ms) n w' (KK x w')) : hz_J p l e (hz_rm d9 m9 s9) s m args below meth c cc nL own ret B tb ini ex Fi Ko pc L st0 k sl n w (hz_b F KK) := by
  intro X hx q hq r hr H locs ls hl hH hS
  subst hp
  cases hF : F with
  | none => rw [hF] at hq; cases hq
  | some w1 =>
    rw [hF] at hq
    exact hz_wW (d := d) X h1 h2 h3 h4 h5 (hM w1.1 w1.2 hF) hna hst hrs hR hf dd hl hH hS (fun H1 locs1 h1 h2 => K w1.1 w1.2 X (fun z => by rw [he] at z; cases z) q hq r hr H1 locs1 ls hl h1 h2)
end HZT
