/-! ===== calls, returns, throws, things made ===== -/
abbrev hz_rm (d mc ms : Nat) : Room := { frames := d, cells := mc, slots := ms, locals := 64 * d }
/-- a method that returns: what it is given, what it answers -/
def hz_Met (l : Launch) (B : Bt) (ex : Bool) (n n' : Nat) (y : MethodName) (cb : ByteArray) (mL : Nat) (ret : Option FieldType) (d mc ms : Nat) (av : List Value) (w : MW) (rv : Option Value) (w' : MW) : Prop :=
  Met l y (Cond.code y cb mL ret :: hz_good) (hz_rm d mc ms) (va_Pc av (fun U => hz_Ev B U ∧ hz_Hd B n w U.heap ∧ (ex = true → U.heap.size = B.1 + n))) (fun _ st oc t => oc = .returned rv ∧ hz_Hd B n' w' t.heap ∧ (ex = true → t.heap.size = B.1 + n') ∧ va_F (hz_A B) st t) mc ms (hz_A B)
/-- a method that returns or throws -/
def hz_MetX (l : Launch) (B : Bt) (n : Nat) (y : MethodName) (cb : ByteArray) (mL : Nat) (ret : Option FieldType) (d mc ms : Nat) (av : List Value) (w : MW) (rv : String ⊕ Option Value) (w' : MW) : Prop :=
  vx_Met l y (Cond.code y cb mL ret :: hz_good) (hz_rm d mc ms) (va_Pc av (fun U => hz_Ev B U ∧ hz_Hd B n w U.heap)) (fun _ st oc t => (∃ v, rv = .inr v ∧ oc = .returned v) ∧ hz_Hd B n w' t.heap ∧ va_F (hz_A B) st t) (fun E st t => rv = .inl E ∧ hz_Hd B n w' t.heap ∧ va_F (hz_A B) st t) mc ms (hz_A B)
theorem hz_gd_in {ws : List Cond} (h : ∀ w ∈ ws, w ∈ hz_good) : GoodIn hz_good ws := fun w hw => ⟨h w hw, good_of_word (List.mem_filter.mp (h w hw)).2⟩
def hz_VL (own : String) (z : Nat) (ci : Nat) (y : MethodName) (cb : ByteArray) (mL : Nat) (ret : Option FieldType) (na : Nat) : Prop := ∃ (C : String) (T : u_T) (N : Nat), vwCl[ci]? = some (C, T, N) ∧ ci < 20 ∧ Cond.methodLink own z y ∈ hz_good ∧ Cond.instanceMethod y ∈ hz_good ∧ Cond.selects C y y ∈ hz_good ∧ Cond.initialized C ∈ hz_good ∧ Cond.code y cb mL ret ∈ hz_good ∧ (y.cls = C ∧ y.cls ≠ "java/lang/invoke/MethodHandle" ∧ y.cls ≠ "java/lang/invoke/VarHandle" ∧ (parseMethodDescriptor y.desc).map (fun d => d.parameters.length) = some na)
def hz_SL (own : String) (z : Nat) (y : MethodName) (cb : ByteArray) (mL : Nat) (ret : Option FieldType) (na : Nat) : Prop := Cond.methodLink own z y ∈ hz_good ∧ Cond.static y ∈ hz_good ∧ Cond.initialized y.cls ∈ hz_good ∧ Cond.code y cb mL ret ∈ hz_good ∧ (y.cls ≠ "java/lang/invoke/MethodHandle" ∧ y.cls ≠ "java/lang/invoke/VarHandle" ∧ (parseMethodDescriptor y.desc).map (fun d => d.parameters.length) = some na)
def hz_SNL (own : String) (z : Nat) (y : MethodName) (host : String) (cb : ByteArray) (mL : Nat) (ret : Option FieldType) (na : Nat) : Prop := (own, z, y, host) ∈ hz_nests ∧ Cond.static y ∈ hz_good ∧ Cond.initialized y.cls ∈ hz_good ∧ Cond.code y cb mL ret ∈ hz_good ∧ (y.cls ≠ "java/lang/invoke/MethodHandle" ∧ y.cls ≠ "java/lang/invoke/VarHandle" ∧ (parseMethodDescriptor y.desc).map (fun d => d.parameters.length) = some na)
def hz_IL (own : String) (z : Nat) (y : MethodName) (cb : ByteArray) (mL : Nat) (na : Nat) : Prop := Cond.methodLink own z y ∈ hz_good ∧ Cond.instanceMethod y ∈ hz_good ∧ Cond.initialized y.cls ∈ hz_good ∧ Cond.code y cb mL none ∈ hz_good ∧ y.name = "<init>" ∧ (y.cls ≠ "java/lang/invoke/MethodHandle" ∧ y.cls ≠ "java/lang/invoke/VarHandle" ∧ (parseMethodDescriptor y.desc).map (fun d => d.parameters.length) = some na)
def hz_INL (own : String) (z : Nat) (y : MethodName) (host : String) (cb : ByteArray) (mL : Nat) (na : Nat) : Prop := (own, z, y, host) ∈ hz_nests ∧ Cond.instanceMethod y ∈ hz_good ∧ Cond.initialized y.cls ∈ hz_good ∧ Cond.code y cb mL none ∈ hz_good ∧ y.name = "<init>" ∧ (y.cls ≠ "java/lang/invoke/MethodHandle" ∧ y.cls ≠ "java/lang/invoke/VarHandle" ∧ (parseMethodDescriptor y.desc).map (fun d => d.parameters.length) = some na)
def hz_CL (own : String) (z ci : Nat) : Prop := ∃ (C : String) (T : u_T) (N : Nat) (ty : Nat → FieldType), vwCl[ci]? = some (C, T, N) ∧ hz_nf ci = N ∧ ci < 20 ∧ (∀ w ∈ u_ws C T N, w ∈ hz_good) ∧ (∀ k, k < N → parseFieldDescriptor (T k).2.2.1 = some (ty k)) ∧ Cond.classLink own z C ∈ hz_good ∧ Cond.instantiable C N ∈ hz_good ∧ Cond.initialized C ∈ hz_good ∧ (∀ k, k < N → defaultValue (ty k) = bif hz_isP ci k then .null else .int 0)
theorem hz_blind {B : Bt} {n : Nat} {w : MW} {av : List Value} {ex : Bool} : FrameBlind (va_Pc av (fun U => hz_Ev B U ∧ hz_Hd B n w U.heap ∧ (ex = true → U.heap.size = B.1 + n))) := fun a U g mk h => ⟨h.1, hz_Ev.next (locs := []) h.2.1 ⟨Nat.le_refl _, fun _ _ _ => rfl, fun _ z => nomatch z⟩ rfl (State.WarmedH.refl U), h.2.2.1, h.2.2.2⟩
theorem hz_blindX {B : Bt} {n : Nat} {w : MW} {av : List Value} : FrameBlind (va_Pc av (fun U => hz_Ev B U ∧ hz_Hd B n w U.heap)) := fun a U g mk h => ⟨h.1, hz_Ev.next (locs := []) h.2.1 ⟨Nat.le_refl _, fun _ _ _ => rfl, fun _ z => nomatch z⟩ rfl (State.WarmedH.refl U), h.2.2⟩
section HZC
variable {p : Program} {l : Launch} {e : Env} {d9 m9 s9 : Nat} {s : State} {m : MethodId} {args : Array Value} {below : List Frame} {meth : Method} {c : Code} {cc : ByteArray} {nL : Nat} {own : String} {ret : Option FieldType} {B : Bt} {tb : List ExceptionTableEntry} {ini ex : Bool} {σ ρ : Type} {Fi : ρ → State → Prop} {Ko : σ → Option ρ} {pc pc' : Nat} {L : List (Nat × Value)} {st : List Value} {k sl n : Nat} {w : MW} {comp : Option σ}
theorem hz_sized {R : Room} {H : Heap} {locs : List Loc} {Q : State → Prop} {g : JFrame} (h : H.size ≤ s.heap.size + k → W p l e R s m args below meth c H locs k sl Q g) : W p l e R s m args below meth c H locs k sl Q g :=
  fun T hT X => h (by rw [← hT]; exact X.same.2.2.1) T hT X
/-- behind a call -/
theorem hz_after {R : Room} {H : Heap} {locs : List Loc} {Q : State → Prop} {ls : Array Slot} {rest st0 : List Value} {mc ms n' : Nat} {rv : Option Value} {w' : MW} (hS : va_S (hz_A B) s.heap H locs) (hx : ex = true → H.size = B.1 + n)
    (hr : va_Run p l e R s m args below meth c H locs k sl mc ms (F0 m pc ls st0) rest (fun st oc t => oc = .returned rv ∧ hz_Hd B n' w' t.heap ∧ (ex = true → t.heap.size = B.1 + n') ∧ va_F (hz_A B) st t) (hz_A B))
    (kk : ∀ (H1 : Heap) (locs1 : List Loc), hz_Hd B n' w' H1 → va_S (hz_A B) s.heap H1 locs1 → (ex = true → H1.size = B.1 + n') → W p l e R s m args below meth c H1 locs1 (k + mc) (sl + ms) Q (F0 m (pc + 3) ls (rv.toList ++ rest))) : W p l e R s m args below meth c H locs k sl Q (F0 m pc ls st0) := by
  intro T hT X
  obtain ⟨v, st₀, t, T', L, h0, X', hL, e1, e2, ⟨hv, hd, hsz, hz, hk⟩, go⟩ := hr T hT X
  cases hv
  rw [h0] at hz hk
  obtain ⟨t2, a1, b1⟩ := kk T'.heap (locs ++ L) (by rw [e1]; exact hd) ⟨Nat.le_trans hS.1 (by rw [e1]; exact hz), fun q h1 h2 => by rw [e1, hk q (Nat.lt_of_lt_of_le h1 hS.1) h2]; exact hS.2.1 q h1 h2, fun q hq => by
      rcases List.mem_append.mp hq with h | h
      · exact hS.2.2 q h
      · exact hL q h⟩ (fun z => by rw [e1]; exact hsz z) T' rfl X'
  exact ⟨t2, go t2 a1, b1⟩
theorem hz_wV {R : Room} {H : Heap} {locs : List Loc} {Q : State → Prop} {ls : Array Slot} {rest st0 av : List Value} {z ci mL d mc ms na b n' : Nat} {y : MethodName} {cb : ByteArray} {rt : Option FieldType} {rv : Option Value} {w' : MW} (X : hz_Cx p l s m args meth c cc nL own ret B tb ini) (F : hz_VL own z ci y cb mL rt na) (hM : hz_Met l B false n n' y cb mL rt d mc ms (.ref (B.1 + b) :: av) w rv w') (hg : hz_g n b ci = true) (hna : av.length = na) (hst : st0 = av.reverse ++ .ref (B.1 + b) :: rest) (hrs : (rest.map fun v => v.category).sum ≤ 8) (hR : d + 1 ≤ R.frames ∧ 8 + (mL + 11) + 64 * d ≤ R.locals) (hf : k + mc ≤ R.cells ∧ sl + ms ≤ R.slots) (dd : decode cc pc = .ok (.invokevirtual z, 3))
    (hl : lv_has ls nL L) (hH : hz_Hd B n w H) (hS : va_S (hz_A B) s.heap H locs) (kk : ∀ (H1 : Heap) (locs1 : List Loc), hz_Hd B n' w' H1 → va_S (hz_A B) s.heap H1 locs1 → W p l e R s m args below meth c H1 locs1 (k + mc) (sl + ms) Q (F0 m (pc + 3) ls (rv.toList ++ rest))) : W p l e R s m args below meth c H locs k sl Q (F0 m pc ls st0) := by
  obtain ⟨C, T, N, f1, f2, f3, f4, f5, f6, f7, f8⟩ := F
  have hG : GoodIn hz_good (wsV own z C y (Cond.code y cb mL rt :: hz_good)) := hz_gd_in (fun w hw => by
    rcases List.mem_append.mp hw with h | h
    · simp only [List.mem_cons, List.not_mem_nil, or_false] at h
      rcases h with rfl | rfl | rfl | rfl <;> assumption
    · rcases List.mem_cons.mp h with rfl | h
      · exact f7
      · exact h)
  refine hz_after (ex := false) (n := n) hS (fun z => nomatch z) (va_runV (As := av) (rest := rest) X.1 hM (cwV na X.1.2.2.2.2 hG rfl rfl rfl f8 hR) ⟨hz_blind, ?_, fun U hU hW => ⟨rfl, X.2.1.next hS hU hW, by rw [hU]; exact hH, fun z => nomatch z⟩⟩ rfl hna (hl.1) hst (lv_room hrs) dd hf) (fun H1 locs1 h1 h2 _ => kk H1 locs1 h1 h2)
  exact va_recv X.2.1.2.1 hH.2 f1 (hz_at_o hg f2)
theorem hz_wS {R : Room} {H : Heap} {locs : List Loc} {Q : State → Prop} {ls : Array Slot} {rest st0 av : List Value} {z mL d mc ms na n' : Nat} {y : MethodName} {cb : ByteArray} {rt : Option FieldType} {rv : Option Value} {w' : MW} (X : hz_Cx p l s m args meth c cc nL own ret B tb ini) (F : hz_SL own z y cb mL rt na) (hM : hz_Met l B false n n' y cb mL rt d mc ms av w rv w') (hna : av.length = na) (hst : st0 = av.reverse ++ rest) (hrs : (rest.map fun v => v.category).sum ≤ 8) (hR : d + 1 ≤ R.frames ∧ 8 + (mL + 11) + 64 * d ≤ R.locals) (hf : k + mc ≤ R.cells ∧ sl + ms ≤ R.slots) (dd : decode cc pc = .ok (.invokestatic z, 3))
    (hl : lv_has ls nL L) (hH : hz_Hd B n w H) (hS : va_S (hz_A B) s.heap H locs) (kk : ∀ (H1 : Heap) (locs1 : List Loc), hz_Hd B n' w' H1 → va_S (hz_A B) s.heap H1 locs1 → W p l e R s m args below meth c H1 locs1 (k + mc) (sl + ms) Q (F0 m (pc + 3) ls (rv.toList ++ rest))) : W p l e R s m args below meth c H locs k sl Q (F0 m pc ls st0) := by
  obtain ⟨f3, f4, f6, f7, f8⟩ := F
  have hG : GoodIn hz_good (Cond.code y cb mL rt :: hz_good) := hz_gd_in (fun w hw => by
    rcases List.mem_cons.mp hw with rfl | h
    · exact f7
    · exact h)
  exact hz_after (ex := false) (n := n) hS (fun z => nomatch z) (va_runS (As := av) (rest := rest) X.1 hM ⟨callB_of na X.1.2.2.2.2 hG rfl rfl rfl (X.1.2.2.2.2 _ f6) (X.1.2.2.2.2 _ f3) f8 hR, X.1.2.2.2.2 _ f4⟩ ⟨hz_blind, fun U hU hW => ⟨rfl, X.2.1.next hS hU hW, by rw [hU]; exact hH, fun z => nomatch z⟩⟩ rfl hna (hl.1) hst (lv_room hrs) dd hf) (fun H1 locs1 h1 h2 _ => kk H1 locs1 h1 h2)
theorem hz_wSN {R : Room} {H : Heap} {locs : List Loc} {Q : State → Prop} {ls : Array Slot} {rest st0 av : List Value} {z mL d mc ms na n' : Nat} {y : MethodName} {host : String} {cb : ByteArray} {rt : Option FieldType} {rv : Option Value} {w' : MW} (X : hz_Cx p l s m args meth c cc nL own ret B tb ini) (F : hz_SNL own z y host cb mL rt na) (hM : hz_Met l B false n n' y cb mL rt d mc ms av w rv w') (hna : av.length = na) (hst : st0 = av.reverse ++ rest) (hrs : (rest.map fun v => v.category).sum ≤ 8) (hR : d + 1 ≤ R.frames ∧ 8 + (mL + 11) + 64 * d ≤ R.locals) (hf : k + mc ≤ R.cells ∧ sl + ms ≤ R.slots) (dd : decode cc pc = .ok (.invokestatic z, 3))
    (hl : lv_has ls nL L) (hH : hz_Hd B n w H) (hS : va_S (hz_A B) s.heap H locs) (kk : ∀ (H1 : Heap) (locs1 : List Loc), hz_Hd B n' w' H1 → va_S (hz_A B) s.heap H1 locs1 → W p l e R s m args below meth c H1 locs1 (k + mc) (sl + ms) Q (F0 m (pc + 3) ls (rv.toList ++ rest))) : W p l e R s m args below meth c H locs k sl Q (F0 m pc ls st0) := by
  obtain ⟨f3, f4, f6, f7, f8⟩ := F
  have hG : GoodIn hz_good (Cond.code y cb mL rt :: hz_good) := hz_gd_in (fun w hw => by
    rcases List.mem_cons.mp hw with rfl | h
    · exact f7
    · exact h)
  exact hz_after (ex := false) (n := n) hS (fun z => nomatch z) (va_runSN (host := host) (As := av) (rest := rest) X.1 hM ⟨va_cnB na X.1.2.2.2.2 hG rfl rfl rfl (X.2.1.2.2.1 _ f3) (X.1.2.2.2.2 _ f6) f8 hR, X.1.2.2.2.2 _ f4, trivial⟩ ⟨hz_blind, fun U hU hW => ⟨rfl, X.2.1.next hS hU hW, by rw [hU]; exact hH, fun z => nomatch z⟩⟩ rfl hna (hl.1) hst (lv_room hrs) dd hf) (fun H1 locs1 h1 h2 _ => kk H1 locs1 h1 h2)
theorem hz_wI {R : Room} {H : Heap} {locs : List Loc} {Q : State → Prop} {ls : Array Slot} {rest st0 av : List Value} {z mL d mc ms na b n' : Nat} {y : MethodName} {cb : ByteArray} {w' : MW} (X : hz_Cx p l s m args meth c cc nL own ret B tb ini) (F : hz_IL own z y cb mL na) (hM : hz_Met l B true n n' y cb mL none d mc ms (.ref (B.1 + b) :: av) w none w') (hna : av.length = na) (hst : st0 = av.reverse ++ .ref (B.1 + b) :: rest) (hrs : (rest.map fun v => v.category).sum ≤ 8) (hR : d + 1 ≤ R.frames ∧ 8 + (mL + 11) + 64 * d ≤ R.locals) (hf : k + mc ≤ R.cells ∧ sl + ms ≤ R.slots) (dd : decode cc pc = .ok (.invokespecial z, 3))
    (hl : lv_has ls nL L) (hH : hz_Hd B n w H) (hS : va_S (hz_A B) s.heap H locs) (hsz : H.size = B.1 + n) (kk : ∀ (H1 : Heap) (locs1 : List Loc), hz_Hd B n' w' H1 → va_S (hz_A B) s.heap H1 locs1 → W p l e R s m args below meth c H1 locs1 (k + mc) (sl + ms) Q (F0 m (pc + 3) ls rest)) : W p l e R s m args below meth c H locs k sl Q (F0 m pc ls st0) := by
  obtain ⟨f3, f4, f6, f7, f9, f8⟩ := F
  have hG : GoodIn hz_good (Cond.code y cb mL none :: hz_good) := hz_gd_in (fun w hw => by
    rcases List.mem_cons.mp hw with rfl | h
    · exact f7
    · exact h)
  exact hz_after (ex := true) (n := n) hS (fun _ => hsz) (va_runI (As := av) (rest := rest) X.1 hM ⟨callB_of na X.1.2.2.2.2 hG rfl rfl rfl (X.1.2.2.2.2 _ f6) (X.1.2.2.2.2 _ f3) f8 hR, f9, X.1.2.2.2.2 _ f4⟩ ⟨hz_blind, fun U hU hW => ⟨rfl, X.2.1.next hS hU hW, by rw [hU]; exact hH, fun _ => by rw [hU]; exact hsz⟩⟩ rfl hna (hl.1) hst (lv_room hrs) dd hf) (fun H1 locs1 h1 h2 _ => kk H1 locs1 h1 h2)
theorem hz_wIN {R : Room} {H : Heap} {locs : List Loc} {Q : State → Prop} {ls : Array Slot} {rest st0 av : List Value} {z mL d mc ms na b n' : Nat} {y : MethodName} {host : String} {cb : ByteArray} {w' : MW} (X : hz_Cx p l s m args meth c cc nL own ret B tb ini) (F : hz_INL own z y host cb mL na) (hM : hz_Met l B true n n' y cb mL none d mc ms (.ref (B.1 + b) :: av) w none w') (hna : av.length = na) (hst : st0 = av.reverse ++ .ref (B.1 + b) :: rest) (hrs : (rest.map fun v => v.category).sum ≤ 8) (hR : d + 1 ≤ R.frames ∧ 8 + (mL + 11) + 64 * d ≤ R.locals) (hf : k + mc ≤ R.cells ∧ sl + ms ≤ R.slots) (dd : decode cc pc = .ok (.invokespecial z, 3))
    (hl : lv_has ls nL L) (hH : hz_Hd B n w H) (hS : va_S (hz_A B) s.heap H locs) (hsz : H.size = B.1 + n) (kk : ∀ (H1 : Heap) (locs1 : List Loc), hz_Hd B n' w' H1 → va_S (hz_A B) s.heap H1 locs1 → W p l e R s m args below meth c H1 locs1 (k + mc) (sl + ms) Q (F0 m (pc + 3) ls rest)) : W p l e R s m args below meth c H locs k sl Q (F0 m pc ls st0) := by
  obtain ⟨f3, f4, f6, f7, f9, f8⟩ := F
  have hG : GoodIn hz_good (Cond.code y cb mL none :: hz_good) := hz_gd_in (fun w hw => by
    rcases List.mem_cons.mp hw with rfl | h
    · exact f7
    · exact h)
  exact hz_after (ex := true) (n := n) hS (fun _ => hsz) (va_runIN (host := host) (As := av) (rest := rest) X.1 hM ⟨va_cnB na X.1.2.2.2.2 hG rfl rfl rfl (X.2.1.2.2.1 _ f3) (X.1.2.2.2.2 _ f6) f8 hR, f9, X.1.2.2.2.2 _ f4⟩ ⟨hz_blind, fun U hU hW => ⟨rfl, X.2.1.next hS hU hW, by rw [hU]; exact hH, fun _ => by rw [hU]; exact hsz⟩⟩ rfl hna (hl.1) hst (lv_room hrs) dd hf) (fun H1 locs1 h1 h2 _ => kk H1 locs1 h1 h2)
theorem hz_cVi {z mL d mc ms na : Nat} {ci b : Nat} {y : MethodName} {cb : ByteArray} {rt : Option FieldType} {av rest st0 : List Value} {F : Option (Int32 × MW)} {KK : Int32 → MW → Option σ} (FL : hz_VL own z ci y cb mL rt na) (hM : ∀ x w', F = some (x, w') → hz_Met l B false n n y cb mL rt d mc ms (.ref (B.1 + b) :: av) w (some (.int x)) w') (hg : hz_g n b ci = true) (hna : av.length = na) (hst : st0 = av.reverse ++ .ref (B.1 + b) :: rest) (hrs : (rest.map fun v => v.category).sum ≤ 8) (hR : d + 1 ≤ d9 ∧ 8 + (mL + 11) + 64 * d ≤ 64 * d9) (hf : k + mc ≤ m9 ∧ sl + ms ≤ s9) (he : ex = false) (dd : decode cc pc = .ok (.invokevirtual z, 3)) (hp : pc + 3 = pc') (K : ∀ x w', hz_J p l e (hz_rm d9 m9 s9) s m args below meth c cc nL own ret B tb ini ex Fi Ko pc' L (.int x :: rest) (k + mc) (sl + ms) n w' (KK x w')) : hz_J p l e (hz_rm d9 m9 s9) s m args below meth c cc nL own ret B tb ini ex Fi Ko pc L st0 k sl n w (hz_b F KK) := by
  intro X hx q hq r hr H locs ls hl hH hS
  subst hp
  cases hF : F with
  | none => rw [hF] at hq; cases hq
  | some w1 =>
    rw [hF] at hq
    exact hz_wV (d := d) X FL (hM w1.1 w1.2 hF) hg hna hst hrs hR hf dd hl hH hS (fun H1 locs1 h1 h2 => K w1.1 w1.2 X (fun z => by rw [he] at z; cases z) q hq r hr H1 locs1 ls hl h1 h2)
theorem hz_cVl {z mL d mc ms na : Nat} {ci b : Nat} {y : MethodName} {cb : ByteArray} {rt : Option FieldType} {av rest st0 : List Value} {F : Option (Int64 × MW)} {KK : Int64 → MW → Option σ} (FL : hz_VL own z ci y cb mL rt na) (hM : ∀ x w', F = some (x, w') → hz_Met l B false n n y cb mL rt d mc ms (.ref (B.1 + b) :: av) w (some (.long x)) w') (hg : hz_g n b ci = true) (hna : av.length = na) (hst : st0 = av.reverse ++ .ref (B.1 + b) :: rest) (hrs : (rest.map fun v => v.category).sum ≤ 8) (hR : d + 1 ≤ d9 ∧ 8 + (mL + 11) + 64 * d ≤ 64 * d9) (hf : k + mc ≤ m9 ∧ sl + ms ≤ s9) (he : ex = false) (dd : decode cc pc = .ok (.invokevirtual z, 3)) (hp : pc + 3 = pc') (K : ∀ x w', hz_J p l e (hz_rm d9 m9 s9) s m args below meth c cc nL own ret B tb ini ex Fi Ko pc' L (.long x :: rest) (k + mc) (sl + ms) n w' (KK x w')) : hz_J p l e (hz_rm d9 m9 s9) s m args below meth c cc nL own ret B tb ini ex Fi Ko pc L st0 k sl n w (hz_b F KK) := by
  intro X hx q hq r hr H locs ls hl hH hS
  subst hp
  cases hF : F with
  | none => rw [hF] at hq; cases hq
  | some w1 =>
    rw [hF] at hq
    exact hz_wV (d := d) X FL (hM w1.1 w1.2 hF) hg hna hst hrs hR hf dd hl hH hS (fun H1 locs1 h1 h2 => K w1.1 w1.2 X (fun z => by rw [he] at z; cases z) q hq r hr H1 locs1 ls hl h1 h2)
theorem hz_cVv {z mL d mc ms na : Nat} {ci b : Nat} {y : MethodName} {cb : ByteArray} {rt : Option FieldType} {av rest st0 : List Value} {F : Option MW} {KK : MW → Option σ} (FL : hz_VL own z ci y cb mL rt na) (hM : ∀ w', F = some w' → hz_Met l B false n n y cb mL rt d mc ms (.ref (B.1 + b) :: av) w none w') (hg : hz_g n b ci = true) (hna : av.length = na) (hst : st0 = av.reverse ++ .ref (B.1 + b) :: rest) (hrs : (rest.map fun v => v.category).sum ≤ 8) (hR : d + 1 ≤ d9 ∧ 8 + (mL + 11) + 64 * d ≤ 64 * d9) (hf : k + mc ≤ m9 ∧ sl + ms ≤ s9) (he : ex = false) (dd : decode cc pc = .ok (.invokevirtual z, 3)) (hp : pc + 3 = pc') (K : ∀ w', hz_J p l e (hz_rm d9 m9 s9) s m args below meth c cc nL own ret B tb ini ex Fi Ko pc' L rest (k + mc) (sl + ms) n w' (KK w')) : hz_J p l e (hz_rm d9 m9 s9) s m args below meth c cc nL own ret B tb ini ex Fi Ko pc L st0 k sl n w (hz_bv F KK) := by
  intro X hx q hq r hr H locs ls hl hH hS
  subst hp
  cases hF : F with
  | none => rw [hF] at hq; cases hq
  | some w1 =>
    rw [hF] at hq
    exact hz_wV (d := d) X FL (hM w1 hF) hg hna hst hrs hR hf dd hl hH hS (fun H1 locs1 h1 h2 => K w1 X (fun z => by rw [he] at z; cases z) q hq r hr H1 locs1 ls hl h1 h2)
theorem hz_cSi {z mL d mc ms na : Nat} {y : MethodName} {cb : ByteArray} {rt : Option FieldType} {av rest st0 : List Value} {F : Option (Int32 × MW)} {KK : Int32 → MW → Option σ} (FL : hz_SL own z y cb mL rt na) (hM : ∀ x w', F = some (x, w') → hz_Met l B false n n y cb mL rt d mc ms (av) w (some (.int x)) w') (hna : av.length = na) (hst : st0 = av.reverse ++ rest) (hrs : (rest.map fun v => v.category).sum ≤ 8) (hR : d + 1 ≤ d9 ∧ 8 + (mL + 11) + 64 * d ≤ 64 * d9) (hf : k + mc ≤ m9 ∧ sl + ms ≤ s9) (he : ex = false) (dd : decode cc pc = .ok (.invokestatic z, 3)) (hp : pc + 3 = pc') (K : ∀ x w', hz_J p l e (hz_rm d9 m9 s9) s m args below meth c cc nL own ret B tb ini ex Fi Ko pc' L (.int x :: rest) (k + mc) (sl + ms) n w' (KK x w')) : hz_J p l e (hz_rm d9 m9 s9) s m args below meth c cc nL own ret B tb ini ex Fi Ko pc L st0 k sl n w (hz_b F KK) := by
  intro X hx q hq r hr H locs ls hl hH hS
  subst hp
  cases hF : F with
  | none => rw [hF] at hq; cases hq
  | some w1 =>
    rw [hF] at hq
    exact hz_wS (d := d) X FL (hM w1.1 w1.2 hF) hna hst hrs hR hf dd hl hH hS (fun H1 locs1 h1 h2 => K w1.1 w1.2 X (fun z => by rw [he] at z; cases z) q hq r hr H1 locs1 ls hl h1 h2)
theorem hz_cSl {z mL d mc ms na : Nat} {y : MethodName} {cb : ByteArray} {rt : Option FieldType} {av rest st0 : List Value} {F : Option (Int64 × MW)} {KK : Int64 → MW → Option σ} (FL : hz_SL own z y cb mL rt na) (hM : ∀ x w', F = some (x, w') → hz_Met l B false n n y cb mL rt d mc ms (av) w (some (.long x)) w') (hna : av.length = na) (hst : st0 = av.reverse ++ rest) (hrs : (rest.map fun v => v.category).sum ≤ 8) (hR : d + 1 ≤ d9 ∧ 8 + (mL + 11) + 64 * d ≤ 64 * d9) (hf : k + mc ≤ m9 ∧ sl + ms ≤ s9) (he : ex = false) (dd : decode cc pc = .ok (.invokestatic z, 3)) (hp : pc + 3 = pc') (K : ∀ x w', hz_J p l e (hz_rm d9 m9 s9) s m args below meth c cc nL own ret B tb ini ex Fi Ko pc' L (.long x :: rest) (k + mc) (sl + ms) n w' (KK x w')) : hz_J p l e (hz_rm d9 m9 s9) s m args below meth c cc nL own ret B tb ini ex Fi Ko pc L st0 k sl n w (hz_b F KK) := by
  intro X hx q hq r hr H locs ls hl hH hS
  subst hp
  cases hF : F with
  | none => rw [hF] at hq; cases hq
  | some w1 =>
    rw [hF] at hq
    exact hz_wS (d := d) X FL (hM w1.1 w1.2 hF) hna hst hrs hR hf dd hl hH hS (fun H1 locs1 h1 h2 => K w1.1 w1.2 X (fun z => by rw [he] at z; cases z) q hq r hr H1 locs1 ls hl h1 h2)
theorem hz_cSv {z mL d mc ms na : Nat} {y : MethodName} {cb : ByteArray} {rt : Option FieldType} {av rest st0 : List Value} {F : Option MW} {KK : MW → Option σ} (FL : hz_SL own z y cb mL rt na) (hM : ∀ w', F = some w' → hz_Met l B false n n y cb mL rt d mc ms (av) w none w') (hna : av.length = na) (hst : st0 = av.reverse ++ rest) (hrs : (rest.map fun v => v.category).sum ≤ 8) (hR : d + 1 ≤ d9 ∧ 8 + (mL + 11) + 64 * d ≤ 64 * d9) (hf : k + mc ≤ m9 ∧ sl + ms ≤ s9) (he : ex = false) (dd : decode cc pc = .ok (.invokestatic z, 3)) (hp : pc + 3 = pc') (K : ∀ w', hz_J p l e (hz_rm d9 m9 s9) s m args below meth c cc nL own ret B tb ini ex Fi Ko pc' L rest (k + mc) (sl + ms) n w' (KK w')) : hz_J p l e (hz_rm d9 m9 s9) s m args below meth c cc nL own ret B tb ini ex Fi Ko pc L st0 k sl n w (hz_bv F KK) := by
  intro X hx q hq r hr H locs ls hl hH hS
  subst hp
  cases hF : F with
  | none => rw [hF] at hq; cases hq
  | some w1 =>
    rw [hF] at hq
    exact hz_wS (d := d) X FL (hM w1 hF) hna hst hrs hR hf dd hl hH hS (fun H1 locs1 h1 h2 => K w1 X (fun z => by rw [he] at z; cases z) q hq r hr H1 locs1 ls hl h1 h2)
theorem hz_cSNi {z mL d mc ms na : Nat} {host : String} {y : MethodName} {cb : ByteArray} {rt : Option FieldType} {av rest st0 : List Value} {F : Option (Int32 × MW)} {KK : Int32 → MW → Option σ} (FL : hz_SNL own z y host cb mL rt na) (hM : ∀ x w', F = some (x, w') → hz_Met l B false n n y cb mL rt d mc ms (av) w (some (.int x)) w') (hna : av.length = na) (hst : st0 = av.reverse ++ rest) (hrs : (rest.map fun v => v.category).sum ≤ 8) (hR : d + 1 ≤ d9 ∧ 8 + (mL + 11) + 64 * d ≤ 64 * d9) (hf : k + mc ≤ m9 ∧ sl + ms ≤ s9) (he : ex = false) (dd : decode cc pc = .ok (.invokestatic z, 3)) (hp : pc + 3 = pc') (K : ∀ x w', hz_J p l e (hz_rm d9 m9 s9) s m args below meth c cc nL own ret B tb ini ex Fi Ko pc' L (.int x :: rest) (k + mc) (sl + ms) n w' (KK x w')) : hz_J p l e (hz_rm d9 m9 s9) s m args below meth c cc nL own ret B tb ini ex Fi Ko pc L st0 k sl n w (hz_b F KK) := by
  intro X hx q hq r hr H locs ls hl hH hS
  subst hp
  cases hF : F with
  | none => rw [hF] at hq; cases hq
  | some w1 =>
    rw [hF] at hq
    exact hz_wSN (d := d) X FL (hM w1.1 w1.2 hF) hna hst hrs hR hf dd hl hH hS (fun H1 locs1 h1 h2 => K w1.1 w1.2 X (fun z => by rw [he] at z; cases z) q hq r hr H1 locs1 ls hl h1 h2)
theorem hz_cSNl {z mL d mc ms na : Nat} {host : String} {y : MethodName} {cb : ByteArray} {rt : Option FieldType} {av rest st0 : List Value} {F : Option (Int64 × MW)} {KK : Int64 → MW → Option σ} (FL : hz_SNL own z y host cb mL rt na) (hM : ∀ x w', F = some (x, w') → hz_Met l B false n n y cb mL rt d mc ms (av) w (some (.long x)) w') (hna : av.length = na) (hst : st0 = av.reverse ++ rest) (hrs : (rest.map fun v => v.category).sum ≤ 8) (hR : d + 1 ≤ d9 ∧ 8 + (mL + 11) + 64 * d ≤ 64 * d9) (hf : k + mc ≤ m9 ∧ sl + ms ≤ s9) (he : ex = false) (dd : decode cc pc = .ok (.invokestatic z, 3)) (hp : pc + 3 = pc') (K : ∀ x w', hz_J p l e (hz_rm d9 m9 s9) s m args below meth c cc nL own ret B tb ini ex Fi Ko pc' L (.long x :: rest) (k + mc) (sl + ms) n w' (KK x w')) : hz_J p l e (hz_rm d9 m9 s9) s m args below meth c cc nL own ret B tb ini ex Fi Ko pc L st0 k sl n w (hz_b F KK) := by
  intro X hx q hq r hr H locs ls hl hH hS
  subst hp
  cases hF : F with
  | none => rw [hF] at hq; cases hq
  | some w1 =>
    rw [hF] at hq
    exact hz_wSN (d := d) X FL (hM w1.1 w1.2 hF) hna hst hrs hR hf dd hl hH hS (fun H1 locs1 h1 h2 => K w1.1 w1.2 X (fun z => by rw [he] at z; cases z) q hq r hr H1 locs1 ls hl h1 h2)
theorem hz_cSNv {z mL d mc ms na : Nat} {host : String} {y : MethodName} {cb : ByteArray} {rt : Option FieldType} {av rest st0 : List Value} {F : Option MW} {KK : MW → Option σ} (FL : hz_SNL own z y host cb mL rt na) (hM : ∀ w', F = some w' → hz_Met l B false n n y cb mL rt d mc ms (av) w none w') (hna : av.length = na) (hst : st0 = av.reverse ++ rest) (hrs : (rest.map fun v => v.category).sum ≤ 8) (hR : d + 1 ≤ d9 ∧ 8 + (mL + 11) + 64 * d ≤ 64 * d9) (hf : k + mc ≤ m9 ∧ sl + ms ≤ s9) (he : ex = false) (dd : decode cc pc = .ok (.invokestatic z, 3)) (hp : pc + 3 = pc') (K : ∀ w', hz_J p l e (hz_rm d9 m9 s9) s m args below meth c cc nL own ret B tb ini ex Fi Ko pc' L rest (k + mc) (sl + ms) n w' (KK w')) : hz_J p l e (hz_rm d9 m9 s9) s m args below meth c cc nL own ret B tb ini ex Fi Ko pc L st0 k sl n w (hz_bv F KK) := by
  intro X hx q hq r hr H locs ls hl hH hS
  subst hp
  cases hF : F with
  | none => rw [hF] at hq; cases hq
  | some w1 =>
    rw [hF] at hq
    exact hz_wSN (d := d) X FL (hM w1 hF) hna hst hrs hR hf dd hl hH hS (fun H1 locs1 h1 h2 => K w1 X (fun z => by rw [he] at z; cases z) q hq r hr H1 locs1 ls hl h1 h2)
theorem hz_cI {z mL d mc ms na b n' : Nat} {y : MethodName} {cb : ByteArray} {av rest st0 : List Value} {F : Option MW} {KK : MW → Option σ} (FL : hz_IL own z y cb mL na) (hM : ∀ w', F = some w' → hz_Met l B true n n' y cb mL none d mc ms (.ref (B.1 + b) :: av) w none w') (hna : av.length = na) (hst : st0 = av.reverse ++ .ref (B.1 + b) :: rest) (hrs : (rest.map fun v => v.category).sum ≤ 8) (hR : d + 1 ≤ d9 ∧ 8 + (mL + 11) + 64 * d ≤ 64 * d9) (hf : k + mc ≤ m9 ∧ sl + ms ≤ s9) (he : ex = true) (hn : n + mc = n') (dd : decode cc pc = .ok (.invokespecial z, 3)) (hp : pc + 3 = pc') (K : ∀ w', hz_J p l e (hz_rm d9 m9 s9) s m args below meth c cc nL own ret B tb ini ex Fi Ko pc' L rest (k + mc) (sl + ms) n' w' (KK w')) : hz_J p l e (hz_rm d9 m9 s9) s m args below meth c cc nL own ret B tb ini ex Fi Ko pc L st0 k sl n w (hz_bv F KK) := by
  intro X hx q hq r hr H locs ls hl hH hS
  subst hp
  cases hF : F with
  | none => rw [hF] at hq; cases hq
  | some w1 =>
    rw [hF] at hq
    refine hz_sized (fun hz => ?_)
    have h0 := hx he
    have h9 := hH.1
    exact hz_wI (d := d) X FL (hM w1 hF) hna hst hrs hR hf dd hl hH hS (by omega) (fun H1 locs1 h1 h2 => K w1 X (fun _ => by omega) q hq r hr H1 locs1 ls hl h1 h2)
theorem hz_cIN {z mL d mc ms na b n' : Nat} {host : String} {y : MethodName} {cb : ByteArray} {av rest st0 : List Value} {F : Option MW} {KK : MW → Option σ} (FL : hz_INL own z y host cb mL na) (hM : ∀ w', F = some w' → hz_Met l B true n n' y cb mL none d mc ms (.ref (B.1 + b) :: av) w none w') (hna : av.length = na) (hst : st0 = av.reverse ++ .ref (B.1 + b) :: rest) (hrs : (rest.map fun v => v.category).sum ≤ 8) (hR : d + 1 ≤ d9 ∧ 8 + (mL + 11) + 64 * d ≤ 64 * d9) (hf : k + mc ≤ m9 ∧ sl + ms ≤ s9) (he : ex = true) (hn : n + mc = n') (dd : decode cc pc = .ok (.invokespecial z, 3)) (hp : pc + 3 = pc') (K : ∀ w', hz_J p l e (hz_rm d9 m9 s9) s m args below meth c cc nL own ret B tb ini ex Fi Ko pc' L rest (k + mc) (sl + ms) n' w' (KK w')) : hz_J p l e (hz_rm d9 m9 s9) s m args below meth c cc nL own ret B tb ini ex Fi Ko pc L st0 k sl n w (hz_bv F KK) := by
  intro X hx q hq r hr H locs ls hl hH hS
  subst hp
  cases hF : F with
  | none => rw [hF] at hq; cases hq
  | some w1 =>
    rw [hF] at hq
    refine hz_sized (fun hz => ?_)
    have h0 := hx he
    have h9 := hH.1
    exact hz_wIN (d := d) X FL (hM w1 hF) hna hst hrs hR hf dd hl hH hS (by omega) (fun H1 locs1 h1 h2 => K w1 X (fun _ => by omega) q hq r hr H1 locs1 ls hl h1 h2)
end HZC
