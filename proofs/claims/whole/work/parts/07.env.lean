/-! ===== what a method knows at its start, and the judgement J ===== -/
def hz_nests : List (String × Nat × MethodName × String) := [("ThermalCoreScheduler", (9 : Nat), ({ cls := "ThermalCoreScheduler$Text", name := "<init>", desc := "()V" } : Jvm.MethodName), "ThermalCoreScheduler"), ("ThermalCoreScheduler$TextParser", (11 : Nat), ({ cls := "ThermalCoreScheduler$Setup", name := "<init>", desc := "()V" } : Jvm.MethodName), "ThermalCoreScheduler"), ("ThermalCoreScheduler", (27 : Nat), ({ cls := "ThermalCoreScheduler$Setup", name := "<init>", desc := "()V" } : Jvm.MethodName), "ThermalCoreScheduler"), ("ThermalCoreScheduler$State", (11 : Nat), ({ cls := "ThermalCoreScheduler$JobTable", name := "<init>", desc := "()V" } : Jvm.MethodName), "ThermalCoreScheduler"), ("ThermalCoreScheduler", (53 : Nat), ({ cls := "ThermalCoreScheduler$WakeUpPlan", name := "<init>", desc := "()V" } : Jvm.MethodName), "ThermalCoreScheduler"), ("ThermalCoreScheduler", (60 : Nat), ({ cls := "ThermalCoreScheduler$TickMixer", name := "<init>", desc := "()V" } : Jvm.MethodName), "ThermalCoreScheduler"), ("ThermalCoreScheduler$Setup", (52 : Nat), ({ cls := "ThermalCoreScheduler", name := "copyRow", desc := "([I[I)V" } : Jvm.MethodName), "ThermalCoreScheduler"), ("ThermalCoreScheduler$State", (70 : Nat), ({ cls := "ThermalCoreScheduler", name := "copyRow", desc := "([I[I)V" } : Jvm.MethodName), "ThermalCoreScheduler"), ("ThermalCoreScheduler$JobTable", (58 : Nat), ({ cls := "ThermalCoreScheduler", name := "copyRow", desc := "([I[I)V" } : Jvm.MethodName), "ThermalCoreScheduler"), ("ThermalCoreScheduler$JobTable", (62 : Nat), ({ cls := "ThermalCoreScheduler", name := "with", desc := "(II)I" } : Jvm.MethodName), "ThermalCoreScheduler"), ("ThermalCoreScheduler$JobTable", (70 : Nat), ({ cls := "ThermalCoreScheduler", name := "holds", desc := "(II)Z" } : Jvm.MethodName), "ThermalCoreScheduler"), ("ThermalCoreScheduler$JobTable", (87 : Nat), ({ cls := "ThermalCoreScheduler", name := "without", desc := "(II)I" } : Jvm.MethodName), "ThermalCoreScheduler"), ("ThermalCoreScheduler$State", (133 : Nat), ({ cls := "ThermalCoreScheduler", name := "without", desc := "(II)I" } : Jvm.MethodName), "ThermalCoreScheduler"), ("ThermalCoreScheduler$State", (187 : Nat), ({ cls := "ThermalCoreScheduler", name := "dividedUp", desc := "(II)I" } : Jvm.MethodName), "ThermalCoreScheduler"), ("ThermalCoreScheduler$Setup", (56 : Nat), ({ cls := "ThermalCoreScheduler", name := "dividedUp", desc := "(II)I" } : Jvm.MethodName), "ThermalCoreScheduler")]
def hz_faces : List Cond := [(Jvm.Cond.castable "java/lang/IllegalStateException" "java/lang/IllegalStateException"), (Jvm.Cond.declares ({ cls := "java/lang/RuntimeException", name := "<init>", desc := "()V" } : Jvm.MethodName)), (Jvm.Cond.declares ({ cls := "java/lang/RuntimeException", name := "<init>", desc := "(Ljava/lang/String;)V" } : Jvm.MethodName)), (Jvm.Cond.declares ({ cls := "java/lang/Exception", name := "<init>", desc := "()V" } : Jvm.MethodName)), (Jvm.Cond.declares ({ cls := "java/lang/Exception", name := "<init>", desc := "(Ljava/lang/String;)V" } : Jvm.MethodName)), (Jvm.Cond.declares ({ cls := "java/lang/Throwable", name := "<init>", desc := "()V" } : Jvm.MethodName)), (Jvm.Cond.declares ({ cls := "java/lang/Throwable", name := "<init>", desc := "(Ljava/lang/String;)V" } : Jvm.MethodName)), (Jvm.Cond.castable "java/lang/IllegalArgumentException" "java/lang/IllegalArgumentException"), (Jvm.Cond.castable "java/util/NoSuchElementException" "java/util/NoSuchElementException"), (Jvm.Cond.castable "java/lang/ArithmeticException" "java/lang/ArithmeticException"), (Jvm.Cond.castable "ThermalCoreScheduler" "java/lang/Object"), (Jvm.Cond.castable "ThermalCoreScheduler$Text" "java/lang/Object"), (Jvm.Cond.castable "ThermalCoreScheduler$TextParser" "java/lang/Object"), (Jvm.Cond.castable "ThermalCoreScheduler$Setup" "java/lang/Object"), (Jvm.Cond.castable "ThermalCoreScheduler$TokenReader" "java/lang/Object"), (Jvm.Cond.castable "ThermalCoreScheduler$State" "java/lang/Object"), (Jvm.Cond.castable "ThermalCoreScheduler$JobTable" "java/lang/Object"), (Jvm.Cond.castable "ThermalCoreScheduler$History" "java/lang/Object"), (Jvm.Cond.castable "ThermalCoreScheduler$WakeUpPlan" "java/lang/Object"), (Jvm.Cond.castable "ThermalCoreScheduler$TickMixer" "java/lang/Object"), (Jvm.Cond.castable "ThermalCoreSchedulerModel" "java/lang/Object"), (Jvm.Cond.castable "java/lang/IllegalStateException" "java/lang/Object"), (Jvm.Cond.castable "java/lang/IllegalArgumentException" "java/lang/Object"), (Jvm.Cond.castable "java/util/NoSuchElementException" "java/lang/Object"), (Jvm.Cond.castable "java/lang/ArithmeticException" "java/lang/Object"), (Jvm.Cond.castable "java/lang/Throwable" "java/lang/Object"), (Jvm.Cond.castable "java/lang/String" "java/lang/Object")]
def hz_ncs : List (String × String) := [("java/lang/IllegalArgumentException", "java/lang/IllegalStateException"), ("java/util/NoSuchElementException", "java/lang/IllegalStateException"), ("java/util/NoSuchElementException", "java/lang/IllegalArgumentException"), ("java/lang/ArithmeticException", "java/lang/IllegalStateException"), ("java/lang/ArithmeticException", "java/lang/IllegalArgumentException")]
def hz_strs : List (String × Nat × String) := [("ThermalCoreScheduler$TextParser", 54, "domain"), ("ThermalCoreScheduler$TextParser", 63, "system"), ("ThermalCoreScheduler$TextParser", 113, "max"), ("ThermalCoreScheduler$TextParser", 118, "min"), ("ThermalCoreScheduler$TextParser", 120, "demand"), ("ThermalCoreScheduler$TextParser", 122, "race"), ("ThermalCoreScheduler$TextParser", 127, "level"), ("ThermalCoreSchedulerModel", 149, "max"), ("ThermalCoreSchedulerModel", 155, "min"), ("ThermalCoreSchedulerModel", 157, "demand"), ("ThermalCoreSchedulerModel", 159, "race"), ("ThermalCoreSchedulerModel", 178, "level"), ("ThermalCoreSchedulerModel", 180, "system"), ("ThermalCoreSchedulerModel", 185, "domain"), ("ThermalCoreScheduler", 78, "the text buffer is full"), ("ThermalCoreScheduler", 206, "what is out of its range"), ("ThermalCoreScheduler", 221, "there are not so many domains"), ("ThermalCoreScheduler", 226, "no tick has passed"), ("ThermalCoreScheduler", 270, "there are not so many jobs"), ("ThermalCoreScheduler", 285, "no job of this kind is done"), ("ThermalCoreScheduler", 337, "no system text was loaded"), ("ThermalCoreScheduler", 339, "an argument is out of its range"), ("ThermalCoreScheduler", 341, "an argument is negative")]
def hz_wlen : List Nat := [6, 6, 3, 3, 6, 4, 5, 3, 3, 6, 4, 5, 6, 6]
def hz_wbyt : List (List Int32) := [[100, 111, 109, 97, 105, 110], [115, 121, 115, 116, 101, 109], [109, 97, 120], [109, 105, 110], [100, 101, 109, 97, 110, 100], [114, 97, 99, 101], [108, 101, 118, 101, 108], [109, 97, 120], [109, 105, 110], [100, 101, 109, 97, 110, 100], [114, 97, 99, 101], [108, 101, 118, 101, 108], [115, 121, 115, 116, 101, 109], [100, 111, 109, 97, 105, 110]]
def hz_nfl {σ : Type} (x : UInt32) (K : UInt32 → Option σ) : Option σ := if x &&& 0x7fffffff ≤ 0x7f800000 then K x else none
def hz_nd {σ : Type} (x : UInt64) (K : UInt64 → Option σ) : Option σ := if x &&& 0x7fffffffffffffff ≤ 0x7ff0000000000000 then K x else none

/-- the String constants that are words of the text: bytes held -/
def hz_St (B : Bt) (U : State) (H : Heap) : Prop := ∀ i, i < 14 → va_O "java/lang/String" (B.2.2.2.1 i) (hz_A B) U H ∧ va_OF "java/lang/String" "coder" "B" (.int 0) (B.2.2.2.1 i) (hz_A B) U H ∧ va_OF "java/lang/String" "value" "[B" (.ref (B.2.2.2.2 i)) (B.2.2.2.1 i) (hz_A B) U H ∧ va_T .byte (B.2.2.2.2 i) (hz_wlen.getD i 0) (fun j => .int ((hz_wbyt.getD i []).getD j 0)) (hz_A B) U H
def hz_Ev (B : Bt) (U : State) : Prop :=
  B.1 ≤ U.heap.size ∧ va_K B.2.1 vwCl (hz_tys B) U ∧ (∀ q ∈ hz_nests, va_Nw (.methodLinkNest q.1 q.2.1 q.2.2.1 q.2.2.2) U) ∧ (∀ w ∈ hz_faces, va_Nw w U) ∧ (∀ q ∈ hz_ncs, va_Nc q.1 q.2 U) ∧ va_AO RX3 U ∧ (∀ (i : Nat) (q : String × Nat × String), hz_strs[i]? = some q → vk_R q.1 q.2.1 q.2.2 (B.2.2.2.1 i) U) ∧ hz_St B U U.heap ∧
  vx_Zq Bundle.tN "UNASSIGNED_STACK" Bundle.steD (hz_A B) U U.heap ∧ vx_Zq Bundle.tN "SUPPRESSED_SENTINEL" Bundle.listD (hz_A B) U U.heap ∧ va_Z "java/lang/String" "COMPACT_STRINGS" "Z" (.int 1) (hz_A B) U U.heap ∧ va_Zq "jdk/internal/util/Preconditions" "SIOOBE_FORMATTER" "Ljava/util/function/BiFunction;" (hz_A B) U U.heap
theorem hz_faces_ok : ∀ w ∈ hz_faces, (w.keepsFace && w.onTables) = true := by decide +kernel
theorem hz_Ev.next {B : Bt} {s U : State} {H : Heap} {locs : List Loc} (h : hz_Ev B s) (hS : va_S (hz_A B) s.heap H locs) (hU : U.heap = H) (hW : s.WarmedH U.vm) : hz_Ev B U := by
  obtain ⟨h1, h2, h3, h4, h5, h6, h7, h8, h9, h10, h11, h12⟩ := h
  have hv := hW.alike
  subst hU
  have hk := hS.2.1
  refine ⟨Nat.le_trans h1 hS.1, va_K.moved hv h2, fun q hq => (h3 q hq).warmM hW, fun w hw => ?_, fun q hq => (h5 q hq).moved hv, h6.moved hv, fun i q hq => (h7 i q hq).warm hW, fun i hi => ?_, ?_, ?_, ?_, ?_⟩
  · have hc := hz_faces_ok w hw
    simp only [Bool.and_eq_true] at hc
    have h0 : w.before #[] s = true := h4 w hw
    exact va_tabs hc.2 (rfl : (s.setVm U.vm).vm = U.vm) (Cond.before_shiftedFace (State.Shifted.of_warmed hW) w hc.1 h0)
  · obtain ⟨a1, a2, a3, a4⟩ := h8 i hi
    exact ⟨(va_O.moved hv a1).kept hk, (va_OF.moved hv a2).kept hk, (va_OF.moved hv a3).kept hk, (va_T.moved hv a4).kept hk⟩
  · exact (vx_Zq.moved hv h9).kept hk
  · exact (vx_Zq.moved hv h10).kept hk
  · exact (va_Z.moved hv h11).kept hk
  · exact (va_Zq.moved hv h12).kept hk
/-- what is fixed in a method's body -/
def hz_Cx (p : Program) (l : Launch) (s : State) (m : MethodId) (args : Array Value) (meth : Method) (c : Code) (cc : ByteArray) (nL : Nat) (own : String) (ret : Option FieldType) (B : Bt) (tb : List ExceptionTableEntry) (ini : Bool) : Prop :=
  CallFix p m c cc nL s args hz_good own ∧ hz_Ev B s ∧ meth.locks = false ∧ l.stackTraces = false ∧ c.exceptionTable.toList = tb ∧ meth.sig.returnType = ret ∧ (ini = true → meth.name = "<init>")
/-- from this place on: if what is left to compute comes to r, the machine comes to its end with r -/
def hz_J (p : Program) (l : Launch) (e : Env) (R : Room) (s : State) (m : MethodId) (args : Array Value) (below : List Frame) (meth : Method) (c : Code) (cc : ByteArray) (nL : Nat) (own : String) (ret : Option FieldType) (B : Bt) (tb : List ExceptionTableEntry) (ini ex : Bool) {σ ρ : Type} (Fi : ρ → State → Prop) (Ko : σ → Option ρ) (pc : Nat) (L : List (Nat × Value)) (st : List Value) (k sl n : Nat) (w : MW) (comp : Option σ) : Prop :=
  hz_Cx p l s m args meth c cc nL own ret B tb ini → (ex = true → s.heap.size + k ≤ B.1 + n) → ∀ q, comp = some q → ∀ r, Ko q = some r → ∀ (H : Heap) (locs : List Loc) (ls : Array Slot), lv_has ls nL L → hz_Hd B n w H → va_S (hz_A B) s.heap H locs → W p l e R s m args below meth c H locs k sl (Fi r) (F0 m pc ls st)
-- what a computation is made of
def hz_let {α σ : Type} (x : α) (K : α → Option σ) : Option σ := K x
def hz_gd {σ : Type} (b : Bool) (x : Option σ) : Option σ := if b = true then x else none
def hz_ldp {σ : Type} (w : MW) (a k n c : Nat) (K : Nat → Option σ) : Option σ := match w.2.1 a k with
  | some b => hz_gd (hz_g n b c) (K b)
  | none => none
def hz_ix (i : Int32) (n : Nat) : Bool := decide (0 ≤ i) && decide (i.toNatClampNeg < n)
def hz_lda {σ : Type} (w : MW) (a : Nat) (i : Int32) (K : Int32 → Option σ) : Option σ := hz_gd (hz_ix i (hz_ln a)) (K (w.1 a i.toNatClampNeg))
def hz_sta {σ : Type} (w : MW) (a : Nat) (i x : Int32) (K : MW → Option σ) : Option σ := hz_gd (hz_ix i (hz_ln a)) (K (hz_pn w a i.toNatClampNeg x))
def hz_cdiv {σ : Type} (x y : Int32) (K : Int32 → Option σ) : Option σ := if y = 0 then none else K (x / y)
def hz_crem {σ : Type} (x y : Int32) (K : Int32 → Option σ) : Option σ := if y = 0 then none else K (x - x / y * y)
def hz_cldiv {σ : Type} (x y : Int64) (K : Int64 → Option σ) : Option σ := if y = 0 then none else K (x / y)
def hz_bv {σ : Type} (F : Option MW) (K : MW → Option σ) : Option σ := match F with
  | some w => K w
  | none => none
def hz_b {α σ : Type} (F : Option (α × MW)) (K : α → MW → Option σ) : Option σ := match F with
  | some q => K q.1 q.2
  | none => none
/-- a call that may throw: what is thrown goes on -/
def hz_bx {α τ : Type} (F : Option ((String ⊕ α) × MW)) (K : α → MW → Option ((String ⊕ τ) × MW)) : Option ((String ⊕ τ) × MW) := match F with
  | some (.inr x, w) => K x w
  | some (.inl E, w) => some (.inl E, w)
  | none => none
theorem hz_ix_in {i : Int32} {n : Nat} (h : hz_ix i n = true) : vp_in i n := by
  simp only [hz_ix, Bool.and_eq_true, decide_eq_true_eq] at h
  intro q
  rcases q with q | q
  · exact absurd h.1 (Int32.not_le.mpr q)
  · omega
theorem hz_gd_some {σ : Type} {b : Bool} {x : Option σ} {q : σ} (h : hz_gd b x = some q) : b = true ∧ x = some q := by
  unfold hz_gd at h
  split at h
  · exact ⟨by assumption, h⟩
  · cases h
section HZJ
variable {p : Program} {l : Launch} {e : Env} {R : Room} {s : State} {m : MethodId} {args : Array Value} {below : List Frame} {meth : Method} {c : Code} {cc : ByteArray} {nL : Nat} {own : String} {ret : Option FieldType} {B : Bt} {tb : List ExceptionTableEntry} {ini ex : Bool} {σ ρ : Type} {Fi : ρ → State → Prop} {Ko : σ → Option ρ} {pc pc' : Nat} {L : List (Nat × Value)} {st : List Value} {k sl n : Nat} {w : MW} {comp : Option σ}
-- names, joins, locals
theorem hz_nameI {x : Int32} {K : Int32 → Option σ} (h : ∀ v : Int32, hz_J p l e R s m args below meth c cc nL own ret B tb ini ex Fi Ko pc L (.int v :: st) k sl n w (K v)) : hz_J p l e R s m args below meth c cc nL own ret B tb ini ex Fi Ko pc L (.int x :: st) k sl n w (hz_let x K) := h x
theorem hz_nameL {x : Int64} {K : Int64 → Option σ} (h : ∀ v : Int64, hz_J p l e R s m args below meth c cc nL own ret B tb ini ex Fi Ko pc L (.long v :: st) k sl n w (K v)) : hz_J p l e R s m args below meth c cc nL own ret B tb ini ex Fi Ko pc L (.long x :: st) k sl n w (hz_let x K) := h x
theorem hz_nameF {x : UInt32} {K : UInt32 → Option σ} (h : ∀ v : UInt32, hz_J p l e R s m args below meth c cc nL own ret B tb ini ex Fi Ko pc L (.float v :: st) k sl n w (K v)) : hz_J p l e R s m args below meth c cc nL own ret B tb ini ex Fi Ko pc L (.float x :: st) k sl n w (hz_let x K) := h x
theorem hz_nameD {x : UInt64} {K : UInt64 → Option σ} (h : ∀ v : UInt64, hz_J p l e R s m args below meth c cc nL own ret B tb ini ex Fi Ko pc L (.double v :: st) k sl n w (K v)) : hz_J p l e R s m args below meth c cc nL own ret B tb ini ex Fi Ko pc L (.double x :: st) k sl n w (hz_let x K) := h x
theorem hz_enter {τ : Type} {Ko : τ → Option ρ} {tree : Option σ} {K2 : σ → Option τ} (h : hz_J p l e R s m args below meth c cc nL own ret B tb ini ex Fi (fun q => (K2 q).bind Ko) pc L st k sl n w tree) : hz_J p l e R s m args below meth c cc nL own ret B tb ini ex Fi Ko pc L st k sl n w (tree.bind K2) := by
  intro X hx q hq r hr H locs ls hl hH hS
  obtain ⟨z, hz, hz2⟩ := Option.bind_eq_some_iff.mp hq
  exact h X hx z hz r (by show (K2 z).bind Ko = some r; rw [hz2]; exact hr) H locs ls hl hH hS
theorem hz_leave {τ : Type} {Ko : τ → Option ρ} {q : σ} {K2 : σ → Option τ} (h : hz_J p l e R s m args below meth c cc nL own ret B tb ini ex Fi Ko pc L st k sl n w (K2 q)) : hz_J p l e R s m args below meth c cc nL own ret B tb ini ex Fi (fun q => (K2 q).bind Ko) pc L st k sl n w (some q) := by
  intro X hx z hz r hr H locs ls hl hH hS
  cases hz
  obtain ⟨y, hy, hy2⟩ := Option.bind_eq_some_iff.mp hr
  exact h X hx y hy r hy2 H locs ls hl hH hS
theorem hz_loc {L' : List (Nat × Value)} (ks : List Nat) (hp : lv_pick L ks = L') (h : hz_J p l e R s m args below meth c cc nL own ret B tb ini ex Fi Ko pc L' st k sl n w comp) : hz_J p l e R s m args below meth c cc nL own ret B tb ini ex Fi Ko pc L st k sl n w comp :=
  fun X hx q hq r hr H locs ls hl hH hS => h X hx q hq r hr H locs ls (lv_sub hl ks hp) hH hS
theorem hz_wide {k' sl' : Nat} (h1 : k ≤ k') (h2 : sl ≤ sl') (he : ex = false) (h : hz_J p l e R s m args below meth c cc nL own ret B tb ini ex Fi Ko pc L st k' sl' n w comp) : hz_J p l e R s m args below meth c cc nL own ret B tb ini ex Fi Ko pc L st k sl n w comp :=
  fun X _ q hq r hr H locs ls hl hH hS => W.widen h1 h2 (h X (fun z => by rw [he] at z; cases z) q hq r hr H locs ls hl hH hS)
theorem hz_no (h : comp = none) : hz_J p l e R s m args below meth c cc nL own ret B tb ini ex Fi Ko pc L st k sl n w comp :=
  fun _ _ q hq => by rw [h] at hq; cases hq
theorem hz_iconst {z : Int} {v : Int32} (d : decode cc pc = .ok (.iconst z, 1)) (hp : pc + 1 = pc') (hv : Int32.ofInt z = v) (K : hz_J p l e R s m args below meth c cc nL own ret B tb ini ex Fi Ko pc' L (.int v :: st) k sl n w comp) : hz_J p l e R s m args below meth c cc nL own ret B tb ini ex Fi Ko pc L st k sl n w comp := by
  intro X hx q hq r hr H locs ls hl hH hS
  subst hp
  exact lv_iconst X.1.1 X.1.2.1 d hv (K X hx q hq r hr H locs ls hl hH hS)
theorem hz_bipush {z : Int} {v : Int32} (d : decode cc pc = .ok (.bipush z, 2)) (hp : pc + 2 = pc') (hv : (Int8.ofInt z).toInt32 = v) (K : hz_J p l e R s m args below meth c cc nL own ret B tb ini ex Fi Ko pc' L (.int v :: st) k sl n w comp) : hz_J p l e R s m args below meth c cc nL own ret B tb ini ex Fi Ko pc L st k sl n w comp := by
  intro X hx q hq r hr H locs ls hl hH hS
  subst hp
  exact lv_bipush X.1.1 X.1.2.1 d hv (K X hx q hq r hr H locs ls hl hH hS)
theorem hz_sipush {z : Int} {v : Int32} (d : decode cc pc = .ok (.sipush z, 3)) (hp : pc + 3 = pc') (hv : (Int16.ofInt z).toInt32 = v) (K : hz_J p l e R s m args below meth c cc nL own ret B tb ini ex Fi Ko pc' L (.int v :: st) k sl n w comp) : hz_J p l e R s m args below meth c cc nL own ret B tb ini ex Fi Ko pc L st k sl n w comp := by
  intro X hx q hq r hr H locs ls hl hH hS
  subst hp
  exact lv_sipush X.1.1 X.1.2.1 d hv (K X hx q hq r hr H locs ls hl hH hS)
theorem hz_lconst {z : Fin 2} {v : Int64} (d : decode cc pc = .ok (.lconst z, 1)) (hp : pc + 1 = pc') (hv : Int64.ofNat (z : Nat) = v) (K : hz_J p l e R s m args below meth c cc nL own ret B tb ini ex Fi Ko pc' L (.long v :: st) k sl n w comp) : hz_J p l e R s m args below meth c cc nL own ret B tb ini ex Fi Ko pc L st k sl n w comp := by
  intro X hx q hq r hr H locs ls hl hH hS
  subst hp
  exact lv_lconst X.1.1 X.1.2.1 d hv (K X hx q hq r hr H locs ls hl hH hS)
theorem hz_iload_n {z : Fin 4} {i j : Nat} {x : Int32} (d : decode cc pc = .ok (.iload_n z, 1)) (hp : pc + 1 = pc') (hi : (z : Nat) = i) (hj : L[j]? = some (i, .int x)) (K : hz_J p l e R s m args below meth c cc nL own ret B tb ini ex Fi Ko pc' L (.int x :: st) k sl n w comp) : hz_J p l e R s m args below meth c cc nL own ret B tb ini ex Fi Ko pc L st k sl n w comp := by
  intro X hx q hq r hr H locs ls hl hH hS
  subst hp
  exact lv_iload_n X.1.1 X.1.2.1 d hi (lv_at hl j hj) (K X hx q hq r hr H locs ls hl hH hS)
theorem hz_iload {i j : Nat} {x : Int32} (d : decode cc pc = .ok (.iload i, 2)) (hp : pc + 2 = pc') (hj : L[j]? = some (i, .int x)) (K : hz_J p l e R s m args below meth c cc nL own ret B tb ini ex Fi Ko pc' L (.int x :: st) k sl n w comp) : hz_J p l e R s m args below meth c cc nL own ret B tb ini ex Fi Ko pc L st k sl n w comp := by
  intro X hx q hq r hr H locs ls hl hH hS
  subst hp
  exact lv_iload X.1.1 X.1.2.1 d (lv_at hl j hj) (K X hx q hq r hr H locs ls hl hH hS)
theorem hz_istore_n {z : Fin 4} {i : Nat} {x : Int32} {L' : List (Nat × Value)} (d : decode cc pc = .ok (.istore_n z, 1)) (hp : pc + 1 = pc') (hi : (z : Nat) = i) (hn : i < nL) (hf : (i, Value.int x) :: L.filter (fun q => !(q.1 == i) && !(q.1 + 1 == i && q.2.category == 2)) = L') (K : hz_J p l e R s m args below meth c cc nL own ret B tb ini ex Fi Ko pc' L' st k sl n w comp) : hz_J p l e R s m args below meth c cc nL own ret B tb ini ex Fi Ko pc L (.int x :: st) k sl n w comp := by
  intro X hx q hq r hr H locs ls hl hH hS
  subst hp
  exact lv_istore_n X.1.1 X.1.2.1 d hi hl hn hf (fun ls hl => K X hx q hq r hr H locs ls hl hH hS)
theorem hz_istore {i : Nat} {x : Int32} {L' : List (Nat × Value)} (d : decode cc pc = .ok (.istore i, 2)) (hp : pc + 2 = pc') (hn : i < nL) (hf : (i, Value.int x) :: L.filter (fun q => !(q.1 == i) && !(q.1 + 1 == i && q.2.category == 2)) = L') (K : hz_J p l e R s m args below meth c cc nL own ret B tb ini ex Fi Ko pc' L' st k sl n w comp) : hz_J p l e R s m args below meth c cc nL own ret B tb ini ex Fi Ko pc L (.int x :: st) k sl n w comp := by
  intro X hx q hq r hr H locs ls hl hH hS
  subst hp
  exact lv_istore X.1.1 X.1.2.1 d hl hn hf (fun ls hl => K X hx q hq r hr H locs ls hl hH hS)
theorem hz_lload_n {z : Fin 4} {i j : Nat} {x : Int64} (d : decode cc pc = .ok (.lload_n z, 1)) (hp : pc + 1 = pc') (hi : (z : Nat) = i) (hj : L[j]? = some (i, .long x)) (K : hz_J p l e R s m args below meth c cc nL own ret B tb ini ex Fi Ko pc' L (.long x :: st) k sl n w comp) : hz_J p l e R s m args below meth c cc nL own ret B tb ini ex Fi Ko pc L st k sl n w comp := by
  intro X hx q hq r hr H locs ls hl hH hS
  subst hp
  exact lv_lload_n X.1.1 X.1.2.1 d hi (lv_at hl j hj) (K X hx q hq r hr H locs ls hl hH hS)
theorem hz_lload {i j : Nat} {x : Int64} (d : decode cc pc = .ok (.lload i, 2)) (hp : pc + 2 = pc') (hj : L[j]? = some (i, .long x)) (K : hz_J p l e R s m args below meth c cc nL own ret B tb ini ex Fi Ko pc' L (.long x :: st) k sl n w comp) : hz_J p l e R s m args below meth c cc nL own ret B tb ini ex Fi Ko pc L st k sl n w comp := by
  intro X hx q hq r hr H locs ls hl hH hS
  subst hp
  exact lv_lload X.1.1 X.1.2.1 d (lv_at hl j hj) (K X hx q hq r hr H locs ls hl hH hS)
theorem hz_lstore_n {z : Fin 4} {i : Nat} {x : Int64} {L' : List (Nat × Value)} (d : decode cc pc = .ok (.lstore_n z, 1)) (hp : pc + 1 = pc') (hi : (z : Nat) = i) (hn : i + 1 < nL) (hf : (i, Value.long x) :: L.filter (fun q => !(q.1 == i) && (!(q.1 == i + 1) && !(q.1 + 1 == i && q.2.category == 2))) = L') (K : hz_J p l e R s m args below meth c cc nL own ret B tb ini ex Fi Ko pc' L' st k sl n w comp) : hz_J p l e R s m args below meth c cc nL own ret B tb ini ex Fi Ko pc L (.long x :: st) k sl n w comp := by
  intro X hx q hq r hr H locs ls hl hH hS
  subst hp
  exact lv_lstore_n X.1.1 X.1.2.1 d hi hl hn hf (fun ls hl => K X hx q hq r hr H locs ls hl hH hS)
theorem hz_lstore {i : Nat} {x : Int64} {L' : List (Nat × Value)} (d : decode cc pc = .ok (.lstore i, 2)) (hp : pc + 2 = pc') (hn : i + 1 < nL) (hf : (i, Value.long x) :: L.filter (fun q => !(q.1 == i) && (!(q.1 == i + 1) && !(q.1 + 1 == i && q.2.category == 2))) = L') (K : hz_J p l e R s m args below meth c cc nL own ret B tb ini ex Fi Ko pc' L' st k sl n w comp) : hz_J p l e R s m args below meth c cc nL own ret B tb ini ex Fi Ko pc L (.long x :: st) k sl n w comp := by
  intro X hx q hq r hr H locs ls hl hH hS
  subst hp
  exact lv_lstore X.1.1 X.1.2.1 d hl hn hf (fun ls hl => K X hx q hq r hr H locs ls hl hH hS)
theorem hz_aload_n {z : Fin 4} {i j : Nat} {x : Nat} (d : decode cc pc = .ok (.aload_n z, 1)) (hp : pc + 1 = pc') (hi : (z : Nat) = i) (hj : L[j]? = some (i, .ref x)) (K : hz_J p l e R s m args below meth c cc nL own ret B tb ini ex Fi Ko pc' L (.ref x :: st) k sl n w comp) : hz_J p l e R s m args below meth c cc nL own ret B tb ini ex Fi Ko pc L st k sl n w comp := by
  intro X hx q hq r hr H locs ls hl hH hS
  subst hp
  exact lv_aload_n X.1.1 X.1.2.1 d hi (lv_at hl j hj) (K X hx q hq r hr H locs ls hl hH hS)
theorem hz_aload {i j : Nat} {x : Nat} (d : decode cc pc = .ok (.aload i, 2)) (hp : pc + 2 = pc') (hj : L[j]? = some (i, .ref x)) (K : hz_J p l e R s m args below meth c cc nL own ret B tb ini ex Fi Ko pc' L (.ref x :: st) k sl n w comp) : hz_J p l e R s m args below meth c cc nL own ret B tb ini ex Fi Ko pc L st k sl n w comp := by
  intro X hx q hq r hr H locs ls hl hH hS
  subst hp
  exact lv_aload X.1.1 X.1.2.1 d (lv_at hl j hj) (K X hx q hq r hr H locs ls hl hH hS)
theorem hz_astore_n {z : Fin 4} {i : Nat} {x : Nat} {L' : List (Nat × Value)} (d : decode cc pc = .ok (.astore_n z, 1)) (hp : pc + 1 = pc') (hi : (z : Nat) = i) (hn : i < nL) (hf : (i, Value.ref x) :: L.filter (fun q => !(q.1 == i) && !(q.1 + 1 == i && q.2.category == 2)) = L') (K : hz_J p l e R s m args below meth c cc nL own ret B tb ini ex Fi Ko pc' L' st k sl n w comp) : hz_J p l e R s m args below meth c cc nL own ret B tb ini ex Fi Ko pc L (.ref x :: st) k sl n w comp := by
  intro X hx q hq r hr H locs ls hl hH hS
  subst hp
  exact lv_astore_n X.1.1 X.1.2.1 d hi hl hn hf (fun ls hl => K X hx q hq r hr H locs ls hl hH hS)
theorem hz_astore {i : Nat} {x : Nat} {L' : List (Nat × Value)} (d : decode cc pc = .ok (.astore i, 2)) (hp : pc + 2 = pc') (hn : i < nL) (hf : (i, Value.ref x) :: L.filter (fun q => !(q.1 == i) && !(q.1 + 1 == i && q.2.category == 2)) = L') (K : hz_J p l e R s m args below meth c cc nL own ret B tb ini ex Fi Ko pc' L' st k sl n w comp) : hz_J p l e R s m args below meth c cc nL own ret B tb ini ex Fi Ko pc L (.ref x :: st) k sl n w comp := by
  intro X hx q hq r hr H locs ls hl hH hS
  subst hp
  exact lv_astore X.1.1 X.1.2.1 d hl hn hf (fun ls hl => K X hx q hq r hr H locs ls hl hH hS)
theorem hz_fload_n {z : Fin 4} {i j : Nat} {x : UInt32} (d : decode cc pc = .ok (.fload_n z, 1)) (hp : pc + 1 = pc') (hi : (z : Nat) = i) (hj : L[j]? = some (i, .float x)) (K : hz_J p l e R s m args below meth c cc nL own ret B tb ini ex Fi Ko pc' L (.float x :: st) k sl n w comp) : hz_J p l e R s m args below meth c cc nL own ret B tb ini ex Fi Ko pc L st k sl n w comp := by
  intro X hx q hq r hr H locs ls hl hH hS
  subst hp
  exact lv_fload_n X.1.1 X.1.2.1 d hi (lv_at hl j hj) (K X hx q hq r hr H locs ls hl hH hS)
theorem hz_fload {i j : Nat} {x : UInt32} (d : decode cc pc = .ok (.fload i, 2)) (hp : pc + 2 = pc') (hj : L[j]? = some (i, .float x)) (K : hz_J p l e R s m args below meth c cc nL own ret B tb ini ex Fi Ko pc' L (.float x :: st) k sl n w comp) : hz_J p l e R s m args below meth c cc nL own ret B tb ini ex Fi Ko pc L st k sl n w comp := by
  intro X hx q hq r hr H locs ls hl hH hS
  subst hp
  exact lv_fload X.1.1 X.1.2.1 d (lv_at hl j hj) (K X hx q hq r hr H locs ls hl hH hS)
theorem hz_fstore_n {z : Fin 4} {i : Nat} {x : UInt32} {L' : List (Nat × Value)} (d : decode cc pc = .ok (.fstore_n z, 1)) (hp : pc + 1 = pc') (hi : (z : Nat) = i) (hn : i < nL) (hf : (i, Value.float x) :: L.filter (fun q => !(q.1 == i) && !(q.1 + 1 == i && q.2.category == 2)) = L') (K : hz_J p l e R s m args below meth c cc nL own ret B tb ini ex Fi Ko pc' L' st k sl n w comp) : hz_J p l e R s m args below meth c cc nL own ret B tb ini ex Fi Ko pc L (.float x :: st) k sl n w comp := by
  intro X hx q hq r hr H locs ls hl hH hS
  subst hp
  exact lv_fstore_n X.1.1 X.1.2.1 d hi hl hn hf (fun ls hl => K X hx q hq r hr H locs ls hl hH hS)
theorem hz_fstore {i : Nat} {x : UInt32} {L' : List (Nat × Value)} (d : decode cc pc = .ok (.fstore i, 2)) (hp : pc + 2 = pc') (hn : i < nL) (hf : (i, Value.float x) :: L.filter (fun q => !(q.1 == i) && !(q.1 + 1 == i && q.2.category == 2)) = L') (K : hz_J p l e R s m args below meth c cc nL own ret B tb ini ex Fi Ko pc' L' st k sl n w comp) : hz_J p l e R s m args below meth c cc nL own ret B tb ini ex Fi Ko pc L (.float x :: st) k sl n w comp := by
  intro X hx q hq r hr H locs ls hl hH hS
  subst hp
  exact lv_fstore X.1.1 X.1.2.1 d hl hn hf (fun ls hl => K X hx q hq r hr H locs ls hl hH hS)
theorem hz_dload_n {z : Fin 4} {i j : Nat} {x : UInt64} (d : decode cc pc = .ok (.dload_n z, 1)) (hp : pc + 1 = pc') (hi : (z : Nat) = i) (hj : L[j]? = some (i, .double x)) (K : hz_J p l e R s m args below meth c cc nL own ret B tb ini ex Fi Ko pc' L (.double x :: st) k sl n w comp) : hz_J p l e R s m args below meth c cc nL own ret B tb ini ex Fi Ko pc L st k sl n w comp := by
  intro X hx q hq r hr H locs ls hl hH hS
  subst hp
  exact lv_dload_n X.1.1 X.1.2.1 d hi (lv_at hl j hj) (K X hx q hq r hr H locs ls hl hH hS)
theorem hz_dload {i j : Nat} {x : UInt64} (d : decode cc pc = .ok (.dload i, 2)) (hp : pc + 2 = pc') (hj : L[j]? = some (i, .double x)) (K : hz_J p l e R s m args below meth c cc nL own ret B tb ini ex Fi Ko pc' L (.double x :: st) k sl n w comp) : hz_J p l e R s m args below meth c cc nL own ret B tb ini ex Fi Ko pc L st k sl n w comp := by
  intro X hx q hq r hr H locs ls hl hH hS
  subst hp
  exact lv_dload X.1.1 X.1.2.1 d (lv_at hl j hj) (K X hx q hq r hr H locs ls hl hH hS)
theorem hz_dstore_n {z : Fin 4} {i : Nat} {x : UInt64} {L' : List (Nat × Value)} (d : decode cc pc = .ok (.dstore_n z, 1)) (hp : pc + 1 = pc') (hi : (z : Nat) = i) (hn : i + 1 < nL) (hf : (i, Value.double x) :: L.filter (fun q => !(q.1 == i) && (!(q.1 == i + 1) && !(q.1 + 1 == i && q.2.category == 2))) = L') (K : hz_J p l e R s m args below meth c cc nL own ret B tb ini ex Fi Ko pc' L' st k sl n w comp) : hz_J p l e R s m args below meth c cc nL own ret B tb ini ex Fi Ko pc L (.double x :: st) k sl n w comp := by
  intro X hx q hq r hr H locs ls hl hH hS
  subst hp
  exact lv_dstore_n X.1.1 X.1.2.1 d hi hl hn hf (fun ls hl => K X hx q hq r hr H locs ls hl hH hS)
theorem hz_dstore {i : Nat} {x : UInt64} {L' : List (Nat × Value)} (d : decode cc pc = .ok (.dstore i, 2)) (hp : pc + 2 = pc') (hn : i + 1 < nL) (hf : (i, Value.double x) :: L.filter (fun q => !(q.1 == i) && (!(q.1 == i + 1) && !(q.1 + 1 == i && q.2.category == 2))) = L') (K : hz_J p l e R s m args below meth c cc nL own ret B tb ini ex Fi Ko pc' L' st k sl n w comp) : hz_J p l e R s m args below meth c cc nL own ret B tb ini ex Fi Ko pc L (.double x :: st) k sl n w comp := by
  intro X hx q hq r hr H locs ls hl hH hS
  subst hp
  exact lv_dstore X.1.1 X.1.2.1 d hl hn hf (fun ls hl => K X hx q hq r hr H locs ls hl hH hS)
theorem hz_iinc {i j : Nat} {z : Int} {x v : Int32} {L' : List (Nat × Value)} (d : decode cc pc = .ok (.iinc i z, 3)) (hp : pc + 3 = pc') (hj : L[j]? = some (i, .int x)) (hv : x + Int32.ofInt z = v) (hn : i < nL) (hf : (i, Value.int v) :: L.filter (fun q => !(q.1 == i) && !(q.1 + 1 == i && q.2.category == 2)) = L') (K : hz_J p l e R s m args below meth c cc nL own ret B tb ini ex Fi Ko pc' L' st k sl n w comp) : hz_J p l e R s m args below meth c cc nL own ret B tb ini ex Fi Ko pc L st k sl n w comp := by
  intro X hx q hq r hr H locs ls hl hH hS
  subst hp
  exact lv_iinc X.1.1 X.1.2.1 d hl hj hv hn hf (fun ls hl => K X hx q hq r hr H locs ls hl hH hS)
theorem hz_iincN {i j : Nat} {z : Int} {x : Int32} {KK : Int32 → Option σ} (L' : Int32 → List (Nat × Value)) (d : decode cc pc = .ok (.iinc i z, 3)) (hp : pc + 3 = pc') (hj : L[j]? = some (i, .int x)) (hn : i < nL) (hf : ∀ v, (i, Value.int v) :: L.filter (fun q => !(q.1 == i) && !(q.1 + 1 == i && q.2.category == 2)) = L' v) (K : ∀ v : Int32, hz_J p l e R s m args below meth c cc nL own ret B tb ini ex Fi Ko pc' (L' v) st k sl n w (KK v)) : hz_J p l e R s m args below meth c cc nL own ret B tb ini ex Fi Ko pc L st k sl n w (hz_let (x + Int32.ofInt z) KK) := by
  intro X hx q hq r hr H locs ls hl hH hS
  subst hp
  exact lv_iinc X.1.1 X.1.2.1 d hl hj rfl hn (hf _) (fun ls hl => K _ X hx q hq r hr H locs ls hl hH hS)
theorem hz_iadd {x y : Int32} (d : decode cc pc = .ok (.iadd, 1)) (hp : pc + 1 = pc') (K : hz_J p l e R s m args below meth c cc nL own ret B tb ini ex Fi Ko pc' L (.int (x + y) :: st) k sl n w comp) : hz_J p l e R s m args below meth c cc nL own ret B tb ini ex Fi Ko pc L (.int y :: .int x :: st) k sl n w comp := by
  intro X hx q hq r hr H locs ls hl hH hS
  subst hp
  exact lv_iadd X.1.1 X.1.2.1 d  (K X hx q hq r hr H locs ls hl hH hS)
theorem hz_isub {x y : Int32} (d : decode cc pc = .ok (.isub, 1)) (hp : pc + 1 = pc') (K : hz_J p l e R s m args below meth c cc nL own ret B tb ini ex Fi Ko pc' L (.int (x - y) :: st) k sl n w comp) : hz_J p l e R s m args below meth c cc nL own ret B tb ini ex Fi Ko pc L (.int y :: .int x :: st) k sl n w comp := by
  intro X hx q hq r hr H locs ls hl hH hS
  subst hp
  exact lv_isub X.1.1 X.1.2.1 d  (K X hx q hq r hr H locs ls hl hH hS)
theorem hz_imul {x y : Int32} (d : decode cc pc = .ok (.imul, 1)) (hp : pc + 1 = pc') (K : hz_J p l e R s m args below meth c cc nL own ret B tb ini ex Fi Ko pc' L (.int (x * y) :: st) k sl n w comp) : hz_J p l e R s m args below meth c cc nL own ret B tb ini ex Fi Ko pc L (.int y :: .int x :: st) k sl n w comp := by
  intro X hx q hq r hr H locs ls hl hH hS
  subst hp
  exact lv_imul X.1.1 X.1.2.1 d  (K X hx q hq r hr H locs ls hl hH hS)
theorem hz_iand {x y : Int32} (d : decode cc pc = .ok (.iand, 1)) (hp : pc + 1 = pc') (K : hz_J p l e R s m args below meth c cc nL own ret B tb ini ex Fi Ko pc' L (.int (x &&& y) :: st) k sl n w comp) : hz_J p l e R s m args below meth c cc nL own ret B tb ini ex Fi Ko pc L (.int y :: .int x :: st) k sl n w comp := by
  intro X hx q hq r hr H locs ls hl hH hS
  subst hp
  exact lv_iand X.1.1 X.1.2.1 d  (K X hx q hq r hr H locs ls hl hH hS)
theorem hz_ior {x y : Int32} (d : decode cc pc = .ok (.ior, 1)) (hp : pc + 1 = pc') (K : hz_J p l e R s m args below meth c cc nL own ret B tb ini ex Fi Ko pc' L (.int (x ||| y) :: st) k sl n w comp) : hz_J p l e R s m args below meth c cc nL own ret B tb ini ex Fi Ko pc L (.int y :: .int x :: st) k sl n w comp := by
  intro X hx q hq r hr H locs ls hl hH hS
  subst hp
  exact lv_ior X.1.1 X.1.2.1 d  (K X hx q hq r hr H locs ls hl hH hS)
theorem hz_ixor {x y : Int32} (d : decode cc pc = .ok (.ixor, 1)) (hp : pc + 1 = pc') (K : hz_J p l e R s m args below meth c cc nL own ret B tb ini ex Fi Ko pc' L (.int (x ^^^ y) :: st) k sl n w comp) : hz_J p l e R s m args below meth c cc nL own ret B tb ini ex Fi Ko pc L (.int y :: .int x :: st) k sl n w comp := by
  intro X hx q hq r hr H locs ls hl hH hS
  subst hp
  exact lv_ixor X.1.1 X.1.2.1 d  (K X hx q hq r hr H locs ls hl hH hS)
theorem hz_ishl {x y : Int32} (d : decode cc pc = .ok (.ishl, 1)) (hp : pc + 1 = pc') (K : hz_J p l e R s m args below meth c cc nL own ret B tb ini ex Fi Ko pc' L (.int (x <<< (y &&& 31)) :: st) k sl n w comp) : hz_J p l e R s m args below meth c cc nL own ret B tb ini ex Fi Ko pc L (.int y :: .int x :: st) k sl n w comp := by
  intro X hx q hq r hr H locs ls hl hH hS
  subst hp
  exact lv_ishl X.1.1 X.1.2.1 d  (K X hx q hq r hr H locs ls hl hH hS)
theorem hz_ishr {x y : Int32} (d : decode cc pc = .ok (.ishr, 1)) (hp : pc + 1 = pc') (K : hz_J p l e R s m args below meth c cc nL own ret B tb ini ex Fi Ko pc' L (.int (x >>> (y &&& 31)) :: st) k sl n w comp) : hz_J p l e R s m args below meth c cc nL own ret B tb ini ex Fi Ko pc L (.int y :: .int x :: st) k sl n w comp := by
  intro X hx q hq r hr H locs ls hl hH hS
  subst hp
  exact lv_ishr X.1.1 X.1.2.1 d  (K X hx q hq r hr H locs ls hl hH hS)
theorem hz_ladd {x y : Int64} (d : decode cc pc = .ok (.ladd, 1)) (hp : pc + 1 = pc') (K : hz_J p l e R s m args below meth c cc nL own ret B tb ini ex Fi Ko pc' L (.long (x + y) :: st) k sl n w comp) : hz_J p l e R s m args below meth c cc nL own ret B tb ini ex Fi Ko pc L (.long y :: .long x :: st) k sl n w comp := by
  intro X hx q hq r hr H locs ls hl hH hS
  subst hp
  exact lv_ladd X.1.1 X.1.2.1 d  (K X hx q hq r hr H locs ls hl hH hS)
theorem hz_lsub {x y : Int64} (d : decode cc pc = .ok (.lsub, 1)) (hp : pc + 1 = pc') (K : hz_J p l e R s m args below meth c cc nL own ret B tb ini ex Fi Ko pc' L (.long (x - y) :: st) k sl n w comp) : hz_J p l e R s m args below meth c cc nL own ret B tb ini ex Fi Ko pc L (.long y :: .long x :: st) k sl n w comp := by
  intro X hx q hq r hr H locs ls hl hH hS
  subst hp
  exact lv_lsub X.1.1 X.1.2.1 d  (K X hx q hq r hr H locs ls hl hH hS)
theorem hz_lmul {x y : Int64} (d : decode cc pc = .ok (.lmul, 1)) (hp : pc + 1 = pc') (K : hz_J p l e R s m args below meth c cc nL own ret B tb ini ex Fi Ko pc' L (.long (x * y) :: st) k sl n w comp) : hz_J p l e R s m args below meth c cc nL own ret B tb ini ex Fi Ko pc L (.long y :: .long x :: st) k sl n w comp := by
  intro X hx q hq r hr H locs ls hl hH hS
  subst hp
  exact lv_lmul X.1.1 X.1.2.1 d  (K X hx q hq r hr H locs ls hl hH hS)
theorem hz_ineg {x : Int32} (d : decode cc pc = .ok (.ineg, 1)) (hp : pc + 1 = pc') (K : hz_J p l e R s m args below meth c cc nL own ret B tb ini ex Fi Ko pc' L (.int (-x) :: st) k sl n w comp) : hz_J p l e R s m args below meth c cc nL own ret B tb ini ex Fi Ko pc L (.int x :: st) k sl n w comp := by
  intro X hx q hq r hr H locs ls hl hH hS
  subst hp
  exact lv_ineg X.1.1 X.1.2.1 d  (K X hx q hq r hr H locs ls hl hH hS)
theorem hz_iushr {x y : Int32} (d : decode cc pc = .ok (.iushr, 1)) (hp : pc + 1 = pc') (K : hz_J p l e R s m args below meth c cc nL own ret B tb ini ex Fi Ko pc' L (.int ((x.toUInt32 >>> (y.toUInt32 &&& Int32.toUInt32 31)).toInt32) :: st) k sl n w comp) : hz_J p l e R s m args below meth c cc nL own ret B tb ini ex Fi Ko pc L (.int y :: .int x :: st) k sl n w comp := by
  intro X hx q hq r hr H locs ls hl hH hS
  subst hp
  exact lv_iushr X.1.1 X.1.2.1 d rfl (K X hx q hq r hr H locs ls hl hH hS)
theorem hz_i2l {x : Int32} (d : decode cc pc = .ok (.i2l, 1)) (hp : pc + 1 = pc') (K : hz_J p l e R s m args below meth c cc nL own ret B tb ini ex Fi Ko pc' L (.long x.toInt64 :: st) k sl n w comp) : hz_J p l e R s m args below meth c cc nL own ret B tb ini ex Fi Ko pc L (.int x :: st) k sl n w comp := by
  intro X hx q hq r hr H locs ls hl hH hS
  subst hp
  exact lv_i2l X.1.1 X.1.2.1 d rfl (K X hx q hq r hr H locs ls hl hH hS)
theorem hz_l2i {x : Int64} (d : decode cc pc = .ok (.l2i, 1)) (hp : pc + 1 = pc') (K : hz_J p l e R s m args below meth c cc nL own ret B tb ini ex Fi Ko pc' L (.int x.toInt32 :: st) k sl n w comp) : hz_J p l e R s m args below meth c cc nL own ret B tb ini ex Fi Ko pc L (.long x :: st) k sl n w comp := by
  intro X hx q hq r hr H locs ls hl hH hS
  subst hp
  exact lv_l2i X.1.1 X.1.2.1 d rfl (K X hx q hq r hr H locs ls hl hH hS)
theorem hz_i2b {x : Int32} (d : decode cc pc = .ok (.i2b, 1)) (hp : pc + 1 = pc') (K : hz_J p l e R s m args below meth c cc nL own ret B tb ini ex Fi Ko pc' L (.int x.toInt8.toInt32 :: st) k sl n w comp) : hz_J p l e R s m args below meth c cc nL own ret B tb ini ex Fi Ko pc L (.int x :: st) k sl n w comp := by
  intro X hx q hq r hr H locs ls hl hH hS
  subst hp
  exact lv_i2b X.1.1 X.1.2.1 d rfl (K X hx q hq r hr H locs ls hl hH hS)
theorem hz_i2f {x : Int32} (d : decode cc pc = .ok (.i2f, 1)) (hp : pc + 1 = pc') (K : hz_J p l e R s m args below meth c cc nL own ret B tb ini ex Fi Ko pc' L (.float (FP.i2f x) :: st) k sl n w comp) : hz_J p l e R s m args below meth c cc nL own ret B tb ini ex Fi Ko pc L (.int x :: st) k sl n w comp := by
  intro X hx q hq r hr H locs ls hl hH hS
  subst hp
  exact lv_i2f X.1.1 X.1.2.1 d  (K X hx q hq r hr H locs ls hl hH hS)
theorem hz_i2d {x : Int32} (d : decode cc pc = .ok (.i2d, 1)) (hp : pc + 1 = pc') (K : hz_J p l e R s m args below meth c cc nL own ret B tb ini ex Fi Ko pc' L (.double (FP.i2d x) :: st) k sl n w comp) : hz_J p l e R s m args below meth c cc nL own ret B tb ini ex Fi Ko pc L (.int x :: st) k sl n w comp := by
  intro X hx q hq r hr H locs ls hl hH hS
  subst hp
  exact lv_i2d X.1.1 X.1.2.1 d  (K X hx q hq r hr H locs ls hl hH hS)
theorem hz_l2d {x : Int64} (d : decode cc pc = .ok (.l2d, 1)) (hp : pc + 1 = pc') (K : hz_J p l e R s m args below meth c cc nL own ret B tb ini ex Fi Ko pc' L (.double (FP.l2d x) :: st) k sl n w comp) : hz_J p l e R s m args below meth c cc nL own ret B tb ini ex Fi Ko pc L (.long x :: st) k sl n w comp := by
  intro X hx q hq r hr H locs ls hl hH hS
  subst hp
  exact lv_l2d X.1.1 X.1.2.1 d  (K X hx q hq r hr H locs ls hl hH hS)
theorem hz_lcmp {x y : Int64} (d : decode cc pc = .ok (.lcmp, 1)) (hp : pc + 1 = pc') (K : hz_J p l e R s m args below meth c cc nL own ret B tb ini ex Fi Ko pc' L (.int (lg_cmp x y) :: st) k sl n w comp) : hz_J p l e R s m args below meth c cc nL own ret B tb ini ex Fi Ko pc L (.long y :: .long x :: st) k sl n w comp := by
  intro X hx q hq r hr H locs ls hl hH hS
  subst hp
  exact W.lcmp X.1.1 X.1.2.1 d  (K X hx q hq r hr H locs ls hl hH hS)
theorem hz_dcmp {x y : UInt64} {op : CmpOp} (d : decode cc pc = .ok (.dcmp op, 1)) (hp : pc + 1 = pc') (K : hz_J p l e R s m args below meth c cc nL own ret B tb ini ex Fi Ko pc' L (.int (Op.cmpValue (FP.dcmp x y) op) :: st) k sl n w comp) : hz_J p l e R s m args below meth c cc nL own ret B tb ini ex Fi Ko pc L (.double y :: .double x :: st) k sl n w comp := by
  intro X hx q hq r hr H locs ls hl hH hS
  subst hp
  exact lv_dcmp X.1.1 X.1.2.1 d  (K X hx q hq r hr H locs ls hl hH hS)
theorem hz_fcmp {x y : UInt32} {op : CmpOp} (d : decode cc pc = .ok (.fcmp op, 1)) (hp : pc + 1 = pc') (K : hz_J p l e R s m args below meth c cc nL own ret B tb ini ex Fi Ko pc' L (.int (Op.cmpValue (FP.fcmp x y) op) :: st) k sl n w comp) : hz_J p l e R s m args below meth c cc nL own ret B tb ini ex Fi Ko pc L (.float y :: .float x :: st) k sl n w comp := by
  intro X hx q hq r hr H locs ls hl hH hS
  subst hp
  exact lv_fcmp X.1.1 X.1.2.1 d  (K X hx q hq r hr H locs ls hl hH hS)
theorem hz_dup {va : Value} (d : decode cc pc = .ok (.dup, 1)) (hp : pc + 1 = pc') (hc : va.category = 1) (K : hz_J p l e R s m args below meth c cc nL own ret B tb ini ex Fi Ko pc' L (va :: va :: st) k sl n w comp) : hz_J p l e R s m args below meth c cc nL own ret B tb ini ex Fi Ko pc L (va :: st) k sl n w comp := by
  intro X hx q hq r hr H locs ls hl hH hS
  subst hp
  exact lv_dup X.1.1 X.1.2.1 d hc (K X hx q hq r hr H locs ls hl hH hS)
theorem hz_pop {va : Value} (d : decode cc pc = .ok (.pop, 1)) (hp : pc + 1 = pc') (hc : va.category = 1) (K : hz_J p l e R s m args below meth c cc nL own ret B tb ini ex Fi Ko pc' L st k sl n w comp) : hz_J p l e R s m args below meth c cc nL own ret B tb ini ex Fi Ko pc L (va :: st) k sl n w comp := by
  intro X hx q hq r hr H locs ls hl hH hS
  subst hp
  exact lv_pop X.1.1 X.1.2.1 d hc (K X hx q hq r hr H locs ls hl hH hS)
theorem hz_dup2 {va vb : Value} (d : decode cc pc = .ok (.dup2, 1)) (hp : pc + 1 = pc') (hc : va.category = 1) (hc2 : vb.category = 1) (K : hz_J p l e R s m args below meth c cc nL own ret B tb ini ex Fi Ko pc' L (va :: vb :: va :: vb :: st) k sl n w comp) : hz_J p l e R s m args below meth c cc nL own ret B tb ini ex Fi Ko pc L (va :: vb :: st) k sl n w comp := by
  intro X hx q hq r hr H locs ls hl hH hS
  subst hp
  exact lv_dup2_11 X.1.1 X.1.2.1 d hc hc2 (K X hx q hq r hr H locs ls hl hH hS)
theorem hz_fconst0 (d : decode cc pc = .ok (.fconst 0, 1)) (hp : pc + 1 = pc') (K : hz_J p l e R s m args below meth c cc nL own ret B tb ini ex Fi Ko pc' L (.float 0 :: st) k sl n w comp) : hz_J p l e R s m args below meth c cc nL own ret B tb ini ex Fi Ko pc L st k sl n w comp := by
  intro X hx q hq r hr H locs ls hl hH hS
  subst hp
  exact lv_fconst0 X.1.1 X.1.2.1 d  (K X hx q hq r hr H locs ls hl hH hS)
theorem hz_dconst0 (d : decode cc pc = .ok (.dconst 0, 1)) (hp : pc + 1 = pc') (K : hz_J p l e R s m args below meth c cc nL own ret B tb ini ex Fi Ko pc' L (.double 0 :: st) k sl n w comp) : hz_J p l e R s m args below meth c cc nL own ret B tb ini ex Fi Ko pc L st k sl n w comp := by
  intro X hx q hq r hr H locs ls hl hH hS
  subst hp
  exact lv_dconst0 X.1.1 X.1.2.1 d  (K X hx q hq r hr H locs ls hl hH hS)
theorem hz_idiv {x y : Int32} {KK : Int32 → Option σ} (d : decode cc pc = .ok (.idiv, 1)) (hp : pc + 1 = pc') (K : ∀ v : Int32, hz_J p l e R s m args below meth c cc nL own ret B tb ini ex Fi Ko pc' L (.int v :: st) k sl n w (KK v)) : hz_J p l e R s m args below meth c cc nL own ret B tb ini ex Fi Ko pc L (.int y :: .int x :: st) k sl n w (hz_cdiv x y KK) := by
  intro X hx q hq r hr H locs ls hl hH hS
  subst hp
  unfold hz_cdiv at hq
  split at hq
  · cases hq
  · rename_i hy
    exact lv_idiv X.1.1 X.1.2.1 d hy (K _ X hx q hq r hr H locs ls hl hH hS)
theorem hz_irem {x y : Int32} {KK : Int32 → Option σ} (d : decode cc pc = .ok (.irem, 1)) (hp : pc + 1 = pc') (K : ∀ v : Int32, hz_J p l e R s m args below meth c cc nL own ret B tb ini ex Fi Ko pc' L (.int v :: st) k sl n w (KK v)) : hz_J p l e R s m args below meth c cc nL own ret B tb ini ex Fi Ko pc L (.int y :: .int x :: st) k sl n w (hz_crem x y KK) := by
  intro X hx q hq r hr H locs ls hl hH hS
  subst hp
  unfold hz_crem at hq
  split at hq
  · cases hq
  · rename_i hy
    exact lv_irem X.1.1 X.1.2.1 d hy (K _ X hx q hq r hr H locs ls hl hH hS)
theorem hz_ldiv {x y : Int64} {KK : Int64 → Option σ} (d : decode cc pc = .ok (.ldiv, 1)) (hp : pc + 1 = pc') (K : ∀ v : Int64, hz_J p l e R s m args below meth c cc nL own ret B tb ini ex Fi Ko pc' L (.long v :: st) k sl n w (KK v)) : hz_J p l e R s m args below meth c cc nL own ret B tb ini ex Fi Ko pc L (.long y :: .long x :: st) k sl n w (hz_cldiv x y KK) := by
  intro X hx q hq r hr H locs ls hl hH hS
  subst hp
  unfold hz_cldiv at hq
  split at hq
  · cases hq
  · rename_i hy
    exact lv_ldiv X.1.1 X.1.2.1 d hy (K _ X hx q hq r hr H locs ls hl hH hS)
theorem hz_fdiv {x y : UInt32} {KK : UInt32 → Option σ} (d : decode cc pc = .ok (.fdiv, 1)) (hp : pc + 1 = pc') (K : ∀ v : UInt32, hz_J p l e R s m args below meth c cc nL own ret B tb ini ex Fi Ko pc' L (.float v :: st) k sl n w (KK v)) : hz_J p l e R s m args below meth c cc nL own ret B tb ini ex Fi Ko pc L (.float y :: .float x :: st) k sl n w (hz_nfl (FP.fdiv x y) KK) := by
  intro X hx q hq r hr H locs ls hl hH hS
  subst hp
  unfold hz_nfl at hq
  split at hq
  · rename_i hy
    exact lv_fdiv X.1.1 X.1.2.1 d hy (K _ X hx q hq r hr H locs ls hl hH hS)
  · cases hq
theorem hz_ddiv {x y : UInt64} {KK : UInt64 → Option σ} (d : decode cc pc = .ok (.ddiv, 1)) (hp : pc + 1 = pc') (K : ∀ v : UInt64, hz_J p l e R s m args below meth c cc nL own ret B tb ini ex Fi Ko pc' L (.double v :: st) k sl n w (KK v)) : hz_J p l e R s m args below meth c cc nL own ret B tb ini ex Fi Ko pc L (.double y :: .double x :: st) k sl n w (hz_nd (FP.ddiv x y) KK) := by
  intro X hx q hq r hr H locs ls hl hH hS
  subst hp
  unfold hz_nd at hq
  split at hq
  · rename_i hy
    exact lv_ddiv X.1.1 X.1.2.1 d hy (K _ X hx q hq r hr H locs ls hl hH hS)
  · cases hq
theorem hz_f2d {x : UInt32} {KK : UInt64 → Option σ} (d : decode cc pc = .ok (.f2d, 1)) (hp : pc + 1 = pc') (K : ∀ v : UInt64, hz_J p l e R s m args below meth c cc nL own ret B tb ini ex Fi Ko pc' L (.double v :: st) k sl n w (KK v)) : hz_J p l e R s m args below meth c cc nL own ret B tb ini ex Fi Ko pc L (.float x :: st) k sl n w (hz_nd (FP.f2d x) KK) := by
  intro X hx q hq r hr H locs ls hl hH hS
  subst hp
  unfold hz_nd at hq
  split at hq
  · rename_i hy
    exact lv_f2d X.1.1 X.1.2.1 d hy (K _ X hx q hq r hr H locs ls hl hH hS)
  · cases hq
theorem hz_icmpeq {x y : Int32} {off : Int} {tgt : Nat} {A C : Option σ} (d : decode cc pc = .ok (.if_icmp .eq off, 3)) (ht : (pc : Int) + off = (tgt : Int)) (hp : pc + 3 = pc') (KT : hz_J p l e R s m args below meth c cc nL own ret B tb ini ex Fi Ko tgt L st k sl n w A) (KF : hz_J p l e R s m args below meth c cc nL own ret B tb ini ex Fi Ko pc' L st k sl n w C) : hz_J p l e R s m args below meth c cc nL own ret B tb ini ex Fi Ko pc L (.int y :: .int x :: st) k sl n w (if x = y then A else C) := by
  intro X hx q hq r hr H locs ls hl hH hS
  subst hp
  exact lv_icmp_eq X.1.1 X.1.2.1 d ht (fun h => KT X hx q (by rw [if_pos h] at hq; exact hq) r hr H locs ls hl hH hS) (fun h => KF X hx q (by rw [if_neg h] at hq; exact hq) r hr H locs ls hl hH hS)
theorem hz_ifeq {x : Int32} {off : Int} {tgt : Nat} {A C : Option σ} (d : decode cc pc = .ok (.ifCond .eq off, 3)) (ht : (pc : Int) + off = (tgt : Int)) (hp : pc + 3 = pc') (KT : hz_J p l e R s m args below meth c cc nL own ret B tb ini ex Fi Ko tgt L st k sl n w A) (KF : hz_J p l e R s m args below meth c cc nL own ret B tb ini ex Fi Ko pc' L st k sl n w C) : hz_J p l e R s m args below meth c cc nL own ret B tb ini ex Fi Ko pc L (.int x :: st) k sl n w (if x = 0 then A else C) := by
  intro X hx q hq r hr H locs ls hl hH hS
  subst hp
  exact lv_if_eq X.1.1 X.1.2.1 d ht (fun h => KT X hx q (by rw [if_pos h] at hq; exact hq) r hr H locs ls hl hH hS) (fun h => KF X hx q (by rw [if_neg h] at hq; exact hq) r hr H locs ls hl hH hS)
theorem hz_icmpne {x y : Int32} {off : Int} {tgt : Nat} {A C : Option σ} (d : decode cc pc = .ok (.if_icmp .ne off, 3)) (ht : (pc : Int) + off = (tgt : Int)) (hp : pc + 3 = pc') (KT : hz_J p l e R s m args below meth c cc nL own ret B tb ini ex Fi Ko tgt L st k sl n w C) (KF : hz_J p l e R s m args below meth c cc nL own ret B tb ini ex Fi Ko pc' L st k sl n w A) : hz_J p l e R s m args below meth c cc nL own ret B tb ini ex Fi Ko pc L (.int y :: .int x :: st) k sl n w (if x = y then A else C) := by
  intro X hx q hq r hr H locs ls hl hH hS
  subst hp
  exact lv_icmp_ne X.1.1 X.1.2.1 d ht (fun h => KT X hx q (by rw [if_neg h] at hq; exact hq) r hr H locs ls hl hH hS) (fun h => KF X hx q (by rw [if_pos h] at hq; exact hq) r hr H locs ls hl hH hS)
theorem hz_ifne {x : Int32} {off : Int} {tgt : Nat} {A C : Option σ} (d : decode cc pc = .ok (.ifCond .ne off, 3)) (ht : (pc : Int) + off = (tgt : Int)) (hp : pc + 3 = pc') (KT : hz_J p l e R s m args below meth c cc nL own ret B tb ini ex Fi Ko tgt L st k sl n w C) (KF : hz_J p l e R s m args below meth c cc nL own ret B tb ini ex Fi Ko pc' L st k sl n w A) : hz_J p l e R s m args below meth c cc nL own ret B tb ini ex Fi Ko pc L (.int x :: st) k sl n w (if x = 0 then A else C) := by
  intro X hx q hq r hr H locs ls hl hH hS
  subst hp
  exact lv_if_ne X.1.1 X.1.2.1 d ht (fun h => KT X hx q (by rw [if_neg h] at hq; exact hq) r hr H locs ls hl hH hS) (fun h => KF X hx q (by rw [if_pos h] at hq; exact hq) r hr H locs ls hl hH hS)
theorem hz_icmplt {x y : Int32} {off : Int} {tgt : Nat} {A C : Option σ} (d : decode cc pc = .ok (.if_icmp .lt off, 3)) (ht : (pc : Int) + off = (tgt : Int)) (hp : pc + 3 = pc') (KT : hz_J p l e R s m args below meth c cc nL own ret B tb ini ex Fi Ko tgt L st k sl n w A) (KF : hz_J p l e R s m args below meth c cc nL own ret B tb ini ex Fi Ko pc' L st k sl n w C) : hz_J p l e R s m args below meth c cc nL own ret B tb ini ex Fi Ko pc L (.int y :: .int x :: st) k sl n w (if x < y then A else C) := by
  intro X hx q hq r hr H locs ls hl hH hS
  subst hp
  exact lv_icmp_lt X.1.1 X.1.2.1 d ht (fun h => KT X hx q (by rw [if_pos h] at hq; exact hq) r hr H locs ls hl hH hS) (fun h => KF X hx q (by rw [if_neg h] at hq; exact hq) r hr H locs ls hl hH hS)
theorem hz_iflt {x : Int32} {off : Int} {tgt : Nat} {A C : Option σ} (d : decode cc pc = .ok (.ifCond .lt off, 3)) (ht : (pc : Int) + off = (tgt : Int)) (hp : pc + 3 = pc') (KT : hz_J p l e R s m args below meth c cc nL own ret B tb ini ex Fi Ko tgt L st k sl n w A) (KF : hz_J p l e R s m args below meth c cc nL own ret B tb ini ex Fi Ko pc' L st k sl n w C) : hz_J p l e R s m args below meth c cc nL own ret B tb ini ex Fi Ko pc L (.int x :: st) k sl n w (if x < 0 then A else C) := by
  intro X hx q hq r hr H locs ls hl hH hS
  subst hp
  exact lv_if_lt X.1.1 X.1.2.1 d ht (fun h => KT X hx q (by rw [if_pos h] at hq; exact hq) r hr H locs ls hl hH hS) (fun h => KF X hx q (by rw [if_neg h] at hq; exact hq) r hr H locs ls hl hH hS)
theorem hz_icmpge {x y : Int32} {off : Int} {tgt : Nat} {A C : Option σ} (d : decode cc pc = .ok (.if_icmp .ge off, 3)) (ht : (pc : Int) + off = (tgt : Int)) (hp : pc + 3 = pc') (KT : hz_J p l e R s m args below meth c cc nL own ret B tb ini ex Fi Ko tgt L st k sl n w A) (KF : hz_J p l e R s m args below meth c cc nL own ret B tb ini ex Fi Ko pc' L st k sl n w C) : hz_J p l e R s m args below meth c cc nL own ret B tb ini ex Fi Ko pc L (.int y :: .int x :: st) k sl n w (if y ≤ x then A else C) := by
  intro X hx q hq r hr H locs ls hl hH hS
  subst hp
  exact lv_icmp_ge X.1.1 X.1.2.1 d ht (fun h => KT X hx q (by rw [if_pos h] at hq; exact hq) r hr H locs ls hl hH hS) (fun h => KF X hx q (by rw [if_neg h] at hq; exact hq) r hr H locs ls hl hH hS)
theorem hz_ifge {x : Int32} {off : Int} {tgt : Nat} {A C : Option σ} (d : decode cc pc = .ok (.ifCond .ge off, 3)) (ht : (pc : Int) + off = (tgt : Int)) (hp : pc + 3 = pc') (KT : hz_J p l e R s m args below meth c cc nL own ret B tb ini ex Fi Ko tgt L st k sl n w A) (KF : hz_J p l e R s m args below meth c cc nL own ret B tb ini ex Fi Ko pc' L st k sl n w C) : hz_J p l e R s m args below meth c cc nL own ret B tb ini ex Fi Ko pc L (.int x :: st) k sl n w (if 0 ≤ x then A else C) := by
  intro X hx q hq r hr H locs ls hl hH hS
  subst hp
  exact lv_if_ge X.1.1 X.1.2.1 d ht (fun h => KT X hx q (by rw [if_pos h] at hq; exact hq) r hr H locs ls hl hH hS) (fun h => KF X hx q (by rw [if_neg h] at hq; exact hq) r hr H locs ls hl hH hS)
theorem hz_icmpgt {x y : Int32} {off : Int} {tgt : Nat} {A C : Option σ} (d : decode cc pc = .ok (.if_icmp .gt off, 3)) (ht : (pc : Int) + off = (tgt : Int)) (hp : pc + 3 = pc') (KT : hz_J p l e R s m args below meth c cc nL own ret B tb ini ex Fi Ko tgt L st k sl n w A) (KF : hz_J p l e R s m args below meth c cc nL own ret B tb ini ex Fi Ko pc' L st k sl n w C) : hz_J p l e R s m args below meth c cc nL own ret B tb ini ex Fi Ko pc L (.int y :: .int x :: st) k sl n w (if y < x then A else C) := by
  intro X hx q hq r hr H locs ls hl hH hS
  subst hp
  exact lv_icmp_gt X.1.1 X.1.2.1 d ht (fun h => KT X hx q (by rw [if_pos h] at hq; exact hq) r hr H locs ls hl hH hS) (fun h => KF X hx q (by rw [if_neg h] at hq; exact hq) r hr H locs ls hl hH hS)
theorem hz_ifgt {x : Int32} {off : Int} {tgt : Nat} {A C : Option σ} (d : decode cc pc = .ok (.ifCond .gt off, 3)) (ht : (pc : Int) + off = (tgt : Int)) (hp : pc + 3 = pc') (KT : hz_J p l e R s m args below meth c cc nL own ret B tb ini ex Fi Ko tgt L st k sl n w A) (KF : hz_J p l e R s m args below meth c cc nL own ret B tb ini ex Fi Ko pc' L st k sl n w C) : hz_J p l e R s m args below meth c cc nL own ret B tb ini ex Fi Ko pc L (.int x :: st) k sl n w (if 0 < x then A else C) := by
  intro X hx q hq r hr H locs ls hl hH hS
  subst hp
  exact lv_if_gt X.1.1 X.1.2.1 d ht (fun h => KT X hx q (by rw [if_pos h] at hq; exact hq) r hr H locs ls hl hH hS) (fun h => KF X hx q (by rw [if_neg h] at hq; exact hq) r hr H locs ls hl hH hS)
theorem hz_icmple {x y : Int32} {off : Int} {tgt : Nat} {A C : Option σ} (d : decode cc pc = .ok (.if_icmp .le off, 3)) (ht : (pc : Int) + off = (tgt : Int)) (hp : pc + 3 = pc') (KT : hz_J p l e R s m args below meth c cc nL own ret B tb ini ex Fi Ko tgt L st k sl n w A) (KF : hz_J p l e R s m args below meth c cc nL own ret B tb ini ex Fi Ko pc' L st k sl n w C) : hz_J p l e R s m args below meth c cc nL own ret B tb ini ex Fi Ko pc L (.int y :: .int x :: st) k sl n w (if x ≤ y then A else C) := by
  intro X hx q hq r hr H locs ls hl hH hS
  subst hp
  exact lv_icmp_le X.1.1 X.1.2.1 d ht (fun h => KT X hx q (by rw [if_pos h] at hq; exact hq) r hr H locs ls hl hH hS) (fun h => KF X hx q (by rw [if_neg h] at hq; exact hq) r hr H locs ls hl hH hS)
theorem hz_ifle {x : Int32} {off : Int} {tgt : Nat} {A C : Option σ} (d : decode cc pc = .ok (.ifCond .le off, 3)) (ht : (pc : Int) + off = (tgt : Int)) (hp : pc + 3 = pc') (KT : hz_J p l e R s m args below meth c cc nL own ret B tb ini ex Fi Ko tgt L st k sl n w A) (KF : hz_J p l e R s m args below meth c cc nL own ret B tb ini ex Fi Ko pc' L st k sl n w C) : hz_J p l e R s m args below meth c cc nL own ret B tb ini ex Fi Ko pc L (.int x :: st) k sl n w (if x ≤ 0 then A else C) := by
  intro X hx q hq r hr H locs ls hl hH hS
  subst hp
  exact lv_if_le X.1.1 X.1.2.1 d ht (fun h => KT X hx q (by rw [if_pos h] at hq; exact hq) r hr H locs ls hl hH hS) (fun h => KF X hx q (by rw [if_neg h] at hq; exact hq) r hr H locs ls hl hH hS)
theorem hz_goto {off : Int} {tgt : Nat} (d : decode cc pc = .ok (.goto off, 3)) (ht : (pc : Int) + off = (tgt : Int)) (K : hz_J p l e R s m args below meth c cc nL own ret B tb ini ex Fi Ko tgt L st k sl n w comp) : hz_J p l e R s m args below meth c cc nL own ret B tb ini ex Fi Ko pc L st k sl n w comp := by
  intro X hx q hq r hr H locs ls hl hH hS
  exact lv_goto X.1.1 X.1.2.1 d ht (K X hx q hq r hr H locs ls hl hH hS)
theorem hz_ifnull {x : Nat} {off : Int} (d : decode cc pc = .ok (.ifnull off, 3)) (hp : pc + 3 = pc') (K : hz_J p l e R s m args below meth c cc nL own ret B tb ini ex Fi Ko pc' L st k sl n w comp) : hz_J p l e R s m args below meth c cc nL own ret B tb ini ex Fi Ko pc L (.ref x :: st) k sl n w comp := by
  intro X hx q hq r hr H locs ls hl hH hS
  subst hp
  exact lv_ifnull X.1.1 X.1.2.1 d (K X hx q hq r hr H locs ls hl hH hS)
theorem hz_ldc {z : Nat} {v : Int32} (d : decode cc pc = .ok (.ldc z, 2)) (hp : pc + 2 = pc') (hc : Cond.constant own z v ∈ hz_good) (K : hz_J p l e R s m args below meth c cc nL own ret B tb ini ex Fi Ko pc' L (.int v :: st) k sl n w comp) : hz_J p l e R s m args below meth c cc nL own ret B tb ini ex Fi Ko pc L st k sl n w comp := by
  intro X hx q hq r hr H locs ls hl hH hS
  subst hp
  exact lv_ldc X.1.1 X.1.2.1 X.1.2.2.2.1 (X.1.2.2.2.2 _ hc) d (K X hx q hq r hr H locs ls hl hH hS)
theorem hz_ldcw {z : Nat} {v : Int32} (d : decode cc pc = .ok (.ldc_w z, 3)) (hp : pc + 3 = pc') (hc : Cond.constant own z v ∈ hz_good) (K : hz_J p l e R s m args below meth c cc nL own ret B tb ini ex Fi Ko pc' L (.int v :: st) k sl n w comp) : hz_J p l e R s m args below meth c cc nL own ret B tb ini ex Fi Ko pc L st k sl n w comp := by
  intro X hx q hq r hr H locs ls hl hH hS
  subst hp
  exact lv_ldcw X.1.1 X.1.2.1 X.1.2.2.2.1 (X.1.2.2.2.2 _ hc) d (K X hx q hq r hr H locs ls hl hH hS)
theorem hz_ldc2 {z : Nat} {v : Int64} (d : decode cc pc = .ok (.ldc2_w z, 3)) (hp : pc + 3 = pc') (hc : Cond.constantLong own z v ∈ hz_good) (K : hz_J p l e R s m args below meth c cc nL own ret B tb ini ex Fi Ko pc' L (.long v :: st) k sl n w comp) : hz_J p l e R s m args below meth c cc nL own ret B tb ini ex Fi Ko pc L st k sl n w comp := by
  intro X hx q hq r hr H locs ls hl hH hS
  subst hp
  exact lv_ldc2 X.1.1 X.1.2.1 X.1.2.2.2.1 (X.1.2.2.2.2 _ hc) d (K X hx q hq r hr H locs ls hl hH hS)
theorem hz_ldcS {z i : Nat} {tx : String} (d : decode cc pc = .ok (.ldc z, 2)) (hp : pc + 2 = pc') (hc : hz_strs[i]? = some (own, z, tx)) (K : hz_J p l e R s m args below meth c cc nL own ret B tb ini ex Fi Ko pc' L (.ref (B.2.2.2.1 i) :: st) k sl n w comp) : hz_J p l e R s m args below meth c cc nL own ret B tb ini ex Fi Ko pc L st k sl n w comp := by
  intro X hx q hq r hr H locs ls hl hH hS
  subst hp
  exact va_ldcS X.1.1 X.1.2.1 X.1.2.2.2.1 (X.2.1.2.2.2.2.2.2.1 i _ hc) d (K X hx q hq r hr H locs ls hl hH hS)
theorem hz_swIn {dflt lo hi : Int} {offs : Array Int} {len : Nat} {x v : Int32} {off : Int} {tgt : Nat} {A C : Option σ} (d : decode cc pc = .ok (.tableswitch dflt lo hi offs, len)) (h1 : ¬ v.toInt < lo) (h2 : ¬ hi < v.toInt) (ho : offs[(v.toInt - lo).toNat]? = some off) (ht : (pc : Int) + off = (tgt : Int)) (KT : hz_J p l e R s m args below meth c cc nL own ret B tb ini ex Fi Ko tgt L st k sl n w A) (KF : (¬ x = v) → hz_J p l e R s m args below meth c cc nL own ret B tb ini ex Fi Ko pc L (.int x :: st) k sl n w C) : hz_J p l e R s m args below meth c cc nL own ret B tb ini ex Fi Ko pc L (.int x :: st) k sl n w (if x = v then A else C) := by
  intro X hx q hq r hr H locs ls hl hH hS
  by_cases h : x = v
  · rw [if_pos h] at hq
    subst h
    exact lv_tableIn X.1.1 X.1.2.1 d h1 h2 ho ht (KT X hx q hq r hr H locs ls hl hH hS)
  · rw [if_neg h] at hq
    exact KF h X hx q hq r hr H locs ls hl hH hS
theorem hz_swOut {dflt lo hi : Int} {offs : Array Int} {len : Nat} {x : Int32} {tgt : Nat} (d : decode cc pc = .ok (.tableswitch dflt lo hi offs, len)) (h : x.toInt < lo ∨ hi < x.toInt) (ht : (pc : Int) + dflt = (tgt : Int)) (K : hz_J p l e R s m args below meth c cc nL own ret B tb ini ex Fi Ko tgt L st k sl n w comp) : hz_J p l e R s m args below meth c cc nL own ret B tb ini ex Fi Ko pc L (.int x :: st) k sl n w comp := by
  intro X hx q hq r hr H locs ls hl hH hS
  exact lv_tableOut X.1.1 X.1.2.1 d h ht (K X hx q hq r hr H locs ls hl hH hS)
end HZJ
