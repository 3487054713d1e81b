theorem hz_g_up {n n' a c : Nat} (h : hz_g n a c = true) (hn : n ≤ n') : hz_g n' a c = true := by
  simp only [hz_g, Bool.and_eq_true, decide_eq_true_eq] at h ⊢
  exact ⟨by omega, h.2⟩
theorem hz_FL.r {own : String} {z ci fk : Nat} {fty : FieldType} {fin : Bool} (F : hz_FL own z ci fk fty fin) : hz_FLr own z ci fk := by
  obtain ⟨C, T, N, ty, f1, f2, f3, f4, f5, f6, -, -, -, -, -⟩ := F
  exact ⟨C, T, N, f1, f2, f3, f4, f5, f6⟩
section HZM2
variable {p : Program} {l : Launch} {e : Env} {R : Room} {s : State} {m : MethodId} {args : Array Value} {below : List Frame} {meth : Method} {c : Code} {cc : ByteArray} {nL : Nat} {own : String} {ret : Option FieldType} {B : Bt} {tb : List ExceptionTableEntry} {ini ex : Bool} {σ ρ τ : Type} {Fi : ρ → State → Prop} {Ko : σ → Option ρ} {pc pc' : Nat} {L : List (Nat × Value)} {st : List Value} {k sl n d9 m9 s9 : Nat} {w : MW} {comp : Option σ}
theorem hz_gI {z a ci fk : Nat} (F : hz_FLr own z ci fk) (hg : hz_g n a ci = true) (hi : hz_isP ci fk = false) (d : decode cc pc = .ok (.getfield z, 3)) (hp : pc + 3 = pc') (K : hz_J p l e R s m args below meth c cc nL own ret B tb ini ex Fi Ko pc' L (.int (w.1 a fk) :: st) k sl n w comp) : hz_J p l e R s m args below meth c cc nL own ret B tb ini ex Fi Ko pc L (.ref (B.1 + a) :: st) k sl n w comp := by
  intro X hx q hq r hr H locs ls hl hH hS
  subst hp
  obtain ⟨C, T, N, f1, f2, f3, f4, f5, f6⟩ := F
  refine va_get X.1.1 X.1.2.1 X.1.2.2.2.2 f5 X.1.2.2.2.1 X.2.1.2.1 hH.2 a (hz_at_o hg f4) f1 fk f3 (X.1.2.2.2.2 _ f6) (fun _ h => h) (v := .int (w.1 a fk)) ?_ d (K X hx q hq r hr H locs ls hl hH hS)
  rw [hz_fs_at (by rw [f2]; exact f3)]
  simp only [hz_fv, hi, cond_false]
theorem hz_gP {z a ci fk c' : Nat} {KK : Nat → Option σ} (F : hz_FLr own z ci fk) (hg : hz_g n a ci = true) (hi : hz_isP ci fk = true) (d : decode cc pc = .ok (.getfield z, 3)) (hp : pc + 3 = pc') (K : ∀ b, hz_g n b c' = true → hz_J p l e R s m args below meth c cc nL own ret B tb ini ex Fi Ko pc' L (.ref (B.1 + b) :: st) k sl n w (KK b)) : hz_J p l e R s m args below meth c cc nL own ret B tb ini ex Fi Ko pc L (.ref (B.1 + a) :: st) k sl n w (hz_ldp w a fk n c' KK) := by
  intro X hx q hq r hr H locs ls hl hH hS
  subst hp
  obtain ⟨C, T, N, f1, f2, f3, f4, f5, f6⟩ := F
  unfold hz_ldp at hq
  split at hq
  · rename_i b hb
    obtain ⟨hq1, hq2⟩ := hz_gd_some hq
    refine va_get X.1.1 X.1.2.1 X.1.2.2.2.2 f5 X.1.2.2.2.1 X.2.1.2.1 hH.2 a (hz_at_o hg f4) f1 fk f3 (X.1.2.2.2.2 _ f6) (fun _ h => h) (v := .ref (B.1 + b)) ?_ d (K b hq1 X hx q hq2 r hr H locs ls hl hH hS)
    rw [hz_fs_at (by rw [f2]; exact f3)]
    simp only [hz_fv, hi, cond_true, hb, Option.map_some, va_rf]
  · cases hq
end HZM2
section HZL
variable {p : Program} {l : Launch} {e : Env} {R : Room} {s : State} {m : MethodId} {args : Array Value} {below : List Frame} {meth : Method} {c : Code} {cc : ByteArray} {nL : Nat} {own : String} {ret : Option FieldType} {B : Bt} {tb : List ExceptionTableEntry} {ini ex : Bool} {σ ρ τ : Type} {Fi : ρ → State → Prop} {Ko : σ → Option ρ} {pc pcJ : Nat} {L : List (Nat × Value)} {st : List Value} {k sl n kJ slJ nJ : Nat} {w : MW}
/-- two ways that meet: what is behind is walked once -/
theorem hz_bindJ {tree : Option τ} {K2 : τ → Option σ} {LJ : τ → List (Nat × Value)} {stJ : τ → List Value} {wJ : τ → MW} (hj : ∀ q, hz_J p l e R s m args below meth c cc nL own ret B tb ini ex Fi Ko pcJ (LJ q) (stJ q) kJ slJ nJ (wJ q) (K2 q)) (ht : (∀ q, hz_J p l e R s m args below meth c cc nL own ret B tb ini ex Fi (fun q => (K2 q).bind Ko) pcJ (LJ q) (stJ q) kJ slJ nJ (wJ q) (some q)) → hz_J p l e R s m args below meth c cc nL own ret B tb ini ex Fi (fun q => (K2 q).bind Ko) pc L st k sl n w tree) : hz_J p l e R s m args below meth c cc nL own ret B tb ini ex Fi Ko pc L st k sl n w (tree.bind K2) :=
  hz_enter (ht (fun q => hz_leave (hj q)))
/-- a loop: by the fuel -/
theorem hz_loopJ {υ : Type} {lp : Nat → υ → Option σ} {Lh : υ → List (Nat × Value)} {wh : υ → MW} (h0 : ∀ v, lp 0 v = none) (hs : ∀ N, (∀ v, hz_J p l e R s m args below meth c cc nL own ret B tb ini ex Fi Ko pc (Lh v) st k sl n (wh v) (lp N v)) → ∀ v, hz_J p l e R s m args below meth c cc nL own ret B tb ini ex Fi Ko pc (Lh v) st k sl n (wh v) (lp (N + 1) v)) : ∀ N v, hz_J p l e R s m args below meth c cc nL own ret B tb ini ex Fi Ko pc (Lh v) st k sl n (wh v) (lp N v) := by
  intro N
  induction N with
  | zero => intro v; exact hz_no (h0 v)
  | succ N ih => exact hs N ih
end HZL
