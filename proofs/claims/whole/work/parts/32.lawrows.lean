def hz_lds {σ : Type} (xs : Nat → Int32) (Ls : Nat) (i : Int32) (K : Int32 → Option σ) : Option σ := hz_gd (hz_ix i Ls) (K (xs i.toNatClampNeg))
section HZLAW
variable {p : Program} {l : Launch} {e : Env} {d9 m9 s9 : Nat} {s : State} {m : MethodId} {args : Array Value} {below : List Frame} {meth : Method} {c : Code} {cc : ByteArray} {nL : Nat} {own : String} {ret : Option FieldType} {B : Bt} {tb : List ExceptionTableEntry} {ini ex : Bool} {σ ρ τ : Type} {Fi : ρ → State → Prop} {Ko : σ → Option ρ} {pc pc' : Nat} {L : List (Nat × Value)} {st : List Value} {k sl n : Nat} {w : MW} {comp : Option σ}
theorem hz_cVf {z mL d mc ms na : Nat} {ci b : Nat} {y : MethodName} {cb : ByteArray} {rt : Option FieldType} {av rest st0 : List Value} {F : Option (UInt32 × MW)} {KK : UInt32 → MW → Option σ} (FL : hz_VL own z ci y cb mL rt na) (hM : ∀ x w', F = some (x, w') → hz_Met l B false n n y cb mL rt d mc ms (.ref (B.1 + b) :: av) w (some (.float x)) w') (hg : hz_g n b ci = true) (hna : av.length = na) (hst : st0 = av.reverse ++ .ref (B.1 + b) :: rest) (hrs : (rest.map fun v => v.category).sum ≤ 8) (hR : d + 1 ≤ d9 ∧ 8 + (mL + 11) + 64 * d ≤ 64 * d9) (hf : k + mc ≤ m9 ∧ sl + ms ≤ s9) (he : ex = false) (dd : decode cc pc = .ok (.invokevirtual z, 3)) (hp : pc + 3 = pc') (K : ∀ x w', hz_J p l e (hz_rm d9 m9 s9) s m args below meth c cc nL own ret B tb ini ex Fi Ko pc' L (.float x :: rest) (k + mc) (sl + ms) n w' (KK x w')) : hz_J p l e (hz_rm d9 m9 s9) s m args below meth c cc nL own ret B tb ini ex Fi Ko pc L st0 k sl n w (hz_b F KK) := by
  intro X hx q hq r hr H locs ls hl hH hS
  subst hp
  cases hF : F with
  | none => rw [hF] at hq; cases hq
  | some w1 =>
    rw [hF] at hq
    exact hz_wV (d := d) X FL (hM w1.1 w1.2 hF) hg hna hst hrs hR hf dd hl hH hS (fun H1 locs1 h1 h2 => K w1.1 w1.2 X (fun z => by rw [he] at z; cases z) q hq r hr H1 locs1 ls hl h1 h2)
theorem hz_cVd {z mL d mc ms na : Nat} {ci b : Nat} {y : MethodName} {cb : ByteArray} {rt : Option FieldType} {av rest st0 : List Value} {F : Option (UInt64 × MW)} {KK : UInt64 → MW → Option σ} (FL : hz_VL own z ci y cb mL rt na) (hM : ∀ x w', F = some (x, w') → hz_Met l B false n n y cb mL rt d mc ms (.ref (B.1 + b) :: av) w (some (.double x)) w') (hg : hz_g n b ci = true) (hna : av.length = na) (hst : st0 = av.reverse ++ .ref (B.1 + b) :: rest) (hrs : (rest.map fun v => v.category).sum ≤ 8) (hR : d + 1 ≤ d9 ∧ 8 + (mL + 11) + 64 * d ≤ 64 * d9) (hf : k + mc ≤ m9 ∧ sl + ms ≤ s9) (he : ex = false) (dd : decode cc pc = .ok (.invokevirtual z, 3)) (hp : pc + 3 = pc') (K : ∀ x w', hz_J p l e (hz_rm d9 m9 s9) s m args below meth c cc nL own ret B tb ini ex Fi Ko pc' L (.double x :: rest) (k + mc) (sl + ms) n w' (KK x w')) : hz_J p l e (hz_rm d9 m9 s9) s m args below meth c cc nL own ret B tb ini ex Fi Ko pc L st0 k sl n w (hz_b F KK) := by
  intro X hx q hq r hr H locs ls hl hH hS
  subst hp
  cases hF : F with
  | none => rw [hF] at hq; cases hq
  | some w1 =>
    rw [hF] at hq
    exact hz_wV (d := d) X FL (hM w1.1 w1.2 hF) hg hna hst hrs hR hf dd hl hH hS (fun H1 locs1 h1 h2 => K w1.1 w1.2 X (fun z => by rw [he] at z; cases z) q hq r hr H1 locs1 ls hl h1 h2)
theorem hz_sld {b Ls : Nat} {xs : Nat → Int32} {i : Int32} {KK : Int32 → Option σ} (hX : va_X b Ls xs s s.heap) (hbl : b < s.heap.size) (hbA : ¬ hz_A B b) (d : decode cc pc = .ok (.iaload, 1)) (hp : pc + 1 = pc') (K : ∀ v, hz_J p l e (hz_rm d9 m9 s9) s m args below meth c cc nL own ret B tb ini ex Fi Ko pc' L (.int v :: st) k sl n w (KK v)) : hz_J p l e (hz_rm d9 m9 s9) s m args below meth c cc nL own ret B tb ini ex Fi Ko pc L (.int i :: .ref b :: st) k sl n w (hz_lds xs Ls i KK) := by
  intro X hx q hq r hr H locs ls hl hH hS
  subst hp
  obtain ⟨h1, h2⟩ := hz_gd_some hq
  exact va_sld X.1.1 X.1.2.1 hX hbl hbA hS (hz_ix_in h1) d (K _ X hx q h2 r hr H locs ls hl hH hS)
theorem hz_slenS {b Ls : Nat} {xs : Nat → Int32} (hX : va_X b Ls xs s s.heap) (hbl : b < s.heap.size) (hbA : ¬ hz_A B b) (d : decode cc pc = .ok (.arraylength, 1)) (hp : pc + 1 = pc') (K : hz_J p l e (hz_rm d9 m9 s9) s m args below meth c cc nL own ret B tb ini ex Fi Ko pc' L (.int (Int32.ofNat Ls) :: st) k sl n w comp) : hz_J p l e (hz_rm d9 m9 s9) s m args below meth c cc nL own ret B tb ini ex Fi Ko pc L (.ref b :: st) k sl n w comp := by
  intro X hx q hq r hr H locs ls hl hH hS
  subst hp
  exact va_slen X.1.1 X.1.2.1 hX hbl hbA hS d (K X hx q hq r hr H locs ls hl hH hS)
theorem hz_exdrop {R : Room} (h : hz_J p l e R s m args below meth c cc nL own ret B tb ini false Fi Ko pc L st k sl n w comp) : hz_J p l e R s m args below meth c cc nL own ret B tb ini true Fi Ko pc L st k sl n w comp :=
  fun X _ => h X (fun z => nomatch z)
end HZLAW
