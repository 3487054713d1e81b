/-! ===== rows of the memory ===== -/
def hz_FL (own : String) (z ci fk : Nat) (fty : FieldType) (fin : Bool) : Prop := ∃ (C : String) (T : u_T) (N : Nat) (ty : Nat → FieldType), vwCl[ci]? = some (C, T, N) ∧ hz_nf ci = N ∧ fk < N ∧ ci < 20 ∧ (∀ w ∈ u_ws C T N, w ∈ hz_good) ∧ Cond.fieldLink own z (T fk).1 (T fk).2.1 (T fk).2.2.1 ∈ hz_good ∧ (∀ k, k < N → parseFieldDescriptor (T k).2.2.1 = some (ty k)) ∧ (∀ a, a < N → ∀ b, b < N → a ≠ b → (T a).2.1 ≠ (T b).2.1) ∧ parseFieldDescriptor (T fk).2.2.1 = some fty ∧ (T fk).2.2.2 = fin ∧ (fin = true → (T fk).1 = own)
def hz_isb (x : Int32) : Bool := (x == 0) || (x == 1)
theorem hz_isb_n {x : Int32} (h : hz_isb x = true) : narrow .boolean (.int x) = .int x ∧ fits .boolean (.int x) = true := by
  simp only [hz_isb, Bool.or_eq_true, beq_iff_eq] at h
  rcases h with rfl | rfl <;> exact ⟨rfl, rfl⟩
def hz_ldq {σ : Type} (w : MW) (a : Nat) (i : Int32) (n c : Nat) (K : Nat → Option σ) : Option σ := hz_gd (hz_ix i (hz_ln a)) (hz_ldp w a i.toNatClampNeg n c K)
def hz_stb {σ : Type} (w : MW) (a : Nat) (i x : Int32) (K : MW → Option σ) : Option σ := hz_gd (hz_ix i (hz_ln a)) (K (hz_pn w a i.toNatClampNeg (vp_nar .byte x)))
def hz_stq {σ : Type} (w : MW) (a : Nat) (i : Int32) (b : Nat) (K : MW → Option σ) : Option σ := hz_gd (hz_ix i (hz_ln a)) (K (hz_pp w a i.toNatClampNeg (some b)))
def hz_cpok (sp dp cn : Int32) (a0 a : Nat) : Bool := decide (0 ≤ sp) && decide (0 ≤ dp) && decide (0 ≤ cn) && decide (sp.toNatClampNeg + cn.toNatClampNeg ≤ hz_ln a0) && decide (dp.toNatClampNeg + cn.toNatClampNeg ≤ hz_ln a)
def hz_cp {σ : Type} (w : MW) (a0 : Nat) (sp : Int32) (a : Nat) (dp cn : Int32) (K : MW → Option σ) : Option σ := hz_gd (hz_cpok sp dp cn a0 a) (K (hz_pa w a (va_cpy (w.1 a0) (w.1 a) sp.toNatClampNeg dp.toNatClampNeg cn.toNatClampNeg)))
def hz_fr (w : MW) (n : Nat) : MW := (va_up w.1 n (fun _ => 0), va_up w.2.1 n (fun _ => none), w.2.2)
theorem hz_nlt {x : Int32} (h : 0 ≤ x) : ¬ x < 0 := Int32.not_lt.mpr h
section HZM
variable {p : Program} {l : Launch} {e : Env} {R : Room} {s : State} {m : MethodId} {args : Array Value} {below : List Frame} {meth : Method} {c : Code} {cc : ByteArray} {nL : Nat} {own : String} {ret : Option FieldType} {B : Bt} {tb : List ExceptionTableEntry} {ini ex : Bool} {σ ρ : Type} {Fi : ρ → State → Prop} {Ko : σ → Option ρ} {pc pc' : Nat} {L : List (Nat × Value)} {st : List Value} {k sl n : Nat} {w : MW} {comp : Option σ}
theorem hz_at_o {a ci : Nat} (hg : hz_g n a ci = true) (hc : ci < 20) : (hz_wl B n w)[a]? = some (B.1 + a, .inr (ci, (List.range (hz_nf ci)).map (hz_fv B w a ci))) := by
  rw [hz_wl_at (hz_g_lt hg), hz_el_o (hz_g_sh hg) hc]
theorem hz_at_i {a : Nat} (hg : hz_g n a 20 = true) : (hz_wl B n w)[a]? = some (B.1 + a, .inl (B.2.2.1 0, hz_ln a, .inl (w.1 a))) := by
  rw [hz_wl_at (hz_g_lt hg), hz_el_i (hz_g_sh hg)]
theorem hz_at_b {a : Nat} (hg : hz_g n a 21 = true) : (hz_wl B n w)[a]? = some (B.1 + a, .inl (B.2.2.1 1, hz_ln a, .inl (w.1 a))) := by
  rw [hz_wl_at (hz_g_lt hg), hz_el_b (hz_g_sh hg)]
theorem hz_at_r {a : Nat} (hg : hz_g n a 22 = true) : (hz_wl B n w)[a]? = some (B.1 + a, .inl (B.2.2.1 2, hz_ln a, .inr (.inr (.inr (.inr (fun j => (w.2.1 a j).map (B.1 + ·))))))) := by
  rw [hz_wl_at (hz_g_lt hg), hz_el_r (hz_g_sh hg)]
theorem hz_at_l {a : Nat} (hg : hz_g n a 23 = true) : (hz_wl B n w)[a]? = some (B.1 + a, .inl (B.2.2.1 3, hz_ln a, .inr (.inl (vp_updL (fun _ => 0) 0 w.2.2.1)))) := by
  rw [hz_wl_at (hz_g_lt hg), hz_el_l (hz_g_sh hg)]
theorem hz_at_d {a : Nat} (hg : hz_g n a 24 = true) : (hz_wl B n w)[a]? = some (B.1 + a, .inl (B.2.2.1 4, hz_ln a, .inr (.inr (.inr (.inl (vf_upd (fun _ => 0) 0 w.2.2.2)))))) := by
  rw [hz_wl_at (hz_g_lt hg), hz_el_d (hz_g_sh hg)]
theorem hz_getI {z a ci fk : Nat} {fty : FieldType} {fin : Bool} (F : hz_FL own z ci fk fty fin) (hg : hz_g n a ci = true) (hi : hz_isP ci fk = false) (d : decode cc pc = .ok (.getfield z, 3)) (hp : pc + 3 = pc') (K : hz_J p l e R s m args below meth c cc nL own ret B tb ini ex Fi Ko pc' L (.int (w.1 a fk) :: st) k sl n w comp) : hz_J p l e R s m args below meth c cc nL own ret B tb ini ex Fi Ko pc L (.ref (B.1 + a) :: st) k sl n w comp := by
  intro X hx q hq r hr H locs ls hl hH hS
  subst hp
  obtain ⟨C, T, N, ty, f1, f2, f3, f4, f5, f6, -, -, -, -, -⟩ := F
  refine va_get X.1.1 X.1.2.1 X.1.2.2.2.2 f5 X.1.2.2.2.1 X.2.1.2.1 hH.2 a (hz_at_o hg f4) f1 fk f3 (X.1.2.2.2.2 _ f6) (fun _ h => h) (v := .int (w.1 a fk)) ?_ d (K X hx q hq r hr H locs ls hl hH hS)
  rw [hz_fs_at (by rw [f2]; exact f3)]
  simp only [hz_fv, hi, cond_false]
theorem hz_getP {z a ci fk c' : Nat} {fty : FieldType} {fin : Bool} {KK : Nat → Option σ} (F : hz_FL own z ci fk fty fin) (hg : hz_g n a ci = true) (hi : hz_isP ci fk = true) (d : decode cc pc = .ok (.getfield z, 3)) (hp : pc + 3 = pc') (K : ∀ b, hz_g n b c' = true → hz_J p l e R s m args below meth c cc nL own ret B tb ini ex Fi Ko pc' L (.ref (B.1 + b) :: st) k sl n w (KK b)) : hz_J p l e R s m args below meth c cc nL own ret B tb ini ex Fi Ko pc L (.ref (B.1 + a) :: st) k sl n w (hz_ldp w a fk n c' KK) := by
  intro X hx q hq r hr H locs ls hl hH hS
  subst hp
  obtain ⟨C, T, N, ty, f1, f2, f3, f4, f5, f6, -, -, -, -, -⟩ := F
  unfold hz_ldp at hq
  split at hq
  · rename_i b hb
    obtain ⟨hq1, hq2⟩ := hz_gd_some hq
    refine va_get X.1.1 X.1.2.1 X.1.2.2.2.2 f5 X.1.2.2.2.1 X.2.1.2.1 hH.2 a (hz_at_o hg f4) f1 fk f3 (X.1.2.2.2.2 _ f6) (fun _ h => h) (v := .ref (B.1 + b)) ?_ d (K b hq1 X hx q hq2 r hr H locs ls hl hH hS)
    rw [hz_fs_at (by rw [f2]; exact f3)]
    simp only [hz_fv, hi, cond_true, hb, Option.map_some, va_rf]
  · cases hq
theorem hz_Pset {E : va_E} {H1 : Heap} {locs1 : List Loc} {a : Nat} {w' : MW} {H0 : Heap} (he : hz_el B w' a = E) (ho : ∀ b, b ≠ a → hz_el B w' b = hz_el B w b) (h0 : B.1 ≤ H0.size) (hP : va_P B.2.1 vwCl ((hz_wl B n w).set a (B.1 + a, E)) H1) (hS : va_S (hz_A B) H0 H1 locs1) : hz_Hd B n w' H1 := by
  rw [hz_wl_set he ho] at hP
  exact hz_Hd.of hP hS h0
theorem hz_put0 {z a ci fk : Nat} {fty : FieldType} {x : Int32} {KK : MW → Option σ} (F : hz_FL own z ci fk fty false) (hg : hz_g n a ci = true) (hi : hz_isP ci fk = false) (hn : narrow fty (.int x) = .int x) (hf : fits fty (.int x) = true) (d : decode cc pc = .ok (.putfield z, 3)) (hp : pc + 3 = pc') (K : ∀ w', hz_J p l e R s m args below meth c cc nL own ret B tb ini ex Fi Ko pc' L st k sl n w' (KK w')) : hz_J p l e R s m args below meth c cc nL own ret B tb ini ex Fi Ko pc L (.int x :: .ref (B.1 + a) :: st) k sl n w (hz_let (hz_pn w a fk x) KK) := by
  intro X hx q hq r hr H locs ls hl hH hS
  subst hp
  obtain ⟨C, T, N, ty, f1, f2, f3, f4, f5, f6, f7, f8, f9, f10, -⟩ := F
  refine va_put X.1.1 X.1.2.1 X.1.2.2.2.2 f5 ty f7 f8 X.1.2.2.2.1 X.2.1.2.1 hH.2 hz_wlD hS a (hz_at_o hg f4) f1 fk f3 (X.1.2.2.2.2 _ f6) (fun _ h => h) f10 f9 hn hf (by simp only [List.length_map, List.length_range, f2]; exact f3) d (fun H1 locs1 hP1 _ hS1 => ?_)
  refine K _ X hx q hq r hr H1 locs1 ls hl (hz_Pset (w := w) (a := a) ?_ (fun b hb => hz_el_pn hb) X.2.1.1 hP1 hS1) hS1
  rw [hz_el_o (hz_g_sh hg) f4, hz_fs_pn hi]
theorem hz_putI {z a ci fk : Nat} {x : Int32} {KK : MW → Option σ} (F : hz_FL own z ci fk .int false) (hg : hz_g n a ci = true) (hi : hz_isP ci fk = false) (d : decode cc pc = .ok (.putfield z, 3)) (hp : pc + 3 = pc') (K : ∀ w', hz_J p l e R s m args below meth c cc nL own ret B tb ini ex Fi Ko pc' L st k sl n w' (KK w')) : hz_J p l e R s m args below meth c cc nL own ret B tb ini ex Fi Ko pc L (.int x :: .ref (B.1 + a) :: st) k sl n w (hz_let (hz_pn w a fk x) KK) :=
  hz_put0 F hg hi rfl rfl d hp K
theorem hz_putZ {z a ci fk : Nat} {x : Int32} {KK : MW → Option σ} (F : hz_FL own z ci fk .boolean false) (hg : hz_g n a ci = true) (hi : hz_isP ci fk = false) (d : decode cc pc = .ok (.putfield z, 3)) (hp : pc + 3 = pc') (K : ∀ w', hz_J p l e R s m args below meth c cc nL own ret B tb ini ex Fi Ko pc' L st k sl n w' (KK w')) : hz_J p l e R s m args below meth c cc nL own ret B tb ini ex Fi Ko pc L (.int x :: .ref (B.1 + a) :: st) k sl n w (hz_gd (hz_isb x) (hz_let (hz_pn w a fk x) KK)) := by
  intro X hx q hq
  obtain ⟨h1, h2⟩ := hz_gd_some hq
  exact hz_put0 F hg hi (hz_isb_n h1).1 (hz_isb_n h1).2 d hp K X hx q h2
theorem hz_putP {z a ci fk b : Nat} {fty : FieldType} {KK : MW → Option σ} (F : hz_FL own z ci fk fty true) (hini : ini = true) (hg : hz_g n a ci = true) (hi : hz_isP ci fk = true) (hn : narrow fty (.ref (B.1 + b)) = .ref (B.1 + b)) (hf : fits fty (.ref (B.1 + b)) = true) (d : decode cc pc = .ok (.putfield z, 3)) (hp : pc + 3 = pc') (K : ∀ w', hz_J p l e R s m args below meth c cc nL own ret B tb ini ex Fi Ko pc' L st k sl n w' (KK w')) : hz_J p l e R s m args below meth c cc nL own ret B tb ini ex Fi Ko pc L (.ref (B.1 + b) :: .ref (B.1 + a) :: st) k sl n w (hz_let (hz_pp w a fk (some b)) KK) := by
  intro X hx q hq r hr H locs ls hl hH hS
  subst hp
  obtain ⟨C, T, N, ty, f1, f2, f3, f4, f5, f6, f7, f8, f9, f10, f11⟩ := F
  refine va_putF X.1.1 X.1.2.1 X.1.2.2.2.2 f5 ty f7 f8 X.1.2.2.2.1 X.2.1.2.1 hH.2 hz_wlD hS a (hz_at_o hg f4) f1 fk f3 (X.1.2.2.2.2 _ f6) (fun _ h => h) f10 (X.2.2.2.2.2.2 hini) (f11 rfl) f9 hn hf (by simp only [List.length_map, List.length_range, f2]; exact f3) d (fun H1 locs1 hP1 _ hS1 => ?_)
  refine K _ X hx q hq r hr H1 locs1 ls hl (hz_Pset (w := w) (a := a) ?_ (fun b hb => hz_el_pp hb) X.2.1.1 hP1 hS1) hS1
  rw [hz_el_o (hz_g_sh hg) f4, hz_fs_pp hi]
-- arrays
theorem hz_iald {a : Nat} {i : Int32} {KK : Int32 → Option σ} (hg : hz_g n a 20 = true) (d : decode cc pc = .ok (.iaload, 1)) (hp : pc + 1 = pc') (K : ∀ v, hz_J p l e R s m args below meth c cc nL own ret B tb ini ex Fi Ko pc' L (.int v :: st) k sl n w (KK v)) : hz_J p l e R s m args below meth c cc nL own ret B tb ini ex Fi Ko pc L (.int i :: .ref (B.1 + a) :: st) k sl n w (hz_lda w a i KK) := by
  intro X hx q hq r hr H locs ls hl hH hS
  subst hp
  obtain ⟨h1, h2⟩ := hz_gd_some hq
  exact va_iald X.1.1 X.1.2.1 X.2.1.2.1 hH.2 a 0 (hz_at_i hg) rfl (hz_ix_in h1) d (K _ X hx q h2 r hr H locs ls hl hH hS)
theorem hz_bald {a : Nat} {i : Int32} {KK : Int32 → Option σ} (hg : hz_g n a 21 = true) (d : decode cc pc = .ok (.baload, 1)) (hp : pc + 1 = pc') (K : ∀ v, hz_J p l e R s m args below meth c cc nL own ret B tb ini ex Fi Ko pc' L (.int v :: st) k sl n w (KK v)) : hz_J p l e R s m args below meth c cc nL own ret B tb ini ex Fi Ko pc L (.int i :: .ref (B.1 + a) :: st) k sl n w (hz_lda w a i KK) := by
  intro X hx q hq r hr H locs ls hl hH hS
  subst hp
  obtain ⟨h1, h2⟩ := hz_gd_some hq
  exact va_bald X.1.1 X.1.2.1 X.2.1.2.1 hH.2 a 1 (hz_at_b hg) rfl (hz_ix_in h1) d (K _ X hx q h2 r hr H locs ls hl hH hS)
theorem hz_iast {a : Nat} {i x : Int32} {KK : MW → Option σ} (hg : hz_g n a 20 = true) (d : decode cc pc = .ok (.iastore, 1)) (hp : pc + 1 = pc') (K : ∀ w', hz_J p l e R s m args below meth c cc nL own ret B tb ini ex Fi Ko pc' L st k sl n w' (KK w')) : hz_J p l e R s m args below meth c cc nL own ret B tb ini ex Fi Ko pc L (.int x :: .int i :: .ref (B.1 + a) :: st) k sl n w (hz_sta w a i x KK) := by
  intro X hx q hq r hr H locs ls hl hH hS
  subst hp
  obtain ⟨h1, h2⟩ := hz_gd_some hq
  refine va_iast X.1.1 X.1.2.1 X.2.1.2.1 hH.2 hz_wlD hS a 0 (hz_at_i hg) rfl (hz_ix_in h1) d (fun H1 locs1 hP1 _ hS1 => ?_)
  refine K _ X hx q h2 r hr H1 locs1 ls hl (hz_Pset (w := w) (a := a) ?_ (fun b hb => hz_el_pn hb) X.2.1.1 hP1 hS1) hS1
  rw [hz_el_i (hz_g_sh hg)]
  simp [hz_pn, va_up]
theorem hz_bast {a : Nat} {i x : Int32} {KK : MW → Option σ} (hg : hz_g n a 21 = true) (d : decode cc pc = .ok (.bastore, 1)) (hp : pc + 1 = pc') (K : ∀ w', hz_J p l e R s m args below meth c cc nL own ret B tb ini ex Fi Ko pc' L st k sl n w' (KK w')) : hz_J p l e R s m args below meth c cc nL own ret B tb ini ex Fi Ko pc L (.int x :: .int i :: .ref (B.1 + a) :: st) k sl n w (hz_stb w a i x KK) := by
  intro X hx q hq r hr H locs ls hl hH hS
  subst hp
  obtain ⟨h1, h2⟩ := hz_gd_some hq
  refine va_bast X.1.1 X.1.2.1 X.2.1.2.1 hH.2 hz_wlD hS a 1 (hz_at_b hg) rfl (hz_ix_in h1) d (fun H1 locs1 hP1 _ hS1 => ?_)
  refine K _ X hx q h2 r hr H1 locs1 ls hl (hz_Pset (w := w) (a := a) ?_ (fun b hb => hz_el_pn hb) X.2.1.1 hP1 hS1) hS1
  rw [hz_el_b (hz_g_sh hg)]
  simp [hz_pn, va_up]
theorem hz_aald {a c' : Nat} {i : Int32} {KK : Nat → Option σ} (hg : hz_g n a 22 = true) (d : decode cc pc = .ok (.aaload, 1)) (hp : pc + 1 = pc') (K : ∀ b, hz_g n b c' = true → hz_J p l e R s m args below meth c cc nL own ret B tb ini ex Fi Ko pc' L (.ref (B.1 + b) :: st) k sl n w (KK b)) : hz_J p l e R s m args below meth c cc nL own ret B tb ini ex Fi Ko pc L (.int i :: .ref (B.1 + a) :: st) k sl n w (hz_ldq w a i n c' KK) := by
  intro X hx q hq r hr H locs ls hl hH hS
  subst hp
  obtain ⟨h1, h2⟩ := hz_gd_some hq
  unfold hz_ldp at h2
  split at h2
  · rename_i b hb
    obtain ⟨h3, h4⟩ := hz_gd_some h2
    refine va_aldq X.1.1 X.1.2.1 X.2.1.2.1 hH.2 a 2 (C := RX3) (hz_at_r hg) rfl (hz_ix_in h1) d ?_
    (try dsimp only)
    rw [hb]
    exact K b h3 X hx q h4 r hr H locs ls hl hH hS
  · cases h2
theorem hz_aast {a b : Nat} {i : Int32} {KK : MW → Option σ} (hg : hz_g n a 22 = true) (hb : hz_g n b 4 = true) (d : decode cc pc = .ok (.aastore, 1)) (hp : pc + 1 = pc') (K : ∀ w', hz_J p l e R s m args below meth c cc nL own ret B tb ini ex Fi Ko pc' L st k sl n w' (KK w')) : hz_J p l e R s m args below meth c cc nL own ret B tb ini ex Fi Ko pc L (.ref (B.1 + b) :: .int i :: .ref (B.1 + a) :: st) k sl n w (hz_stq w a i b KK) := by
  intro X hx q hq r hr H locs ls hl hH hS
  subst hp
  obtain ⟨h1, h2⟩ := hz_gd_some hq
  refine va_astq X.1.1 X.1.2.1 X.2.1.2.1 hH.2 hz_wlD hS a 2 b 4 (r := (RX3, TX3, 15)) (hz_at_r hg) rfl (hz_at_o hb (by decide)) rfl (hz_ix_in h1) d (fun H1 locs1 hP1 _ hS1 => ?_)
  refine K _ X hx q h2 r hr H1 locs1 ls hl (hz_Pset (w := w) (a := a) ?_ (fun b hb => hz_el_pp hb) X.2.1.1 hP1 hS1) hS1
  rw [hz_el_r (hz_g_sh hg)]
  simp only [hz_pp, va_up, if_pos]
  congr 7
  funext j
  by_cases hj : j = i.toNatClampNeg
  · simp [hj, va_up]
  · simp [hj, va_up]
theorem hz_lald {a : Nat} {i : Int32} {KK : Int64 → Option σ} (hg : hz_g n a 23 = true) (hi : i = 0) (d : decode cc pc = .ok (.laload, 1)) (hp : pc + 1 = pc') (K : ∀ v, hz_J p l e R s m args below meth c cc nL own ret B tb ini ex Fi Ko pc' L (.long v :: st) k sl n w (KK v)) : hz_J p l e R s m args below meth c cc nL own ret B tb ini ex Fi Ko pc L (.int i :: .ref (B.1 + a) :: st) k sl n w (hz_let w.2.2.1 KK) := by
  intro X hx q hq r hr H locs ls hl hH hS
  subst hp; subst hi
  have ha := hz_23 (hz_g_sh hg)
  subst ha
  exact va_lald X.1.1 X.1.2.1 X.2.1.2.1 hH.2 356 3 (hz_at_l hg) rfl (hz_ix_in (by decide +kernel)) d (K _ X hx q hq r hr H locs ls hl hH hS)
theorem hz_last {a : Nat} {i : Int32} {x : Int64} {KK : MW → Option σ} (hg : hz_g n a 23 = true) (hi : i = 0) (d : decode cc pc = .ok (.lastore, 1)) (hp : pc + 1 = pc') (K : ∀ w', hz_J p l e R s m args below meth c cc nL own ret B tb ini ex Fi Ko pc' L st k sl n w' (KK w')) : hz_J p l e R s m args below meth c cc nL own ret B tb ini ex Fi Ko pc L (.long x :: .int i :: .ref (B.1 + a) :: st) k sl n w (hz_let (hz_po w x) KK) := by
  intro X hx q hq r hr H locs ls hl hH hS
  subst hp; subst hi
  have ha := hz_23 (hz_g_sh hg)
  subst ha
  refine va_last X.1.1 X.1.2.1 X.2.1.2.1 hH.2 hz_wlD hS 356 3 (hz_at_l hg) rfl (hz_ix_in (by decide +kernel)) d (fun H1 locs1 hP1 _ hS1 => ?_)
  refine K _ X hx q hq r hr H1 locs1 ls hl (hz_Pset (w := w) (a := 356) ?_ (fun b hb => hz_el_po hb) X.2.1.1 hP1 hS1) hS1
  rw [hz_el_l (hz_g_sh hg)]
  simp only [hz_po]
  congr 5
  funext j
  by_cases hj : j = 0
  · simp [vp_updL, hj]
  · simp [vp_updL, hj]
theorem hz_dald {a : Nat} {i : Int32} {KK : UInt64 → Option σ} (hg : hz_g n a 24 = true) (hi : i = 0) (d : decode cc pc = .ok (.daload, 1)) (hp : pc + 1 = pc') (K : ∀ v, hz_J p l e R s m args below meth c cc nL own ret B tb ini ex Fi Ko pc' L (.double v :: st) k sl n w (KK v)) : hz_J p l e R s m args below meth c cc nL own ret B tb ini ex Fi Ko pc L (.int i :: .ref (B.1 + a) :: st) k sl n w (hz_let w.2.2.2 KK) := by
  intro X hx q hq r hr H locs ls hl hH hS
  subst hp; subst hi
  have ha := hz_24 (hz_g_sh hg)
  subst ha
  exact va_dald X.1.1 X.1.2.1 X.2.1.2.1 hH.2 357 4 (hz_at_d hg) rfl (hz_ix_in (by decide +kernel)) d (K _ X hx q hq r hr H locs ls hl hH hS)
theorem hz_dast {a : Nat} {i : Int32} {x : UInt64} {KK : MW → Option σ} (hg : hz_g n a 24 = true) (hi : i = 0) (d : decode cc pc = .ok (.dastore, 1)) (hp : pc + 1 = pc') (K : ∀ w', hz_J p l e R s m args below meth c cc nL own ret B tb ini ex Fi Ko pc' L st k sl n w' (KK w')) : hz_J p l e R s m args below meth c cc nL own ret B tb ini ex Fi Ko pc L (.double x :: .int i :: .ref (B.1 + a) :: st) k sl n w (hz_let (hz_pd w x) KK) := by
  intro X hx q hq r hr H locs ls hl hH hS
  subst hp; subst hi
  have ha := hz_24 (hz_g_sh hg)
  subst ha
  refine va_dast X.1.1 X.1.2.1 X.2.1.2.1 hH.2 hz_wlD hS 357 4 (hz_at_d hg) rfl (hz_ix_in (by decide +kernel)) d (fun H1 locs1 hP1 _ hS1 => ?_)
  refine K _ X hx q hq r hr H1 locs1 ls hl (hz_Pset (w := w) (a := 357) ?_ (fun b hb => hz_el_pd hb) X.2.1.1 hP1 hS1) hS1
  rw [hz_el_d (hz_g_sh hg)]
  simp only [hz_pd]
  congr 7
  funext j
  by_cases hj : j = 0
  · simp [vf_upd, hj]
  · simp [vf_upd, hj]
theorem hz_aleni {a : Nat} (hg : hz_g n a 20 = true) (d : decode cc pc = .ok (.arraylength, 1)) (hp : pc + 1 = pc') (K : hz_J p l e R s m args below meth c cc nL own ret B tb ini ex Fi Ko pc' L (.int (Int32.ofNat (hz_ln a)) :: st) k sl n w comp) : hz_J p l e R s m args below meth c cc nL own ret B tb ini ex Fi Ko pc L (.ref (B.1 + a) :: st) k sl n w comp := by
  intro X hx q hq r hr H locs ls hl hH hS
  subst hp
  exact va_alen X.1.1 X.1.2.1 X.2.1.2.1 hH.2 a 0 (hz_at_i hg) rfl rfl d (K X hx q hq r hr H locs ls hl hH hS)
theorem hz_alenb {a : Nat} (hg : hz_g n a 21 = true) (d : decode cc pc = .ok (.arraylength, 1)) (hp : pc + 1 = pc') (K : hz_J p l e R s m args below meth c cc nL own ret B tb ini ex Fi Ko pc' L (.int (Int32.ofNat (hz_ln a)) :: st) k sl n w comp) : hz_J p l e R s m args below meth c cc nL own ret B tb ini ex Fi Ko pc L (.ref (B.1 + a) :: st) k sl n w comp := by
  intro X hx q hq r hr H locs ls hl hH hS
  subst hp
  exact va_alen X.1.1 X.1.2.1 X.2.1.2.1 hH.2 a 1 (hz_at_b hg) rfl rfl d (K X hx q hq r hr H locs ls hl hH hS)
theorem hz_alenr {a : Nat} (hg : hz_g n a 22 = true) (d : decode cc pc = .ok (.arraylength, 1)) (hp : pc + 1 = pc') (K : hz_J p l e R s m args below meth c cc nL own ret B tb ini ex Fi Ko pc' L (.int (Int32.ofNat (hz_ln a)) :: st) k sl n w comp) : hz_J p l e R s m args below meth c cc nL own ret B tb ini ex Fi Ko pc L (.ref (B.1 + a) :: st) k sl n w comp := by
  intro X hx q hq r hr H locs ls hl hH hS
  subst hp
  exact va_alen X.1.1 X.1.2.1 X.2.1.2.1 hH.2 a 2 (hz_at_r hg) rfl rfl d (K X hx q hq r hr H locs ls hl hH hS)
end HZM
