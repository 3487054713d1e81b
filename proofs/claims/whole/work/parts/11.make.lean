/-! ===== things made; arraycopy; Math; Object's constructor ===== -/
def hz_ga (n t N : Nat) : Bool := (hz_sh n == t) && (hz_ln n == N)
theorem hz_ga_s {n t N : Nat} (h : hz_ga n t N = true) : hz_sh n = t ∧ hz_ln n = N := by
  simp only [hz_ga, Bool.and_eq_true, beq_iff_eq] at h
  exact h
theorem hz_wl_fr {B : Bt} {n : Nat} {w w' : MW} (h1 : ∀ a, a < n → w'.1 a = w.1 a) (h2 : ∀ a, a < n → w'.2.1 a = w.2.1 a) (h3 : ∀ a, a < n → hz_el B w' a = hz_el B w a) {E : va_E} (he : hz_el B w' n = E) : hz_wl B n w ++ [(B.1 + n, E)] = hz_wl B (n + 1) w' := by
  rw [← hz_wl_add, he]
  congr 1
  unfold hz_wl
  apply List.map_congr_left
  intro a ha
  rw [h3 a (List.mem_range.mp ha)]
section HZN
variable {p : Program} {l : Launch} {e : Env} {d9 m9 s9 : Nat} {s : State} {m : MethodId} {args : Array Value} {below : List Frame} {meth : Method} {c : Code} {cc : ByteArray} {nL : Nat} {own : String} {ret : Option FieldType} {B : Bt} {tb : List ExceptionTableEntry} {ini ex : Bool} {σ ρ τ : Type} {Fi : ρ → State → Prop} {Ko : σ → Option ρ} {pc pc' : Nat} {L : List (Nat × Value)} {st : List Value} {k sl n : Nat} {w : MW} {comp : Option σ}
theorem hz_newq9 {H1 : Heap} {q9 : Nat} {E : va_E} (hP : va_P B.2.1 vwCl (hz_wl B n w ++ [(q9, E)]) H1) (hD : va_D (hz_A B) (hz_wl B n w ++ [(q9, E)])) (hz : H1.size ≤ B.1 + n + 1) : q9 = B.1 + n := by
  have hlen : (hz_wl B n w).length = n := by simp [hz_wl]
  have h0 : (hz_wl B n w ++ [(q9, E)])[n]? = some (q9, E) := by
    rw [List.getElem?_append_right (by omega), hlen, Nat.sub_self]
    rfl
  have h1 := (hP n _ h0).lt
  dsimp only at h1
  have h2 : B.1 ≤ q9 := hD.2 n _ h0
  by_cases h3 : q9 = B.1 + n
  · exact h3
  · exfalso
    have h4 : q9 - B.1 < n := by omega
    have h5 : (hz_wl B n w ++ [(q9, E)])[q9 - B.1]? = some (B.1 + (q9 - B.1), hz_el B w (q9 - B.1)) := by
      rw [List.getElem?_append_left (by omega)]
      exact hz_wl_at h4
    have h6 := hD.1 _ _ _ _ h5 h0 (by dsimp only; omega)
    omega
theorem hz_new {z ci N : Nat} {KK : MW → Option σ} (F : hz_CL own z ci) (hN : hz_nf ci = N) (he : ex = true) (hf : k + 1 ≤ m9 ∧ sl + N ≤ s9) (d : decode cc pc = .ok (.new z, 3)) (hp : pc + 3 = pc') (K : ∀ w', hz_g (n + 1) n ci = true → hz_J p l e (hz_rm d9 m9 s9) s m args below meth c cc nL own ret B tb ini ex Fi Ko pc' L (.ref (B.1 + n) :: st) (k + 1) (sl + N) (n + 1) w' (KK w')) : hz_J p l e (hz_rm d9 m9 s9) s m args below meth c cc nL own ret B tb ini ex Fi Ko pc L st k sl n w (hz_gd (hz_sh n == ci) (hz_let (hz_fr w n) KK)) := by
  intro X hx q hq r hr H locs ls hl hH hS
  subst hp
  obtain ⟨hs, hq⟩ := hz_gd_some hq
  have hs : hz_sh n = ci := by simpa using hs
  obtain ⟨C, T, N0, ty, f1, f2, f3, f4, f5, f6, f7, f8, f9⟩ := F
  have hNN : N0 = N := f2.symm.trans hN
  subst hNN
  refine va_new (ci := ci) (fs := (List.range (hz_nf ci)).map (hz_fv B (hz_fr w n) n ci)) X.1.1 X.1.2.1 X.1.2.2.2.2 f4 ty f5 X.1.2.2.2.1 (X.1.2.2.2.2 _ f6) (X.1.2.2.2.2 _ f7) (X.1.2.2.2.2 _ f8) X.2.1.2.1 hH.2 hz_wlD hS (fun q h => Nat.le_trans X.2.1.1 h) f1 (fun j hj => ?_) hf.1 hf.2 d (fun q9 H1 hP1 hD1 hS1 => ?_)
  · rw [f9 j hj]
    simp only [vp_V, List.getD, List.getElem?_map, List.getElem?_range (show j < hz_nf ci by omega), Option.map_some, Option.getD_some, hz_fv, hz_fr, va_up, if_true]
    cases hz_isP ci j <;> rfl
  · refine hz_sized (fun hz => ?_)
    have h0 := hx he
    have e9 := hz_newq9 hP1 hD1 (by omega)
    subst e9
    have hP2 : va_P B.2.1 vwCl (hz_wl B (n + 1) (hz_fr w n)) H1 := by
      rw [← hz_wl_fr (w := w) (w' := hz_fr w n) (fun a ha => by simp [hz_fr, va_up, Nat.ne_of_lt ha]) (fun a ha => by simp [hz_fr, va_up, Nat.ne_of_lt ha]) (fun a ha => hz_el_ne (by simp [hz_fr, va_up, Nat.ne_of_lt ha]) (by simp [hz_fr, va_up, Nat.ne_of_lt ha]) rfl) (hz_el_o hs f3)]
      exact hP1
    exact K _ (by simp [hz_g, hs]) X (fun _ => by omega) q hq r hr H1 locs ls hl (hz_Hd.of hP2 hS1 X.2.1.1) hS1
theorem hz_newai {x : Int32} {N : Nat} {KK : MW → Option σ} (hw : Cond.arrayClass .int ∈ hz_good) (he : ex = true) (hx0 : ¬ x < 0) (hN : x.toNatClampNeg = N) (hb : N * componentBytes .int ≤ 536870912) (hf : k + 1 ≤ m9 ∧ sl + N ≤ s9) (d : decode cc pc = .ok (.newarray .int, 2)) (hp : pc + 2 = pc') (K : ∀ w', hz_g (n + 1) n 20 = true → hz_J p l e (hz_rm d9 m9 s9) s m args below meth c cc nL own ret B tb ini ex Fi Ko pc' L (.ref (B.1 + n) :: st) (k + 1) (sl + N) (n + 1) w' (KK w')) : hz_J p l e (hz_rm d9 m9 s9) s m args below meth c cc nL own ret B tb ini ex Fi Ko pc L (.int x :: st) k sl n w (hz_gd (hz_ga n 20 N) (hz_let (hz_fr w n) KK)) := by
  intro X hx q hq r hr H locs ls hl hH hS
  subst hp
  obtain ⟨hs, hq⟩ := hz_gd_some hq
  obtain ⟨hs, hn9⟩ := hz_ga_s hs
  refine va_newa (atype := .int) (ty := .int) (a0 := (N, .inl (fun _ => 0))) X.1.1 X.1.2.1 (X.1.2.2.2.2 _ hw) rfl X.2.1.2.1 hH.2 hz_wlD hS (fun q h => Nat.le_trans X.2.1.1 h) (fun cA => rfl) hx0 hN hb hf.1 hf.2 d (fun q9 cA H1 hK1 hP1 hD1 hS1 => ?_)
  refine hz_sized (fun hz => ?_)
  have h0 := hx he
  have e9 := hz_newq9 hP1 hD1 (by omega)
  subst e9
  have hcA : cA = B.2.2.1 0 := by
    have g1 := (hK1.2 5 (cA, .int) rfl).2
    have g2 := (hK1.2 0 (B.2.2.1 0, .int) rfl).2
    exact Option.some.inj (g1.symm.trans g2)
  subst hcA
  have hP2 : va_P B.2.1 vwCl (hz_wl B (n + 1) (hz_fr w n)) H1 := by
    rw [← hz_wl_fr (w := w) (w' := hz_fr w n) (E := .inl (B.2.2.1 0, N, .inl (fun _ => 0))) (fun a ha => by simp [hz_fr, va_up, Nat.ne_of_lt ha]) (fun a ha => by simp [hz_fr, va_up, Nat.ne_of_lt ha]) (fun a ha => hz_el_ne (by simp [hz_fr, va_up, Nat.ne_of_lt ha]) (by simp [hz_fr, va_up, Nat.ne_of_lt ha]) rfl) (by rw [hz_el_i hs, hn9]; simp [hz_fr, va_up])]
    exact hP1
  exact K _ (by simp [hz_g, hs]) X (fun _ => by omega) q hq r hr H1 locs ls hl (hz_Hd.of hP2 hS1 X.2.1.1) hS1
theorem hz_newab {x : Int32} {N : Nat} {KK : MW → Option σ} (hw : Cond.arrayClass .byte ∈ hz_good) (he : ex = true) (hx0 : ¬ x < 0) (hN : x.toNatClampNeg = N) (hb : N * componentBytes .byte ≤ 536870912) (hf : k + 1 ≤ m9 ∧ sl + N ≤ s9) (d : decode cc pc = .ok (.newarray .byte, 2)) (hp : pc + 2 = pc') (K : ∀ w', hz_g (n + 1) n 21 = true → hz_J p l e (hz_rm d9 m9 s9) s m args below meth c cc nL own ret B tb ini ex Fi Ko pc' L (.ref (B.1 + n) :: st) (k + 1) (sl + N) (n + 1) w' (KK w')) : hz_J p l e (hz_rm d9 m9 s9) s m args below meth c cc nL own ret B tb ini ex Fi Ko pc L (.int x :: st) k sl n w (hz_gd (hz_ga n 21 N) (hz_let (hz_fr w n) KK)) := by
  intro X hx q hq r hr H locs ls hl hH hS
  subst hp
  obtain ⟨hs, hq⟩ := hz_gd_some hq
  obtain ⟨hs, hn9⟩ := hz_ga_s hs
  refine va_newa (atype := .byte) (ty := .byte) (a0 := (N, .inl (fun _ => 0))) X.1.1 X.1.2.1 (X.1.2.2.2.2 _ hw) rfl X.2.1.2.1 hH.2 hz_wlD hS (fun q h => Nat.le_trans X.2.1.1 h) (fun cA => rfl) hx0 hN hb hf.1 hf.2 d (fun q9 cA H1 hK1 hP1 hD1 hS1 => ?_)
  refine hz_sized (fun hz => ?_)
  have h0 := hx he
  have e9 := hz_newq9 hP1 hD1 (by omega)
  subst e9
  have hcA : cA = B.2.2.1 1 := by
    have g1 := (hK1.2 5 (cA, .byte) rfl).2
    have g2 := (hK1.2 1 (B.2.2.1 1, .byte) rfl).2
    exact Option.some.inj (g1.symm.trans g2)
  subst hcA
  have hP2 : va_P B.2.1 vwCl (hz_wl B (n + 1) (hz_fr w n)) H1 := by
    rw [← hz_wl_fr (w := w) (w' := hz_fr w n) (E := .inl (B.2.2.1 1, N, .inl (fun _ => 0))) (fun a ha => by simp [hz_fr, va_up, Nat.ne_of_lt ha]) (fun a ha => by simp [hz_fr, va_up, Nat.ne_of_lt ha]) (fun a ha => hz_el_ne (by simp [hz_fr, va_up, Nat.ne_of_lt ha]) (by simp [hz_fr, va_up, Nat.ne_of_lt ha]) rfl) (by rw [hz_el_b hs, hn9]; simp [hz_fr, va_up])]
    exact hP1
  exact K _ (by simp [hz_g, hs]) X (fun _ => by omega) q hq r hr H1 locs ls hl (hz_Hd.of hP2 hS1 X.2.1.1) hS1
theorem hz_newal {x : Int32} {N : Nat} {KK : MW → Option σ} (hw : Cond.arrayClass .long ∈ hz_good) (he : ex = true) (hx0 : ¬ x < 0) (hN : x.toNatClampNeg = N) (hb : N * componentBytes .long ≤ 536870912) (hf : k + 1 ≤ m9 ∧ sl + N ≤ s9) (d : decode cc pc = .ok (.newarray .long, 2)) (hp : pc + 2 = pc') (K : ∀ w', hz_g (n + 1) n 23 = true → hz_J p l e (hz_rm d9 m9 s9) s m args below meth c cc nL own ret B tb ini ex Fi Ko pc' L (.ref (B.1 + n) :: st) (k + 1) (sl + N) (n + 1) w' (KK w')) : hz_J p l e (hz_rm d9 m9 s9) s m args below meth c cc nL own ret B tb ini ex Fi Ko pc L (.int x :: st) k sl n w (hz_gd (hz_ga n 23 N) (hz_let (hz_po (hz_fr w n) 0) KK)) := by
  intro X hx q hq r hr H locs ls hl hH hS
  subst hp
  obtain ⟨hs, hq⟩ := hz_gd_some hq
  obtain ⟨hs, hn9⟩ := hz_ga_s hs
  refine va_newa (atype := .long) (ty := .long) (a0 := (N, .inr (.inl (fun _ => 0)))) X.1.1 X.1.2.1 (X.1.2.2.2.2 _ hw) rfl X.2.1.2.1 hH.2 hz_wlD hS (fun q h => Nat.le_trans X.2.1.1 h) (fun cA => rfl) hx0 hN hb hf.1 hf.2 d (fun q9 cA H1 hK1 hP1 hD1 hS1 => ?_)
  refine hz_sized (fun hz => ?_)
  have h0 := hx he
  have e9 := hz_newq9 hP1 hD1 (by omega)
  subst e9
  have hcA : cA = B.2.2.1 3 := by
    have g1 := (hK1.2 5 (cA, .long) rfl).2
    have g2 := (hK1.2 3 (B.2.2.1 3, .long) rfl).2
    exact Option.some.inj (g1.symm.trans g2)
  subst hcA
  have hP2 : va_P B.2.1 vwCl (hz_wl B (n + 1) (hz_po (hz_fr w n) 0)) H1 := by
    rw [← hz_wl_fr (w := w) (w' := hz_po (hz_fr w n) 0) (E := .inl (B.2.2.1 3, N, .inr (.inl (fun _ => 0)))) (fun a ha => by simp [hz_po, hz_fr, va_up, Nat.ne_of_lt ha]) (fun a ha => by simp [hz_po, hz_fr, va_up, Nat.ne_of_lt ha]) (fun a ha => (hz_el_po (fun q9 => by have := hz_23 hs; omega)).trans (hz_el_ne (by simp [hz_fr, va_up, Nat.ne_of_lt ha]) (by simp [hz_fr, va_up, Nat.ne_of_lt ha]) rfl)) (by rw [hz_el_l hs, hn9]; congr 5; funext j; simp [vp_updL, hz_po])]
    exact hP1
  exact K _ (by simp [hz_g, hs]) X (fun _ => by omega) q hq r hr H1 locs ls hl (hz_Hd.of hP2 hS1 X.2.1.1) hS1
theorem hz_newad {x : Int32} {N : Nat} {KK : MW → Option σ} (hw : Cond.arrayClass .double ∈ hz_good) (he : ex = true) (hx0 : ¬ x < 0) (hN : x.toNatClampNeg = N) (hb : N * componentBytes .double ≤ 536870912) (hf : k + 1 ≤ m9 ∧ sl + N ≤ s9) (d : decode cc pc = .ok (.newarray .double, 2)) (hp : pc + 2 = pc') (K : ∀ w', hz_g (n + 1) n 24 = true → hz_J p l e (hz_rm d9 m9 s9) s m args below meth c cc nL own ret B tb ini ex Fi Ko pc' L (.ref (B.1 + n) :: st) (k + 1) (sl + N) (n + 1) w' (KK w')) : hz_J p l e (hz_rm d9 m9 s9) s m args below meth c cc nL own ret B tb ini ex Fi Ko pc L (.int x :: st) k sl n w (hz_gd (hz_ga n 24 N) (hz_let (hz_pd (hz_fr w n) 0) KK)) := by
  intro X hx q hq r hr H locs ls hl hH hS
  subst hp
  obtain ⟨hs, hq⟩ := hz_gd_some hq
  obtain ⟨hs, hn9⟩ := hz_ga_s hs
  refine va_newa (atype := .double) (ty := .double) (a0 := (N, .inr (.inr (.inr (.inl (fun _ => 0)))))) X.1.1 X.1.2.1 (X.1.2.2.2.2 _ hw) rfl X.2.1.2.1 hH.2 hz_wlD hS (fun q h => Nat.le_trans X.2.1.1 h) (fun cA => rfl) hx0 hN hb hf.1 hf.2 d (fun q9 cA H1 hK1 hP1 hD1 hS1 => ?_)
  refine hz_sized (fun hz => ?_)
  have h0 := hx he
  have e9 := hz_newq9 hP1 hD1 (by omega)
  subst e9
  have hcA : cA = B.2.2.1 4 := by
    have g1 := (hK1.2 5 (cA, .double) rfl).2
    have g2 := (hK1.2 4 (B.2.2.1 4, .double) rfl).2
    exact Option.some.inj (g1.symm.trans g2)
  subst hcA
  have hP2 : va_P B.2.1 vwCl (hz_wl B (n + 1) (hz_pd (hz_fr w n) 0)) H1 := by
    rw [← hz_wl_fr (w := w) (w' := hz_pd (hz_fr w n) 0) (E := .inl (B.2.2.1 4, N, .inr (.inr (.inr (.inl (fun _ => 0)))))) (fun a ha => by simp [hz_pd, hz_fr, va_up, Nat.ne_of_lt ha]) (fun a ha => by simp [hz_pd, hz_fr, va_up, Nat.ne_of_lt ha]) (fun a ha => (hz_el_pd (fun q9 => by have := hz_24 hs; omega)).trans (hz_el_ne (by simp [hz_fr, va_up, Nat.ne_of_lt ha]) (by simp [hz_fr, va_up, Nat.ne_of_lt ha]) rfl)) (by rw [hz_el_d hs, hn9]; congr 7; funext j; simp [vf_upd, hz_pd])]
    exact hP1
  exact K _ (by simp [hz_g, hs]) X (fun _ => by omega) q hq r hr H1 locs ls hl (hz_Hd.of hP2 hS1 X.2.1.1) hS1
theorem hz_newr {x : Int32} {N z : Nat} {KK : MW → Option σ} (hw : Cond.classLink own z RX3 ∈ hz_good) (he : ex = true) (hx0 : ¬ x < 0) (hN : x.toNatClampNeg = N) (hb : N * 4 ≤ 536870912) (hf : k + 1 ≤ m9 ∧ sl + N ≤ s9) (d : decode cc pc = .ok (.anewarray z, 3)) (hp : pc + 3 = pc') (K : ∀ w', hz_g (n + 1) n 22 = true → hz_J p l e (hz_rm d9 m9 s9) s m args below meth c cc nL own ret B tb ini ex Fi Ko pc' L (.ref (B.1 + n) :: st) (k + 1) (sl + N) (n + 1) w' (KK w')) : hz_J p l e (hz_rm d9 m9 s9) s m args below meth c cc nL own ret B tb ini ex Fi Ko pc L (.int x :: st) k sl n w (hz_gd (hz_ga n 22 N) (hz_let (hz_fr w n) KK)) := by
  intro X hx q hq r hr H locs ls hl hH hS
  subst hp
  obtain ⟨hs, hq⟩ := hz_gd_some hq
  obtain ⟨hs, hn9⟩ := hz_ga_s hs
  refine va_newq X.1.1 X.1.2.1 X.1.2.2.2.1 (X.1.2.2.2.2 _ hw) X.2.1.2.2.2.2.2.1 X.2.1.2.1 hH.2 hz_wlD hS (fun q h => Nat.le_trans X.2.1.1 h) hx0 hN hb hf.1 hf.2 d (fun q9 cA H1 hK1 hP1 hD1 hS1 => ?_)
  refine hz_sized (fun hz => ?_)
  have h0 := hx he
  have e9 := hz_newq9 hP1 hD1 (by omega)
  subst e9
  have hcA : cA = B.2.2.1 2 := by
    obtain ⟨_, _, _, _, _, g1⟩ := (hK1.2 5 (cA, .object RX3) rfl).2
    obtain ⟨_, _, _, _, _, g2⟩ := (hK1.2 2 (B.2.2.1 2, .object RX3) rfl).2
    exact Option.some.inj (g1.symm.trans g2)
  subst hcA
  have hP2 : va_P B.2.1 vwCl (hz_wl B (n + 1) (hz_fr w n)) H1 := by
    rw [← hz_wl_fr (w := w) (w' := hz_fr w n) (E := .inl (B.2.2.1 2, N, .inr (.inr (.inr (.inr (fun _ => none)))))) (fun a ha => by simp [hz_fr, va_up, Nat.ne_of_lt ha]) (fun a ha => by simp [hz_fr, va_up, Nat.ne_of_lt ha]) (fun a ha => hz_el_ne (by simp [hz_fr, va_up, Nat.ne_of_lt ha]) (by simp [hz_fr, va_up, Nat.ne_of_lt ha]) rfl) (by rw [hz_el_r hs, hn9]; simp [hz_fr, va_up])]
    exact hP1
  exact K _ (by simp [hz_g, hs]) X (fun _ => by omega) q hq r hr H1 locs ls hl (hz_Hd.of hP2 hS1 X.2.1.1) hS1
theorem hz_copy {z a0 a : Nat} {sp dp cn : Int32} {KK : MW → Option σ} (h1 : Cond.methodLink own z arraycopyName ∈ hz_good) (h2 : Cond.native arraycopyName ∈ hz_good) (h3 : Cond.static arraycopyName ∈ hz_good) (h4 : Cond.initialized "java/lang/System" ∈ hz_good) (hg0 : hz_g n a0 20 = true) (hg : hz_g n a 20 = true) (hR : 1 ≤ d9 ∧ (st.map fun v => v.category).sum + (nativeFrameWords "java/lang/System" "arraycopy" 5 + 11) ≤ 64 * d9) (d : decode cc pc = .ok (.invokestatic z, 3)) (hp : pc + 3 = pc') (K : ∀ w', hz_J p l e (hz_rm d9 m9 s9) s m args below meth c cc nL own ret B tb ini ex Fi Ko pc' L st k sl n w' (KK w')) : hz_J p l e (hz_rm d9 m9 s9) s m args below meth c cc nL own ret B tb ini ex Fi Ko pc L (.int cn :: .int dp :: .ref (B.1 + a) :: .int sp :: .ref (B.1 + a0) :: st) k sl n w (hz_cp w a0 sp a dp cn KK) := by
  intro X hx q hq r hr H locs ls hl hH hS
  subst hp
  obtain ⟨hok, hq⟩ := hz_gd_some hq
  simp only [hz_cpok, Bool.and_eq_true, decide_eq_true_eq] at hok
  obtain ⟨⟨⟨⟨o1, o2⟩, o3⟩, o4⟩, o5⟩ := hok
  refine va_copyi X.1.1 X.1.2.1 (X.1.2.2.1.trans hl.1.symm) X.1.2.2.2.1 (X.1.2.2.2.2 _ h1) (X.1.2.2.2.2 _ h2) (X.1.2.2.2.2 _ h3) (X.1.2.2.2.2 _ h4) X.2.1.2.1 hH.2 hz_wlD hS a0 a 0 0 (ty := .int) (hz_at_i hg0) (hz_at_i hg) rfl rfl rfl (hz_nlt o1) (hz_nlt o2) (hz_nlt o3) o4 o5 (fun _ _ => rfl) hR.1 hR.2 d (fun H1 locs1 hP1 _ hS1 => ?_)
  refine K _ X hx q hq r hr H1 locs1 ls hl (hz_Pset (w := w) (a := a) ?_ (fun b hb => hz_el_pa hb) X.2.1.1 hP1 hS1) hS1
  rw [hz_el_i (hz_g_sh hg)]
  simp [hz_pa, va_up]
theorem hz_mmax {z : Nat} {x y : Int32} (h1 : Cond.methodLink own z Lib.Math.max.name ∈ hz_good) (h2 : Cond.static Lib.Math.max.name ∈ hz_good) (h3 : Cond.initialized "java/lang/Math" ∈ hz_good) (h4 : Cond.code Lib.Math.max.name Lib.Math.max.code 2 (some .int) ∈ hz_good) (hR : 1 ≤ d9 ∧ (st.map fun v => v.category).sum + 13 ≤ 64 * d9) (hf : k ≤ m9 ∧ sl ≤ s9) (d : decode cc pc = .ok (.invokestatic z, 3)) (hp : pc + 3 = pc') (K : hz_J p l e (hz_rm d9 m9 s9) s m args below meth c cc nL own ret B tb ini ex Fi Ko pc' L (.int (if x < y then y else x) :: st) k sl n w comp) : hz_J p l e (hz_rm d9 m9 s9) s m args below meth c cc nL own ret B tb ini ex Fi Ko pc L (.int y :: .int x :: st) k sl n w comp := by
  intro X hx q hq r hr H locs ls hl hH hS
  subst hp
  exact va_mmax X.1.1 X.1.2.1 (X.1.2.2.1.trans hl.1.symm) X.1.2.2.2.1 (X.1.2.2.2.2 _ h1) (X.1.2.2.2.2 _ h2) (X.1.2.2.2.2 _ h3) (X.1.2.2.2.2 _ h4) hR.1 hR.2 hf.1 hf.2 d (K X hx q hq r hr H locs ls hl hH hS)
theorem hz_mmin {z : Nat} {x y : Int32} (h1 : Cond.methodLink own z Lib.Math.min.name ∈ hz_good) (h2 : Cond.static Lib.Math.min.name ∈ hz_good) (h3 : Cond.initialized "java/lang/Math" ∈ hz_good) (h4 : Cond.code Lib.Math.min.name Lib.Math.min.code 2 (some .int) ∈ hz_good) (hR : 1 ≤ d9 ∧ (st.map fun v => v.category).sum + 13 ≤ 64 * d9) (hf : k ≤ m9 ∧ sl ≤ s9) (d : decode cc pc = .ok (.invokestatic z, 3)) (hp : pc + 3 = pc') (K : hz_J p l e (hz_rm d9 m9 s9) s m args below meth c cc nL own ret B tb ini ex Fi Ko pc' L (.int (if y < x then y else x) :: st) k sl n w comp) : hz_J p l e (hz_rm d9 m9 s9) s m args below meth c cc nL own ret B tb ini ex Fi Ko pc L (.int y :: .int x :: st) k sl n w comp := by
  intro X hx q hq r hr H locs ls hl hH hS
  subst hp
  exact va_mmin X.1.1 X.1.2.1 (X.1.2.2.1.trans hl.1.symm) X.1.2.2.2.1 (X.1.2.2.2.2 _ h1) (X.1.2.2.2.2 _ h2) (X.1.2.2.2.2 _ h3) (X.1.2.2.2.2 _ h4) hR.1 hR.2 hf.1 hf.2 d (K X hx q hq r hr H locs ls hl hH hS)
theorem hz_mabs {z : Nat} {x : Int32} (h1 : Cond.methodLink own z Lib.Math.abs.name ∈ hz_good) (h2 : Cond.static Lib.Math.abs.name ∈ hz_good) (h3 : Cond.initialized "java/lang/Math" ∈ hz_good) (h4 : Cond.code Lib.Math.abs.name Lib.Math.abs.code 1 (some .int) ∈ hz_good) (hR : 1 ≤ d9 ∧ (st.map fun v => v.category).sum + 13 ≤ 64 * d9) (hf : k ≤ m9 ∧ sl ≤ s9) (d : decode cc pc = .ok (.invokestatic z, 3)) (hp : pc + 3 = pc') (K : hz_J p l e (hz_rm d9 m9 s9) s m args below meth c cc nL own ret B tb ini ex Fi Ko pc' L (.int (if 0 ≤ x then x else 0 - x) :: st) k sl n w comp) : hz_J p l e (hz_rm d9 m9 s9) s m args below meth c cc nL own ret B tb ini ex Fi Ko pc L (.int x :: st) k sl n w comp := by
  intro X hx q hq r hr H locs ls hl hH hS
  subst hp
  exact va_mabs X.1.1 X.1.2.1 (X.1.2.2.1.trans hl.1.symm) X.1.2.2.2.1 (X.1.2.2.2.2 _ h1) (X.1.2.2.2.2 _ h2) (X.1.2.2.2.2 _ h3) (X.1.2.2.2.2 _ h4) hR.1 (by have := hR.2; show _ + 12 ≤ 64 * d9; omega) hf.1 hf.2 d (K X hx q hq r hr H locs ls hl hH hS)
theorem hz_objinit {z a : Nat} (h1 : Cond.methodLink own z Lib.objectInit ∈ hz_good) (h2 : Cond.instanceMethod Lib.objectInit ∈ hz_good) (h3 : Cond.code Lib.objectInit ⟨#[0xb1]⟩ 1 none ∈ hz_good) (hR : 1 ≤ d9 ∧ (st.map fun v => v.category).sum ≤ 8) (d : decode cc pc = .ok (.invokespecial z, 3)) (hp : pc + 3 = pc') (K : hz_J p l e (hz_rm d9 m9 s9) s m args below meth c cc nL own ret B tb ini ex Fi Ko pc' L st k sl n w comp) : hz_J p l e (hz_rm d9 m9 s9) s m args below meth c cc nL own ret B tb ini ex Fi Ko pc L (.ref (B.1 + a) :: st) k sl n w comp := by
  intro X hx q hq r hr H locs ls hl hH hS
  subst hp
  exact W.objInit X.1.1 X.1.2.1 X.1.2.2.2.1 (X.1.2.2.2.2 _ h1) (X.1.2.2.2.2 _ h2) (X.1.2.2.2.2 _ h3) rfl (hl.1.trans X.1.2.2.1.symm) rfl d hR.1 (by have := lv_room (m := m) (pc := pc) (ls := ls) (rest := .ref (B.1 + a) :: st) hR.2; show _ + 12 ≤ 64 * d9; omega) (K X hx q hq r hr H locs ls hl hH hS)
end HZN
section HZG
variable {p : Program} {l : Launch} {e : Env} {R : Room} {s : State} {m : MethodId} {args : Array Value} {below : List Frame} {meth : Method} {c : Code} {cc : ByteArray} {nL : Nat} {own : String} {ret : Option FieldType} {B : Bt} {tb : List ExceptionTableEntry} {ini ex : Bool} {σ ρ : Type} {Fi : ρ → State → Prop} {Ko : σ → Option ρ} {pc pc' : Nat} {L : List (Nat × Value)} {st : List Value} {k sl n : Nat} {w : MW}
theorem hz_gdr {b : Bool} {X : Option σ} (K : b = true → hz_J p l e R s m args below meth c cc nL own ret B tb ini ex Fi Ko pc L st k sl n w X) : hz_J p l e R s m args below meth c cc nL own ret B tb ini ex Fi Ko pc L st k sl n w (hz_gd b X) :=
  fun Y hx q hq => K (hz_gd_some hq).1 Y hx q (hz_gd_some hq).2
theorem hz_at {comp comp' : Option σ} (he : comp = comp') (K : hz_J p l e R s m args below meth c cc nL own ret B tb ini ex Fi Ko pc L st k sl n w comp') : hz_J p l e R s m args below meth c cc nL own ret B tb ini ex Fi Ko pc L st k sl n w comp := he ▸ K
end HZG
