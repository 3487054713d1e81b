/-! ===== String.length, String.charAt on the words ===== -/
section HZS
variable {p : Program} {l : Launch} {e : Env} {d9 m9 s9 : Nat} {s : State} {m : MethodId} {args : Array Value} {below : List Frame} {meth : Method} {c : Code} {cc : ByteArray} {nL : Nat} {own : String} {ret : Option FieldType} {B : Bt} {tb : List ExceptionTableEntry} {ini ex : Bool} {σ ρ τ : Type} {Fi : ρ → State → Prop} {Ko : σ → Option ρ} {pc pc' : Nat} {L : List (Nat × Value)} {st : List Value} {k sl n : Nat} {w : MW} {comp : Option σ}
theorem hz_sfld {R : Room} {z i : Nat} {f ds : String} {v : Value} (hf : Cond.fieldLink own z "java/lang/String" f ds ∈ hz_good) (hv : (f = "coder" ∧ ds = "B" ∧ v = .int 0) ∨ (f = "value" ∧ ds = "[B" ∧ v = .ref (B.2.2.2.2 i))) (hi : i < 14) (d : decode cc pc = .ok (.getfield z, 3)) (hp : pc + 3 = pc') (K : hz_J p l e R s m args below meth c cc nL own ret B tb ini ex Fi Ko pc' L (v :: st) k sl n w comp) : hz_J p l e R s m args below meth c cc nL own ret B tb ini ex Fi Ko pc L (.ref (B.2.2.2.1 i) :: st) k sl n w comp := by
  intro X hx q hq r hr H locs ls hl hH hS
  subst hp
  have h8 := X.2.1.2.2.2.2.2.2.2.1 i hi
  refine vk_getf X.1.1 X.1.2.1 (o := "java/lang/String") (n := f) (d := ds) (v := v) (A := hz_A B) ?_ hS X.1.2.2.2.1 (X.1.2.2.2.2 _ hf) (fun _ h => h) d (K X hx q hq r hr H locs ls hl hH hS)
  rcases hv with ⟨rfl, rfl, rfl⟩ | ⟨rfl, rfl, rfl⟩
  · exact h8.2.1
  · exact h8.2.2.1
theorem hz_slen {R : Room} {i : Nat} (hi : i < 14) (d : decode cc pc = .ok (.arraylength, 1)) (hp : pc + 1 = pc') (K : hz_J p l e R s m args below meth c cc nL own ret B tb ini ex Fi Ko pc' L (.int (Int32.ofNat (hz_wlen.getD i 0)) :: st) k sl n w comp) : hz_J p l e R s m args below meth c cc nL own ret B tb ini ex Fi Ko pc L (.ref (B.2.2.2.2 i) :: st) k sl n w comp := by
  intro X hx q hq r hr H locs ls hl hH hS
  subst hp
  exact va_tlen X.1.1 X.1.2.1 (X.2.1.2.2.2.2.2.2.2.1 i hi).2.2.2 hS rfl d (K X hx q hq r hr H locs ls hl hH hS)
theorem hz_sbald {R : Room} {i : Nat} {j : Int32} (hi : i < 14) (hj : hz_ix j (hz_wlen.getD i 0) = true) (d : decode cc pc = .ok (.baload, 1)) (hp : pc + 1 = pc') (K : hz_J p l e R s m args below meth c cc nL own ret B tb ini ex Fi Ko pc' L (.int ((hz_wbyt.getD i []).getD j.toNatClampNeg 0) :: st) k sl n w comp) : hz_J p l e R s m args below meth c cc nL own ret B tb ini ex Fi Ko pc L (.int j :: .ref (B.2.2.2.2 i) :: st) k sl n w comp := by
  intro X hx q hq r hr H locs ls hl hH hS
  subst hp
  exact va_tb X.1.1 X.1.2.1 (X.2.1.2.2.2.2.2.2.2.1 i hi).2.2.2 hS (hz_ix_in hj) rfl d (K X hx q hq r hr H locs ls hl hH hS)
theorem hz_gets {R : Room} {z : Nat} (hf : Cond.fieldLink own z "java/lang/String" "COMPACT_STRINGS" "Z" ∈ hz_good) (d : decode cc pc = .ok (.getstatic z, 3)) (hp : pc + 3 = pc') (K : hz_J p l e R s m args below meth c cc nL own ret B tb ini ex Fi Ko pc' L (.int 1 :: st) k sl n w comp) : hz_J p l e R s m args below meth c cc nL own ret B tb ini ex Fi Ko pc L st k sl n w comp := by
  intro X hx q hq r hr H locs ls hl hH hS
  subst hp
  exact va_gets X.1.1 X.1.2.1 X.2.1.2.2.2.2.2.2.2.2.2.2.1 hS X.1.2.2.2.1 (X.1.2.2.2.2 _ hf) (fun _ h => h) d (K X hx q hq r hr H locs ls hl hH hS)
theorem hz_getf {R : Room} {z : Nat} (hf : Cond.fieldLink own z "jdk/internal/util/Preconditions" "SIOOBE_FORMATTER" "Ljava/util/function/BiFunction;" ∈ hz_good) (d : decode cc pc = .ok (.getstatic z, 3)) (hp : pc + 3 = pc') (K : ∀ v : Value, v.category = 1 → hz_J p l e R s m args below meth c cc nL own ret B tb ini ex Fi Ko pc' L (v :: st) k sl n w comp) : hz_J p l e R s m args below meth c cc nL own ret B tb ini ex Fi Ko pc L st k sl n w comp := by
  intro X hx q hq r hr H locs ls hl hH hS
  subst hp
  rcases X.2.1.2.2.2.2.2.2.2.2.2.2.2 with h | ⟨t, h⟩
  · exact va_gets X.1.1 X.1.2.1 h hS X.1.2.2.2.1 (X.1.2.2.2.2 _ hf) (fun _ h => h) d (K _ rfl X hx q hq r hr H locs ls hl hH hS)
  · exact va_gets X.1.1 X.1.2.1 h hS X.1.2.2.2.1 (X.1.2.2.2.2 _ hf) (fun _ h => h) d (K _ rfl X hx q hq r hr H locs ls hl hH hS)
theorem hz_i2c {R : Room} {x : Int32} (d : decode cc pc = .ok (.i2c, 1)) (hp : pc + 1 = pc') (K : hz_J p l e R s m args below meth c cc nL own ret B tb ini ex Fi Ko pc' L (.int ((x.toUInt32 % 65536).toInt32) :: st) k sl n w comp) : hz_J p l e R s m args below meth c cc nL own ret B tb ini ex Fi Ko pc L (.int x :: st) k sl n w comp := by
  intro X hx q hq r hr H locs ls hl hH hS
  subst hp
  exact lv_i2c X.1.1 X.1.2.1 d rfl (K X hx q hq r hr H locs ls hl hH hS)
/-- a call on a word -/
theorem hz_cVs {z mL d i : Nat} {y : MethodName} {cb : ByteArray} {rt : Option FieldType} {av rest st0 : List Value} {na : Nat} {v : Int32} (h1 : Cond.methodLink own z y ∈ hz_good) (h2 : Cond.instanceMethod y ∈ hz_good) (h3 : Cond.selects "java/lang/String" y y ∈ hz_good) (h4 : Cond.initialized "java/lang/String" ∈ hz_good) (h5 : Cond.code y cb mL rt ∈ hz_good) (h6 : y.cls = "java/lang/String" ∧ y.cls ≠ "java/lang/invoke/MethodHandle" ∧ y.cls ≠ "java/lang/invoke/VarHandle" ∧ (parseMethodDescriptor y.desc).map (fun d => d.parameters.length) = some na) (hi : i < 14) (hM : hz_Met l B false n n y cb mL rt d 0 0 (.ref (B.2.2.2.1 i) :: av) w (some (.int v)) w) (hna : av.length = na) (hst : st0 = av.reverse ++ .ref (B.2.2.2.1 i) :: rest) (hrs : (rest.map fun v => v.category).sum ≤ 8) (hR : d + 1 ≤ d9 ∧ 8 + (mL + 11) + 64 * d ≤ 64 * d9) (hf : k ≤ m9 ∧ sl ≤ s9) (dd : decode cc pc = .ok (.invokevirtual z, 3)) (hp : pc + 3 = pc') (K : hz_J p l e (hz_rm d9 m9 s9) s m args below meth c cc nL own ret B tb ini ex Fi Ko pc' L (.int v :: rest) k sl n w comp) : hz_J p l e (hz_rm d9 m9 s9) s m args below meth c cc nL own ret B tb ini ex Fi Ko pc L st0 k sl n w comp := by
  intro X hx q hq r hr H locs ls hl hH hS
  subst hp
  have hG : GoodIn hz_good (wsV own z "java/lang/String" y (Cond.code y cb mL rt :: hz_good)) := hz_gd_in (fun w hw => by
    rcases List.mem_append.mp hw with h | h
    · simp only [List.mem_cons, List.not_mem_nil, or_false] at h
      rcases h with rfl | rfl | rfl | rfl <;> assumption
    · rcases List.mem_cons.mp h with rfl | h
      · exact h5
      · exact h)
  refine hz_after (ex := false) (n := n) hS (fun z => nomatch z) (va_runV (As := av) (rest := rest) X.1 hM (cwV na X.1.2.2.2.2 hG rfl rfl rfl h6 hR) ⟨hz_blind, ?_, fun U hU hW => ⟨rfl, X.2.1.next hS hU hW, by rw [hU]; exact hH, fun z => nomatch z⟩⟩ rfl hna (hl.1) hst (lv_room hrs) dd ⟨by show k + 0 ≤ m9; omega, by show sl + 0 ≤ s9; omega⟩) (fun H1 locs1 h1 h2 _ => K X hx q hq r hr H1 locs1 ls hl h1 h2)
  obtain ⟨cell, g1, g2, g3, -⟩ := (X.2.1.2.2.2.2.2.2.2.1 i hi).1.kept hS.2.1
  exact ⟨cell, g1, g2, g3⟩
/-- a call of a static method that answers an int or nothing, the memory kept -/
theorem hz_cSs {z mL d : Nat} {y : MethodName} {cb : ByteArray} {rt : Option FieldType} {av rest st0 : List Value} {na : Nat} {rv : Option Value} (F : hz_SL own z y cb mL rt na) (hM : hz_Met l B false n n y cb mL rt d 0 0 av w rv w) (hna : av.length = na) (hst : st0 = av.reverse ++ rest) (hrs : (rest.map fun v => v.category).sum ≤ 8) (hR : d + 1 ≤ d9 ∧ 8 + (mL + 11) + 64 * d ≤ 64 * d9) (hf : k ≤ m9 ∧ sl ≤ s9) (dd : decode cc pc = .ok (.invokestatic z, 3)) (hp : pc + 3 = pc') (K : hz_J p l e (hz_rm d9 m9 s9) s m args below meth c cc nL own ret B tb ini ex Fi Ko pc' L (rv.toList ++ rest) k sl n w comp) : hz_J p l e (hz_rm d9 m9 s9) s m args below meth c cc nL own ret B tb ini ex Fi Ko pc L st0 k sl n w comp := by
  intro X hx q hq r hr H locs ls hl hH hS
  subst hp
  exact hz_wS (d := d) (mc := 0) (ms := 0) X F hM hna hst hrs hR ⟨by show k + 0 ≤ m9; omega, by show sl + 0 ≤ s9; omega⟩ dd hl hH hS (fun H1 locs1 h1 h2 => K X hx q hq r hr H1 locs1 ls hl h1 h2)
/-- an answer of a narrow kind -/
theorem hz_retn {x : Int32} {ty : FieldType} (d : decode cc pc = .ok (.ireturn, 1)) (hret : ret = some ty) (hn : narrow ty (.int x) = .int x) (hk : k ≤ m9 ∧ sl ≤ s9) : hz_J p l e (hz_rm d9 m9 s9) s m args below meth c cc nL own ret B tb ini ex (hz_Fi (fun r => some (.int r.1)) (fun r => r.2) below args s B ex n m9 s9) some pc L [.int x] k sl n w (some (x, w)) := by
  intro X hx q hq r hr H locs ls hl hH hS
  cases hq
  cases hr
  refine hz_sized (fun hz => ?_)
  have h9 := hH.1
  have hsz : ex = true → H.size = B.1 + n := fun z => by have := hx z; omega
  refine W.widen hk.1 hk.2 ?_
  exact W.zret X.1.1 X.1.2.1 (X.2.2.2.2.2.1.trans hret) hn (fun t ht _ => ⟨rfl, hz_end hH hS hsz ht⟩) hS.2.2 d X.2.2.1
end HZS
set_option maxHeartbeats 4000000 in
set_option maxRecDepth 100000 in
theorem ct_coder {l : Launch} (hl : l.stackTraces = false) {B : Bt} {i n : Nat} (hi : i < 14) {w : MW} : hz_Met l B false n n yJ0_coder_7d493 cJ0_coder_7d493 1 (some .byte) 2 0 0 [.ref (B.2.2.2.1 i)] w (some (.int 0)) w := by
  refine hz_ofJ (rv := (fun r : Int32 × MW => some (.int r.1))) (wo := (fun r : Int32 × MW => r.2)) (comp := some ((0 : Int32), w)) (r := ((0 : Int32), w)) (own := RJ0) (ini := false) hl (by decide) rfl (Or.inr rfl) (Nat.le_of_ble_eq_true rfl) rfl ?_ rfl
  intro p e s m args below meth c
  refine hz_gets (pc' := 3) hq_445 dJ0_coder_7d493_0 rfl ?_
  refine hz_at (show some ((0 : Int32), w) = (if (1 : Int32) = 0 then none else some ((0 : Int32), w)) from rfl) ?_
  refine hz_ifeq (pc' := 6) (tgt := 13) dJ0_coder_7d493_3 (by decide) rfl (hz_no rfl) ?_
  refine hz_aload_n (pc' := 7) (j := 0) dJ0_coder_7d493_6 rfl rfl rfl ?_
  refine hz_sfld (pc' := 10) (i := i) hq_1750 (Or.inl ⟨rfl, rfl, rfl⟩) hi dJ0_coder_7d493_7 rfl ?_
  refine hz_goto (tgt := 14) dJ0_coder_7d493_10 (by decide) ?_
  exact hz_retn dJ0_coder_7d493_14 rfl rfl (by decide)
set_option maxHeartbeats 4000000 in
set_option maxRecDepth 100000 in
theorem ct_isLatin1 {l : Launch} (hl : l.stackTraces = false) {B : Bt} {i n : Nat} (hi : i < 14) {w : MW} : hz_Met l B false n n yJ0_isLatin1_aae02 cJ0_isLatin1_aae02 1 (some .boolean) 2 0 0 [.ref (B.2.2.2.1 i)] w (some (.int 1)) w := by
  refine hz_ofJ (rv := (fun r : Int32 × MW => some (.int r.1))) (wo := (fun r : Int32 × MW => r.2)) (comp := some ((1 : Int32), w)) (r := ((1 : Int32), w)) (own := RJ0) (ini := false) hl (by decide) rfl (Or.inr rfl) (Nat.le_of_ble_eq_true rfl) rfl ?_ rfl
  intro p e s m args below meth c
  refine hz_gets (pc' := 3) hq_445 dJ0_isLatin1_aae02_0 rfl ?_
  refine hz_at (show some ((1 : Int32), w) = (if (1 : Int32) = 0 then none else some ((1 : Int32), w)) from rfl) ?_
  refine hz_ifeq (pc' := 6) (tgt := 17) dJ0_isLatin1_aae02_3 (by decide) rfl (hz_no rfl) ?_
  refine hz_aload_n (pc' := 7) (j := 0) dJ0_isLatin1_aae02_6 rfl rfl rfl ?_
  refine hz_sfld (pc' := 10) (i := i) hq_1750 (Or.inl ⟨rfl, rfl, rfl⟩) hi dJ0_isLatin1_aae02_7 rfl ?_
  refine hz_at (show some ((1 : Int32), w) = (if (0 : Int32) = 0 then some ((1 : Int32), w) else none) from rfl) ?_
  refine hz_ifne (pc' := 13) (tgt := 17) dJ0_isLatin1_aae02_10 (by decide) rfl (hz_no rfl) ?_
  refine hz_iconst (pc' := 14) (v := 1) dJ0_isLatin1_aae02_13 rfl (by decide) ?_
  refine hz_goto (tgt := 18) dJ0_isLatin1_aae02_14 (by decide) ?_
  exact hz_retn dJ0_isLatin1_aae02_18 rfl rfl (by decide)
theorem hz_wl31 {i : Nat} (hi : i < 14) : Int32.ofNat (hz_wlen.getD i 0) >>> ((0 : Int32) &&& 31) = Int32.ofNat (hz_wlen.getD i 0) ∧ hz_wlen.getD i 0 < 100 := by
  revert i
  decide +kernel
set_option maxHeartbeats 4000000 in
set_option maxRecDepth 100000 in
theorem ct_length {l : Launch} (hl : l.stackTraces = false) {B : Bt} {i n : Nat} (hi : i < 14) {w : MW} : hz_Met l B false n n yJ0_length_8abf5 cJ0_length_8abf5 1 (some .int) 3 0 0 [.ref (B.2.2.2.1 i)] w (some (.int (Int32.ofNat (hz_wlen.getD i 0)))) w := by
  refine hz_ofJ (rv := (fun r : Int32 × MW => some (.int r.1))) (wo := (fun r : Int32 × MW => r.2)) (comp := some (Int32.ofNat (hz_wlen.getD i 0), w)) (r := (Int32.ofNat (hz_wlen.getD i 0), w)) (own := RJ0) (ini := false) hl (by decide) rfl (Or.inr rfl) (Nat.le_of_ble_eq_true rfl) rfl ?_ rfl
  intro p e s m args below meth c
  refine hz_aload_n (pc' := 1) (j := 0) dJ0_length_8abf5_0 rfl rfl rfl ?_
  refine hz_sfld (pc' := 4) (i := i) hq_1749 (Or.inr ⟨rfl, rfl, rfl⟩) hi dJ0_length_8abf5_1 rfl ?_
  refine hz_slen (pc' := 5) (i := i) hi dJ0_length_8abf5_4 rfl ?_
  refine hz_aload_n (pc' := 6) (j := 0) dJ0_length_8abf5_5 rfl rfl rfl ?_
  refine hz_cVs (pc' := 9) (i := i) (av := []) (rest := [.int (Int32.ofNat (hz_wlen.getD i 0))]) hq_441 hq_442 hq_443 hq_18 hq_444 ⟨rfl, by decide, by decide, by decide +kernel⟩ hi (ct_coder hl hi) rfl rfl (Nat.le_of_ble_eq_true rfl) (by decide) (by decide) dJ0_length_8abf5_6 rfl ?_
  refine hz_ishr (pc' := 10) dJ0_length_8abf5_9 rfl ?_
  rw [(hz_wl31 hi).1]
  exact hz_reti dJ0_length_8abf5_10 rfl (by decide)
set_option maxHeartbeats 4000000 in
set_option maxRecDepth 100000 in
theorem ct_pcheck {l : Launch} (hl : l.stackTraces = false) {B : Bt} {n : Nat} {x y : Int32} {v : Value} (hv : v.category = 1) (h0 : ¬ x < 0) (h1 : x < y) {w : MW} : hz_Met l B false n n yJ3_checkIndex_8e157 cJ3_checkIndex_8e157 3 (some .int) 2 0 0 [.int x, .int y, v] w (some (.int x)) w := by
  refine hz_ofJ (rv := (fun r : Int32 × MW => some (.int r.1))) (wo := (fun r : Int32 × MW => r.2)) (comp := some (x, w)) (r := (x, w)) (own := RJ3) (ini := false) (L := [(0, .int x), (1, .int y), (2, v)]) hl (by decide) rfl (Or.inr rfl) (by cases v <;> first | rfl | exact Nat.le_of_ble_eq_true rfl | (simp [Value.category] at hv)) (by cases v <;> first | rfl | (simp [Value.category] at hv)) ?_ rfl
  intro p e s m args below meth c
  refine hz_iload_n (pc' := 1) (j := 0) dJ3_checkIndex_8e157_0 rfl rfl rfl ?_
  refine hz_at (show some (x, w) = (if x < 0 then none else some (x, w)) by rw [if_neg h0]) ?_
  refine hz_iflt (pc' := 4) (tgt := 9) dJ3_checkIndex_8e157_1 (by decide) rfl (hz_no rfl) ?_
  refine hz_iload_n (pc' := 5) (j := 0) dJ3_checkIndex_8e157_4 rfl rfl rfl ?_
  refine hz_iload_n (pc' := 6) (j := 1) dJ3_checkIndex_8e157_5 rfl rfl rfl ?_
  refine hz_at (show some (x, w) = (if x < y then some (x, w) else none) by rw [if_pos h1]) ?_
  refine hz_icmplt (pc' := 9) (tgt := 16) dJ3_checkIndex_8e157_6 (by decide) rfl ?_ (hz_no rfl)
  refine hz_iload_n (pc' := 17) (j := 0) dJ3_checkIndex_8e157_16 rfl rfl rfl ?_
  exact hz_reti dJ3_checkIndex_8e157_17 rfl (by decide)
set_option maxHeartbeats 4000000 in
set_option maxRecDepth 100000 in
theorem ct_scheck {l : Launch} (hl : l.stackTraces = false) {B : Bt} {n : Nat} {x y : Int32} (h0 : ¬ x < 0) (h1 : x < y) {w : MW} : hz_Met l B false n n yJ0_checkIndex_df160 cJ0_checkIndex_df160 2 none 3 0 0 [.int x, .int y] w none w := by
  refine hz_ofJ (rv := (fun r : MW => none)) (wo := (fun r : MW => r)) (comp := some w) (r := w) (own := RJ0) (ini := false) hl (by decide) rfl (Or.inr rfl) (Nat.le_of_ble_eq_true rfl) rfl ?_ rfl
  intro p e s m args below meth c
  refine hz_iload_n (pc' := 1) (j := 0) dJ0_checkIndex_df160_0 rfl rfl rfl ?_
  refine hz_iload_n (pc' := 2) (j := 1) dJ0_checkIndex_df160_1 rfl rfl rfl ?_
  refine hz_getf (pc' := 5) hq_461 dJ0_checkIndex_df160_2 rfl (fun v hv => ?_)
  refine hz_cSs (pc' := 8) (av := [.int x, .int y, v]) (rest := []) (⟨hq_463, hq_464, hq_20, hq_465, by decide, by decide, by decide +kernel⟩ : hz_SL RJ0 1059 yJ3_checkIndex_8e157 cJ3_checkIndex_8e157 3 (Option.some FieldType.int) 3) (ct_pcheck hl hv h0 h1) rfl rfl (Nat.le_of_ble_eq_true rfl) (by decide) (by decide) dJ0_checkIndex_df160_5 rfl ?_
  refine hz_pop (pc' := 9) dJ0_checkIndex_df160_8 rfl rfl ?_
  exact hz_retv dJ0_checkIndex_df160_9 rfl (by decide)
theorem hz_ix31 {j : Int32} {N : Nat} (h : hz_ix j N = true) (hN : N < 100) : ¬ j < 0 ∧ j < Int32.ofNat N := by
  simp only [hz_ix, Bool.and_eq_true, decide_eq_true_eq] at h
  obtain ⟨q, hq, rfl⟩ := nI_of (hz_nlt h.1)
  refine ⟨hz_nlt h.1, ?_⟩
  rw [nI_clamp hq] at h
  exact nI_lt h.2 (by omega)
theorem hz_wch {i : Nat} (hi : i < 14) : ∀ j, j < 6 → (((hz_wbyt.getD i []).getD j 0 &&& 255).toUInt32 % 65536).toInt32 = (hz_wbyt.getD i []).getD j 0 ∧ narrow .char (.int ((hz_wbyt.getD i []).getD j 0)) = .int ((hz_wbyt.getD i []).getD j 0) := by
  revert i
  decide +kernel
theorem hz_wl6 {i : Nat} (hi : i < 14) : hz_wlen.getD i 0 ≤ 6 := by
  revert i
  decide +kernel
set_option maxHeartbeats 4000000 in
set_option maxRecDepth 100000 in
theorem ct_lcharAt {l : Launch} (hl : l.stackTraces = false) {B : Bt} {i n : Nat} {j : Int32} (hi : i < 14) (hj : hz_ix j (hz_wlen.getD i 0) = true) {w : MW} : hz_Met l B false n n yJ1_charAt_3b067 cJ1_charAt_3b067 2 (some .char) 4 0 0 [.ref (B.2.2.2.2 i), .int j] w (some (.int ((hz_wbyt.getD i []).getD j.toNatClampNeg 0))) w := by
  refine hz_ofJ (rv := (fun r : Int32 × MW => some (.int r.1))) (wo := (fun r : Int32 × MW => r.2)) (comp := some ((hz_wbyt.getD i []).getD j.toNatClampNeg 0, w)) (r := ((hz_wbyt.getD i []).getD j.toNatClampNeg 0, w)) (own := RJ1) (ini := false) hl (by decide) rfl (Or.inr rfl) (Nat.le_of_ble_eq_true rfl) rfl ?_ rfl
  intro p e s m args below meth c
  have hc := hz_wch hi j.toNatClampNeg (by
    have h6 := hz_wl6 hi
    simp only [hz_ix, Bool.and_eq_true, decide_eq_true_eq] at hj
    omega)
  have hq := hz_ix31 hj (hz_wl31 hi).2
  refine hz_iload_n (pc' := 1) (j := 1) dJ1_charAt_3b067_0 rfl rfl rfl ?_
  refine hz_aload_n (pc' := 2) (j := 0) dJ1_charAt_3b067_1 rfl rfl rfl ?_
  refine hz_slen (pc' := 3) (i := i) hi dJ1_charAt_3b067_2 rfl ?_
  refine hz_cSs (pc' := 6) (av := [.int j, .int (Int32.ofNat (hz_wlen.getD i 0))]) (rest := []) (⟨hq_458, hq_459, hq_18, hq_460, by decide, by decide, by decide +kernel⟩ : hz_SL RJ1 9 yJ0_checkIndex_df160 cJ0_checkIndex_df160 2 (Option.none : Option FieldType) 2) (ct_scheck hl hq.1 hq.2) rfl rfl (Nat.le_of_ble_eq_true rfl) (by decide) (by decide) dJ1_charAt_3b067_3 rfl ?_
  refine hz_aload_n (pc' := 7) (j := 0) dJ1_charAt_3b067_6 rfl rfl rfl ?_
  refine hz_iload_n (pc' := 8) (j := 1) dJ1_charAt_3b067_7 rfl rfl rfl ?_
  refine hz_sbald (pc' := 9) (i := i) hi hj dJ1_charAt_3b067_8 rfl ?_
  refine hz_sipush (pc' := 12) (v := 255) dJ1_charAt_3b067_9 rfl (by decide) ?_
  refine hz_iand (pc' := 13) dJ1_charAt_3b067_12 rfl ?_
  refine hz_i2c (pc' := 14) dJ1_charAt_3b067_13 rfl ?_
  rw [hc.1]
  exact hz_retn dJ1_charAt_3b067_14 rfl hc.2 (by decide)
set_option maxHeartbeats 4000000 in
set_option maxRecDepth 100000 in
theorem ct_charAt {l : Launch} (hl : l.stackTraces = false) {B : Bt} {i n : Nat} {j : Int32} (hi : i < 14) (hj : hz_ix j (hz_wlen.getD i 0) = true) {w : MW} : hz_Met l B false n n yJ0_charAt_5068e cJ0_charAt_5068e 2 (some .char) 5 0 0 [.ref (B.2.2.2.1 i), .int j] w (some (.int ((hz_wbyt.getD i []).getD j.toNatClampNeg 0))) w := by
  refine hz_ofJ (rv := (fun r : Int32 × MW => some (.int r.1))) (wo := (fun r : Int32 × MW => r.2)) (comp := some ((hz_wbyt.getD i []).getD j.toNatClampNeg 0, w)) (r := ((hz_wbyt.getD i []).getD j.toNatClampNeg 0, w)) (own := RJ0) (ini := false) hl (by decide) rfl (Or.inr rfl) (Nat.le_of_ble_eq_true rfl) rfl ?_ rfl
  intro p e s m args below meth c
  have hc := hz_wch hi j.toNatClampNeg (by
    have h6 := hz_wl6 hi
    simp only [hz_ix, Bool.and_eq_true, decide_eq_true_eq] at hj
    omega)
  refine hz_aload_n (pc' := 1) (j := 0) dJ0_charAt_5068e_0 rfl rfl rfl ?_
  refine hz_cVs (pc' := 4) (i := i) (av := []) (rest := []) hq_451 hq_452 hq_453 hq_18 hq_454 ⟨rfl, by decide, by decide, by decide +kernel⟩ hi (ct_isLatin1 hl hi) rfl rfl (Nat.le_of_ble_eq_true rfl) (by decide) (by decide) dJ0_charAt_5068e_1 rfl ?_
  refine hz_at (show some ((hz_wbyt.getD i []).getD j.toNatClampNeg 0, w) = (if (1 : Int32) = 0 then none else some ((hz_wbyt.getD i []).getD j.toNatClampNeg 0, w)) from rfl) ?_
  refine hz_ifeq (pc' := 7) (tgt := 16) dJ0_charAt_5068e_4 (by decide) rfl (hz_no rfl) ?_
  refine hz_aload_n (pc' := 8) (j := 0) dJ0_charAt_5068e_7 rfl rfl rfl ?_
  refine hz_sfld (pc' := 11) (i := i) hq_1749 (Or.inr ⟨rfl, rfl, rfl⟩) hi dJ0_charAt_5068e_8 rfl ?_
  refine hz_iload_n (pc' := 12) (j := 1) dJ0_charAt_5068e_11 rfl rfl rfl ?_
  refine hz_cSs (pc' := 15) (av := [.ref (B.2.2.2.2 i), .int j]) (rest := []) (⟨hq_455, hq_456, hq_19, hq_457, by decide, by decide, by decide +kernel⟩ : hz_SL RJ0 495 yJ1_charAt_3b067 cJ1_charAt_3b067 2 (Option.some FieldType.char) 2) (ct_lcharAt hl hi hj) rfl rfl (Nat.le_of_ble_eq_true rfl) (by decide) (by decide) dJ0_charAt_5068e_12 rfl ?_
  exact hz_retn dJ0_charAt_5068e_15 rfl hc.2 (by decide)
section HZS2
variable {p : Program} {l : Launch} {e : Env} {d9 m9 s9 : Nat} {s : State} {m : MethodId} {args : Array Value} {below : List Frame} {meth : Method} {c : Code} {cc : ByteArray} {nL : Nat} {own : String} {ret : Option FieldType} {B : Bt} {tb : List ExceptionTableEntry} {ini ex : Bool} {σ ρ τ : Type} {Fi : ρ → State → Prop} {Ko : σ → Option ρ} {pc pc' : Nat} {L : List (Nat × Value)} {st : List Value} {k sl n : Nat} {w : MW} {comp : Option σ}
theorem hz_strlen {z i : Nat} (h1 : Cond.methodLink own z yJ0_length_8abf5 ∈ hz_good) (hR : 7 ≤ d9 ∧ (st.map fun v => v.category).sum ≤ 8) (hf : k ≤ m9 ∧ sl ≤ s9) (d : decode cc pc = .ok (.invokevirtual z, 3)) (hp : pc + 3 = pc') (K : hz_J p l e (hz_rm d9 m9 s9) s m args below meth c cc nL own ret B tb ini ex Fi Ko pc' L (.int (Int32.ofNat (hz_wlen.getD i 0)) :: st) k sl n w comp) : hz_J p l e (hz_rm d9 m9 s9) s m args below meth c cc nL own ret B tb ini ex Fi Ko pc L (.ref (B.2.2.2.1 i) :: st) k sl n w (hz_gd (decide (i < 14)) comp) := by
  intro X hx q hq
  obtain ⟨hi, hq⟩ := hz_gd_some hq
  have hi : i < 14 := by simpa using hi
  exact hz_cVs (i := i) (av := []) (rest := st) h1 hq_438 hq_439 hq_18 hq_440 ⟨rfl, by decide, by decide, by decide +kernel⟩ hi (ct_length X.2.2.2.1 hi) rfl rfl hR.2 ⟨by omega, by omega⟩ hf d hp K X hx q hq
theorem hz_charAt {z i : Nat} {j : Int32} (h1 : Cond.methodLink own z yJ0_charAt_5068e ∈ hz_good) (hR : 7 ≤ d9 ∧ (st.map fun v => v.category).sum ≤ 8) (hf : k ≤ m9 ∧ sl ≤ s9) (d : decode cc pc = .ok (.invokevirtual z, 3)) (hp : pc + 3 = pc') (K : hz_J p l e (hz_rm d9 m9 s9) s m args below meth c cc nL own ret B tb ini ex Fi Ko pc' L (.int ((hz_wbyt.getD i []).getD j.toNatClampNeg 0) :: st) k sl n w comp) : hz_J p l e (hz_rm d9 m9 s9) s m args below meth c cc nL own ret B tb ini ex Fi Ko pc L (.int j :: .ref (B.2.2.2.1 i) :: st) k sl n w (hz_gd (decide (i < 14) && hz_ix j (hz_wlen.getD i 0)) comp) := by
  intro X hx q hq
  obtain ⟨hi, hq⟩ := hz_gd_some hq
  simp only [Bool.and_eq_true, decide_eq_true_eq] at hi
  exact hz_cVs (i := i) (na := 1) (av := [.int j]) (rest := st) h1 hq_448 hq_449 hq_18 hq_450 ⟨rfl, by decide, by decide, by decide +kernel⟩ hi.1 (ct_charAt X.2.2.2.1 hi.1 hi.2) rfl rfl hR.2 ⟨by omega, by omega⟩ hf d hp K X hx q hq
end HZS2
