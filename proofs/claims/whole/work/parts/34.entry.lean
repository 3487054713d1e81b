theorem hz_inJ0 : ∀ w ∈ u_ws RJ0 TJ0 2, w ∈ hz_good := by
  intro w hw
  obtain ⟨k, hk, rfl⟩ := List.mem_map.mp hw
  have hk := List.mem_range.mp hk
  match k, hk with
  | 0, _ => exact hq_958
  | 1, _ => exact hq_960
  | k + 2, hk => exact absurd hk (by omega)
theorem hz_kn {s : State} {args : Array Value} (ht : ∀ w ∈ hz_good, w.before args s = true) : ∃ D : va_G, ∀ (k : Nat) (q : vw_C), vwCl[k]? = some q → u_Kn s q.1 q.2.1 q.2.2 (D.1 k) (D.2 k) := by
  obtain ⟨c0, i0, h0⟩ := u_known (C := RJ0) (T := TJ0) (N := 2) (n := 4) ht hz_inJ0 (ht _ hq_957)
  obtain ⟨c1, i1, h1⟩ := u_known (C := RX0) (T := TX0) (N := 3) (n := 3) ht hz_inX0 (ht _ hq_318)
  obtain ⟨c2, i2, h2⟩ := u_known (C := RX1) (T := TX1) (N := 15) (n := 15) ht hz_inX1 (ht _ hq_186)
  obtain ⟨c3, i3, h3⟩ := u_known (C := RX2) (T := TX2) (N := 13) (n := 13) ht hz_inX2 (ht _ hq_57)
  obtain ⟨c4, i4, h4⟩ := u_known (C := RX3) (T := TX3) (N := 15) (n := 15) ht hz_inX3 (ht _ hq_180)
  obtain ⟨c5, i5, h5⟩ := u_known (C := RX4) (T := TX4) (N := 2) (n := 2) ht hz_inX4 (ht _ hq_35)
  obtain ⟨c6, i6, h6⟩ := u_known (C := RX5) (T := TX5) (N := 5) (n := 5) ht hz_inX5 (ht _ hq_51)
  obtain ⟨c7, i7, h7⟩ := u_known (C := RX6) (T := TX6) (N := 1) (n := 1) ht hz_inX6 (ht _ hq_357)
  obtain ⟨c8, i8, h8⟩ := u_known (C := RX7) (T := TX7) (N := 4) (n := 4) ht hz_inX7 (ht _ hq_138)
  obtain ⟨c9, i9, h9⟩ := u_known (C := RX8) (T := TX8) (N := 3) (n := 3) ht hz_inX8 (ht _ hq_338)
  obtain ⟨c10, i10, h10⟩ := u_known (C := RX9) (T := TX9) (N := 10) (n := 10) ht hz_inX9 (ht _ hq_27)
  obtain ⟨c11, i11, h11⟩ := u_known (C := RX10) (T := TX10) (N := 38) (n := 38) ht hz_inX10 (ht _ hq_1202)
  refine ⟨(fun k => if k = 0 then c0 else if k = 1 then c1 else if k = 2 then c2 else if k = 3 then c3 else if k = 4 then c4 else if k = 5 then c5 else if k = 6 then c6 else if k = 7 then c7 else if k = 8 then c8 else if k = 9 then c9 else if k = 10 then c10 else c11, fun k => if k = 0 then i0 else if k = 1 then i1 else if k = 2 then i2 else if k = 3 then i3 else if k = 4 then i4 else if k = 5 then i5 else if k = 6 then i6 else if k = 7 then i7 else if k = 8 then i8 else if k = 9 then i9 else if k = 10 then i10 else i11), ?_⟩
  intro k q hq
  match k, hq with
  | 0, hq => cases hq; exact h0
  | 1, hq => cases hq; exact h1
  | 2, hq => cases hq; exact h2
  | 3, hq => cases hq; exact h3
  | 4, hq => cases hq; exact h4
  | 5, hq => cases hq; exact h5
  | 6, hq => cases hq; exact h6
  | 7, hq => cases hq; exact h7
  | 8, hq => cases hq; exact h8
  | 9, hq => cases hq; exact h9
  | 10, hq => cases hq; exact h10
  | 11, hq => cases hq; exact h11
  | k + 12, hq => simp [vwCl] at hq
theorem hz_arr {s : State} {args : Array Value} {ty : FieldType} (hp : ∀ C, ty ≠ .object C) (h : (Cond.arrayClass ty).before args s = true) : ∃ cA, ArrOfT s cA ty ∧ va_RA s cA ty := by
  obtain ⟨cA, kA, comp, h1, h2, h3⟩ := Cond.arrayClass_spec h
  refine ⟨cA, fun n z => ⟨(fun k h => by cases h), kA, h2, comp, h3⟩, ?_⟩
  cases ty with
  | object C => exact absurd rfl (hp C)
  | _ => exact h1
theorem hz_arrq {s : State} {C : String} (h : va_AO C s) : ∃ cA, ArrOfT s cA (.object C) ∧ va_RA s cA (.object C) := by
  obtain ⟨comp, cA, kA, h1, -, h2, h3, h4⟩ := Cond.arrayOver_spec (va_AO.use (A := #[]) h)
  exact ⟨cA, fun n z => ⟨(fun k h => by cases h), kA, h2, comp, h3⟩, kA, comp, h2, h3, h1, h4⟩
def hz_nar : List Cond := [.exactly (Term.string "ThermalCoreScheduler$TextParser" 54) "java/lang/String", .eq (.field (Term.string "ThermalCoreScheduler$TextParser" 54) "java/lang/String" "coder" "B") (.int 0), .arrayOf (.field (Term.string "ThermalCoreScheduler$TextParser" 54) "java/lang/String" "value" "[B") .byte, .eq (.length (.field (Term.string "ThermalCoreScheduler$TextParser" 54) "java/lang/String" "value" "[B")) (.int (Int32.ofNat 6)), .eq (.elem (.field (Term.string "ThermalCoreScheduler$TextParser" 54) "java/lang/String" "value" "[B") (.int (Int32.ofNat 0))) (.int 100), .eq (.elem (.field (Term.string "ThermalCoreScheduler$TextParser" 54) "java/lang/String" "value" "[B") (.int (Int32.ofNat 1))) (.int 111), .eq (.elem (.field (Term.string "ThermalCoreScheduler$TextParser" 54) "java/lang/String" "value" "[B") (.int (Int32.ofNat 2))) (.int 109), .eq (.elem (.field (Term.string "ThermalCoreScheduler$TextParser" 54) "java/lang/String" "value" "[B") (.int (Int32.ofNat 3))) (.int 97), .eq (.elem (.field (Term.string "ThermalCoreScheduler$TextParser" 54) "java/lang/String" "value" "[B") (.int (Int32.ofNat 4))) (.int 105), .eq (.elem (.field (Term.string "ThermalCoreScheduler$TextParser" 54) "java/lang/String" "value" "[B") (.int (Int32.ofNat 5))) (.int 110), .exactly (Term.string "ThermalCoreScheduler$TextParser" 63) "java/lang/String", .eq (.field (Term.string "ThermalCoreScheduler$TextParser" 63) "java/lang/String" "coder" "B") (.int 0), .arrayOf (.field (Term.string "ThermalCoreScheduler$TextParser" 63) "java/lang/String" "value" "[B") .byte, .eq (.length (.field (Term.string "ThermalCoreScheduler$TextParser" 63) "java/lang/String" "value" "[B")) (.int (Int32.ofNat 6)), .eq (.elem (.field (Term.string "ThermalCoreScheduler$TextParser" 63) "java/lang/String" "value" "[B") (.int (Int32.ofNat 0))) (.int 115), .eq (.elem (.field (Term.string "ThermalCoreScheduler$TextParser" 63) "java/lang/String" "value" "[B") (.int (Int32.ofNat 1))) (.int 121), .eq (.elem (.field (Term.string "ThermalCoreScheduler$TextParser" 63) "java/lang/String" "value" "[B") (.int (Int32.ofNat 2))) (.int 115), .eq (.elem (.field (Term.string "ThermalCoreScheduler$TextParser" 63) "java/lang/String" "value" "[B") (.int (Int32.ofNat 3))) (.int 116), .eq (.elem (.field (Term.string "ThermalCoreScheduler$TextParser" 63) "java/lang/String" "value" "[B") (.int (Int32.ofNat 4))) (.int 101), .eq (.elem (.field (Term.string "ThermalCoreScheduler$TextParser" 63) "java/lang/String" "value" "[B") (.int (Int32.ofNat 5))) (.int 109), .exactly (Term.string "ThermalCoreScheduler$TextParser" 113) "java/lang/String", .eq (.field (Term.string "ThermalCoreScheduler$TextParser" 113) "java/lang/String" "coder" "B") (.int 0), .arrayOf (.field (Term.string "ThermalCoreScheduler$TextParser" 113) "java/lang/String" "value" "[B") .byte, .eq (.length (.field (Term.string "ThermalCoreScheduler$TextParser" 113) "java/lang/String" "value" "[B")) (.int (Int32.ofNat 3)), .eq (.elem (.field (Term.string "ThermalCoreScheduler$TextParser" 113) "java/lang/String" "value" "[B") (.int (Int32.ofNat 0))) (.int 109), .eq (.elem (.field (Term.string "ThermalCoreScheduler$TextParser" 113) "java/lang/String" "value" "[B") (.int (Int32.ofNat 1))) (.int 97), .eq (.elem (.field (Term.string "ThermalCoreScheduler$TextParser" 113) "java/lang/String" "value" "[B") (.int (Int32.ofNat 2))) (.int 120), .exactly (Term.string "ThermalCoreScheduler$TextParser" 118) "java/lang/String", .eq (.field (Term.string "ThermalCoreScheduler$TextParser" 118) "java/lang/String" "coder" "B") (.int 0), .arrayOf (.field (Term.string "ThermalCoreScheduler$TextParser" 118) "java/lang/String" "value" "[B") .byte, .eq (.length (.field (Term.string "ThermalCoreScheduler$TextParser" 118) "java/lang/String" "value" "[B")) (.int (Int32.ofNat 3)), .eq (.elem (.field (Term.string "ThermalCoreScheduler$TextParser" 118) "java/lang/String" "value" "[B") (.int (Int32.ofNat 0))) (.int 109), .eq (.elem (.field (Term.string "ThermalCoreScheduler$TextParser" 118) "java/lang/String" "value" "[B") (.int (Int32.ofNat 1))) (.int 105), .eq (.elem (.field (Term.string "ThermalCoreScheduler$TextParser" 118) "java/lang/String" "value" "[B") (.int (Int32.ofNat 2))) (.int 110), .exactly (Term.string "ThermalCoreScheduler$TextParser" 120) "java/lang/String", .eq (.field (Term.string "ThermalCoreScheduler$TextParser" 120) "java/lang/String" "coder" "B") (.int 0), .arrayOf (.field (Term.string "ThermalCoreScheduler$TextParser" 120) "java/lang/String" "value" "[B") .byte, .eq (.length (.field (Term.string "ThermalCoreScheduler$TextParser" 120) "java/lang/String" "value" "[B")) (.int (Int32.ofNat 6)), .eq (.elem (.field (Term.string "ThermalCoreScheduler$TextParser" 120) "java/lang/String" "value" "[B") (.int (Int32.ofNat 0))) (.int 100), .eq (.elem (.field (Term.string "ThermalCoreScheduler$TextParser" 120) "java/lang/String" "value" "[B") (.int (Int32.ofNat 1))) (.int 101), .eq (.elem (.field (Term.string "ThermalCoreScheduler$TextParser" 120) "java/lang/String" "value" "[B") (.int (Int32.ofNat 2))) (.int 109), .eq (.elem (.field (Term.string "ThermalCoreScheduler$TextParser" 120) "java/lang/String" "value" "[B") (.int (Int32.ofNat 3))) (.int 97), .eq (.elem (.field (Term.string "ThermalCoreScheduler$TextParser" 120) "java/lang/String" "value" "[B") (.int (Int32.ofNat 4))) (.int 110), .eq (.elem (.field (Term.string "ThermalCoreScheduler$TextParser" 120) "java/lang/String" "value" "[B") (.int (Int32.ofNat 5))) (.int 100), .exactly (Term.string "ThermalCoreScheduler$TextParser" 122) "java/lang/String", .eq (.field (Term.string "ThermalCoreScheduler$TextParser" 122) "java/lang/String" "coder" "B") (.int 0), .arrayOf (.field (Term.string "ThermalCoreScheduler$TextParser" 122) "java/lang/String" "value" "[B") .byte, .eq (.length (.field (Term.string "ThermalCoreScheduler$TextParser" 122) "java/lang/String" "value" "[B")) (.int (Int32.ofNat 4)), .eq (.elem (.field (Term.string "ThermalCoreScheduler$TextParser" 122) "java/lang/String" "value" "[B") (.int (Int32.ofNat 0))) (.int 114), .eq (.elem (.field (Term.string "ThermalCoreScheduler$TextParser" 122) "java/lang/String" "value" "[B") (.int (Int32.ofNat 1))) (.int 97), .eq (.elem (.field (Term.string "ThermalCoreScheduler$TextParser" 122) "java/lang/String" "value" "[B") (.int (Int32.ofNat 2))) (.int 99), .eq (.elem (.field (Term.string "ThermalCoreScheduler$TextParser" 122) "java/lang/String" "value" "[B") (.int (Int32.ofNat 3))) (.int 101), .exactly (Term.string "ThermalCoreScheduler$TextParser" 127) "java/lang/String", .eq (.field (Term.string "ThermalCoreScheduler$TextParser" 127) "java/lang/String" "coder" "B") (.int 0), .arrayOf (.field (Term.string "ThermalCoreScheduler$TextParser" 127) "java/lang/String" "value" "[B") .byte, .eq (.length (.field (Term.string "ThermalCoreScheduler$TextParser" 127) "java/lang/String" "value" "[B")) (.int (Int32.ofNat 5)), .eq (.elem (.field (Term.string "ThermalCoreScheduler$TextParser" 127) "java/lang/String" "value" "[B") (.int (Int32.ofNat 0))) (.int 108), .eq (.elem (.field (Term.string "ThermalCoreScheduler$TextParser" 127) "java/lang/String" "value" "[B") (.int (Int32.ofNat 1))) (.int 101), .eq (.elem (.field (Term.string "ThermalCoreScheduler$TextParser" 127) "java/lang/String" "value" "[B") (.int (Int32.ofNat 2))) (.int 118), .eq (.elem (.field (Term.string "ThermalCoreScheduler$TextParser" 127) "java/lang/String" "value" "[B") (.int (Int32.ofNat 3))) (.int 101), .eq (.elem (.field (Term.string "ThermalCoreScheduler$TextParser" 127) "java/lang/String" "value" "[B") (.int (Int32.ofNat 4))) (.int 108), .exactly (Term.string "ThermalCoreSchedulerModel" 149) "java/lang/String", .eq (.field (Term.string "ThermalCoreSchedulerModel" 149) "java/lang/String" "coder" "B") (.int 0), .arrayOf (.field (Term.string "ThermalCoreSchedulerModel" 149) "java/lang/String" "value" "[B") .byte, .eq (.length (.field (Term.string "ThermalCoreSchedulerModel" 149) "java/lang/String" "value" "[B")) (.int (Int32.ofNat 3)), .eq (.elem (.field (Term.string "ThermalCoreSchedulerModel" 149) "java/lang/String" "value" "[B") (.int (Int32.ofNat 0))) (.int 109), .eq (.elem (.field (Term.string "ThermalCoreSchedulerModel" 149) "java/lang/String" "value" "[B") (.int (Int32.ofNat 1))) (.int 97), .eq (.elem (.field (Term.string "ThermalCoreSchedulerModel" 149) "java/lang/String" "value" "[B") (.int (Int32.ofNat 2))) (.int 120), .exactly (Term.string "ThermalCoreSchedulerModel" 155) "java/lang/String", .eq (.field (Term.string "ThermalCoreSchedulerModel" 155) "java/lang/String" "coder" "B") (.int 0), .arrayOf (.field (Term.string "ThermalCoreSchedulerModel" 155) "java/lang/String" "value" "[B") .byte, .eq (.length (.field (Term.string "ThermalCoreSchedulerModel" 155) "java/lang/String" "value" "[B")) (.int (Int32.ofNat 3)), .eq (.elem (.field (Term.string "ThermalCoreSchedulerModel" 155) "java/lang/String" "value" "[B") (.int (Int32.ofNat 0))) (.int 109), .eq (.elem (.field (Term.string "ThermalCoreSchedulerModel" 155) "java/lang/String" "value" "[B") (.int (Int32.ofNat 1))) (.int 105), .eq (.elem (.field (Term.string "ThermalCoreSchedulerModel" 155) "java/lang/String" "value" "[B") (.int (Int32.ofNat 2))) (.int 110), .exactly (Term.string "ThermalCoreSchedulerModel" 157) "java/lang/String", .eq (.field (Term.string "ThermalCoreSchedulerModel" 157) "java/lang/String" "coder" "B") (.int 0), .arrayOf (.field (Term.string "ThermalCoreSchedulerModel" 157) "java/lang/String" "value" "[B") .byte, .eq (.length (.field (Term.string "ThermalCoreSchedulerModel" 157) "java/lang/String" "value" "[B")) (.int (Int32.ofNat 6)), .eq (.elem (.field (Term.string "ThermalCoreSchedulerModel" 157) "java/lang/String" "value" "[B") (.int (Int32.ofNat 0))) (.int 100), .eq (.elem (.field (Term.string "ThermalCoreSchedulerModel" 157) "java/lang/String" "value" "[B") (.int (Int32.ofNat 1))) (.int 101), .eq (.elem (.field (Term.string "ThermalCoreSchedulerModel" 157) "java/lang/String" "value" "[B") (.int (Int32.ofNat 2))) (.int 109), .eq (.elem (.field (Term.string "ThermalCoreSchedulerModel" 157) "java/lang/String" "value" "[B") (.int (Int32.ofNat 3))) (.int 97), .eq (.elem (.field (Term.string "ThermalCoreSchedulerModel" 157) "java/lang/String" "value" "[B") (.int (Int32.ofNat 4))) (.int 110), .eq (.elem (.field (Term.string "ThermalCoreSchedulerModel" 157) "java/lang/String" "value" "[B") (.int (Int32.ofNat 5))) (.int 100), .exactly (Term.string "ThermalCoreSchedulerModel" 159) "java/lang/String", .eq (.field (Term.string "ThermalCoreSchedulerModel" 159) "java/lang/String" "coder" "B") (.int 0), .arrayOf (.field (Term.string "ThermalCoreSchedulerModel" 159) "java/lang/String" "value" "[B") .byte, .eq (.length (.field (Term.string "ThermalCoreSchedulerModel" 159) "java/lang/String" "value" "[B")) (.int (Int32.ofNat 4)), .eq (.elem (.field (Term.string "ThermalCoreSchedulerModel" 159) "java/lang/String" "value" "[B") (.int (Int32.ofNat 0))) (.int 114), .eq (.elem (.field (Term.string "ThermalCoreSchedulerModel" 159) "java/lang/String" "value" "[B") (.int (Int32.ofNat 1))) (.int 97), .eq (.elem (.field (Term.string "ThermalCoreSchedulerModel" 159) "java/lang/String" "value" "[B") (.int (Int32.ofNat 2))) (.int 99), .eq (.elem (.field (Term.string "ThermalCoreSchedulerModel" 159) "java/lang/String" "value" "[B") (.int (Int32.ofNat 3))) (.int 101), .exactly (Term.string "ThermalCoreSchedulerModel" 178) "java/lang/String", .eq (.field (Term.string "ThermalCoreSchedulerModel" 178) "java/lang/String" "coder" "B") (.int 0), .arrayOf (.field (Term.string "ThermalCoreSchedulerModel" 178) "java/lang/String" "value" "[B") .byte, .eq (.length (.field (Term.string "ThermalCoreSchedulerModel" 178) "java/lang/String" "value" "[B")) (.int (Int32.ofNat 5)), .eq (.elem (.field (Term.string "ThermalCoreSchedulerModel" 178) "java/lang/String" "value" "[B") (.int (Int32.ofNat 0))) (.int 108), .eq (.elem (.field (Term.string "ThermalCoreSchedulerModel" 178) "java/lang/String" "value" "[B") (.int (Int32.ofNat 1))) (.int 101), .eq (.elem (.field (Term.string "ThermalCoreSchedulerModel" 178) "java/lang/String" "value" "[B") (.int (Int32.ofNat 2))) (.int 118), .eq (.elem (.field (Term.string "ThermalCoreSchedulerModel" 178) "java/lang/String" "value" "[B") (.int (Int32.ofNat 3))) (.int 101), .eq (.elem (.field (Term.string "ThermalCoreSchedulerModel" 178) "java/lang/String" "value" "[B") (.int (Int32.ofNat 4))) (.int 108), .exactly (Term.string "ThermalCoreSchedulerModel" 180) "java/lang/String", .eq (.field (Term.string "ThermalCoreSchedulerModel" 180) "java/lang/String" "coder" "B") (.int 0), .arrayOf (.field (Term.string "ThermalCoreSchedulerModel" 180) "java/lang/String" "value" "[B") .byte, .eq (.length (.field (Term.string "ThermalCoreSchedulerModel" 180) "java/lang/String" "value" "[B")) (.int (Int32.ofNat 6)), .eq (.elem (.field (Term.string "ThermalCoreSchedulerModel" 180) "java/lang/String" "value" "[B") (.int (Int32.ofNat 0))) (.int 115), .eq (.elem (.field (Term.string "ThermalCoreSchedulerModel" 180) "java/lang/String" "value" "[B") (.int (Int32.ofNat 1))) (.int 121), .eq (.elem (.field (Term.string "ThermalCoreSchedulerModel" 180) "java/lang/String" "value" "[B") (.int (Int32.ofNat 2))) (.int 115), .eq (.elem (.field (Term.string "ThermalCoreSchedulerModel" 180) "java/lang/String" "value" "[B") (.int (Int32.ofNat 3))) (.int 116), .eq (.elem (.field (Term.string "ThermalCoreSchedulerModel" 180) "java/lang/String" "value" "[B") (.int (Int32.ofNat 4))) (.int 101), .eq (.elem (.field (Term.string "ThermalCoreSchedulerModel" 180) "java/lang/String" "value" "[B") (.int (Int32.ofNat 5))) (.int 109), .exactly (Term.string "ThermalCoreSchedulerModel" 185) "java/lang/String", .eq (.field (Term.string "ThermalCoreSchedulerModel" 185) "java/lang/String" "coder" "B") (.int 0), .arrayOf (.field (Term.string "ThermalCoreSchedulerModel" 185) "java/lang/String" "value" "[B") .byte, .eq (.length (.field (Term.string "ThermalCoreSchedulerModel" 185) "java/lang/String" "value" "[B")) (.int (Int32.ofNat 6)), .eq (.elem (.field (Term.string "ThermalCoreSchedulerModel" 185) "java/lang/String" "value" "[B") (.int (Int32.ofNat 0))) (.int 100), .eq (.elem (.field (Term.string "ThermalCoreSchedulerModel" 185) "java/lang/String" "value" "[B") (.int (Int32.ofNat 1))) (.int 111), .eq (.elem (.field (Term.string "ThermalCoreSchedulerModel" 185) "java/lang/String" "value" "[B") (.int (Int32.ofNat 2))) (.int 109), .eq (.elem (.field (Term.string "ThermalCoreSchedulerModel" 185) "java/lang/String" "value" "[B") (.int (Int32.ofNat 3))) (.int 97), .eq (.elem (.field (Term.string "ThermalCoreSchedulerModel" 185) "java/lang/String" "value" "[B") (.int (Int32.ofNat 4))) (.int 105), .eq (.elem (.field (Term.string "ThermalCoreSchedulerModel" 185) "java/lang/String" "value" "[B") (.int (Int32.ofNat 5))) (.int 110), .exactly (Term.string "ThermalCoreScheduler" 78) "java/lang/String", .exactly (Term.string "ThermalCoreScheduler" 206) "java/lang/String", .exactly (Term.string "ThermalCoreScheduler" 221) "java/lang/String", .exactly (Term.string "ThermalCoreScheduler" 226) "java/lang/String", .exactly (Term.string "ThermalCoreScheduler" 270) "java/lang/String", .exactly (Term.string "ThermalCoreScheduler" 285) "java/lang/String", .exactly (Term.string "ThermalCoreScheduler" 337) "java/lang/String", .exactly (Term.string "ThermalCoreScheduler" 339) "java/lang/String", .exactly (Term.string "ThermalCoreScheduler" 341) "java/lang/String", .eq (.static "java/lang/String" "COMPACT_STRINGS" "Z") (.int 1), .isRef (.static "jdk/internal/util/Preconditions" "SIOOBE_FORMATTER" "Ljava/util/function/BiFunction;"), .isRef (.static "java/lang/Throwable" "UNASSIGNED_STACK" "[Ljava/lang/StackTraceElement;"), .isRef (.static "java/lang/Throwable" "SUPPRESSED_SENTINEL" "Ljava/util/List;"), .not (.castable "java/lang/IllegalArgumentException" "java/lang/IllegalStateException"), .not (.castable "java/util/NoSuchElementException" "java/lang/IllegalStateException"), .not (.castable "java/util/NoSuchElementException" "java/lang/IllegalArgumentException"), .not (.castable "java/lang/ArithmeticException" "java/lang/IllegalStateException"), .not (.castable "java/lang/ArithmeticException" "java/lang/IllegalArgumentException")]
theorem hz_n0 : (.exactly (Term.string "ThermalCoreScheduler$TextParser" 54) "java/lang/String" : Cond) ∈ flatC (Jvm.Cond.and given_1 narrow_1) := List.mem_of_getElem? (i := 77) (by decide +kernel)
theorem hz_n1 : (.eq (.field (Term.string "ThermalCoreScheduler$TextParser" 54) "java/lang/String" "coder" "B") (.int 0) : Cond) ∈ flatC (Jvm.Cond.and given_1 narrow_1) := List.mem_of_getElem? (i := 78) (by decide +kernel)
theorem hz_n2 : (.arrayOf (.field (Term.string "ThermalCoreScheduler$TextParser" 54) "java/lang/String" "value" "[B") .byte : Cond) ∈ flatC (Jvm.Cond.and given_1 narrow_1) := List.mem_of_getElem? (i := 79) (by decide +kernel)
theorem hz_n3 : (.eq (.length (.field (Term.string "ThermalCoreScheduler$TextParser" 54) "java/lang/String" "value" "[B")) (.int (Int32.ofNat 6)) : Cond) ∈ flatC (Jvm.Cond.and given_1 narrow_1) := List.mem_of_getElem? (i := 80) (by decide +kernel)
theorem hz_n4 : (.eq (.elem (.field (Term.string "ThermalCoreScheduler$TextParser" 54) "java/lang/String" "value" "[B") (.int (Int32.ofNat 0))) (.int 100) : Cond) ∈ flatC (Jvm.Cond.and given_1 narrow_1) := List.mem_of_getElem? (i := 81) (by decide +kernel)
theorem hz_n5 : (.eq (.elem (.field (Term.string "ThermalCoreScheduler$TextParser" 54) "java/lang/String" "value" "[B") (.int (Int32.ofNat 1))) (.int 111) : Cond) ∈ flatC (Jvm.Cond.and given_1 narrow_1) := List.mem_of_getElem? (i := 82) (by decide +kernel)
theorem hz_n6 : (.eq (.elem (.field (Term.string "ThermalCoreScheduler$TextParser" 54) "java/lang/String" "value" "[B") (.int (Int32.ofNat 2))) (.int 109) : Cond) ∈ flatC (Jvm.Cond.and given_1 narrow_1) := List.mem_of_getElem? (i := 83) (by decide +kernel)
theorem hz_n7 : (.eq (.elem (.field (Term.string "ThermalCoreScheduler$TextParser" 54) "java/lang/String" "value" "[B") (.int (Int32.ofNat 3))) (.int 97) : Cond) ∈ flatC (Jvm.Cond.and given_1 narrow_1) := List.mem_of_getElem? (i := 84) (by decide +kernel)
theorem hz_n8 : (.eq (.elem (.field (Term.string "ThermalCoreScheduler$TextParser" 54) "java/lang/String" "value" "[B") (.int (Int32.ofNat 4))) (.int 105) : Cond) ∈ flatC (Jvm.Cond.and given_1 narrow_1) := List.mem_of_getElem? (i := 85) (by decide +kernel)
theorem hz_n9 : (.eq (.elem (.field (Term.string "ThermalCoreScheduler$TextParser" 54) "java/lang/String" "value" "[B") (.int (Int32.ofNat 5))) (.int 110) : Cond) ∈ flatC (Jvm.Cond.and given_1 narrow_1) := List.mem_of_getElem? (i := 86) (by decide +kernel)
theorem hz_n10 : (.exactly (Term.string "ThermalCoreScheduler$TextParser" 63) "java/lang/String" : Cond) ∈ flatC (Jvm.Cond.and given_1 narrow_1) := List.mem_of_getElem? (i := 67) (by decide +kernel)
theorem hz_n11 : (.eq (.field (Term.string "ThermalCoreScheduler$TextParser" 63) "java/lang/String" "coder" "B") (.int 0) : Cond) ∈ flatC (Jvm.Cond.and given_1 narrow_1) := List.mem_of_getElem? (i := 68) (by decide +kernel)
theorem hz_n12 : (.arrayOf (.field (Term.string "ThermalCoreScheduler$TextParser" 63) "java/lang/String" "value" "[B") .byte : Cond) ∈ flatC (Jvm.Cond.and given_1 narrow_1) := List.mem_of_getElem? (i := 69) (by decide +kernel)
theorem hz_n13 : (.eq (.length (.field (Term.string "ThermalCoreScheduler$TextParser" 63) "java/lang/String" "value" "[B")) (.int (Int32.ofNat 6)) : Cond) ∈ flatC (Jvm.Cond.and given_1 narrow_1) := List.mem_of_getElem? (i := 70) (by decide +kernel)
theorem hz_n14 : (.eq (.elem (.field (Term.string "ThermalCoreScheduler$TextParser" 63) "java/lang/String" "value" "[B") (.int (Int32.ofNat 0))) (.int 115) : Cond) ∈ flatC (Jvm.Cond.and given_1 narrow_1) := List.mem_of_getElem? (i := 71) (by decide +kernel)
theorem hz_n15 : (.eq (.elem (.field (Term.string "ThermalCoreScheduler$TextParser" 63) "java/lang/String" "value" "[B") (.int (Int32.ofNat 1))) (.int 121) : Cond) ∈ flatC (Jvm.Cond.and given_1 narrow_1) := List.mem_of_getElem? (i := 72) (by decide +kernel)
theorem hz_n16 : (.eq (.elem (.field (Term.string "ThermalCoreScheduler$TextParser" 63) "java/lang/String" "value" "[B") (.int (Int32.ofNat 2))) (.int 115) : Cond) ∈ flatC (Jvm.Cond.and given_1 narrow_1) := List.mem_of_getElem? (i := 73) (by decide +kernel)
theorem hz_n17 : (.eq (.elem (.field (Term.string "ThermalCoreScheduler$TextParser" 63) "java/lang/String" "value" "[B") (.int (Int32.ofNat 3))) (.int 116) : Cond) ∈ flatC (Jvm.Cond.and given_1 narrow_1) := List.mem_of_getElem? (i := 74) (by decide +kernel)
theorem hz_n18 : (.eq (.elem (.field (Term.string "ThermalCoreScheduler$TextParser" 63) "java/lang/String" "value" "[B") (.int (Int32.ofNat 4))) (.int 101) : Cond) ∈ flatC (Jvm.Cond.and given_1 narrow_1) := List.mem_of_getElem? (i := 75) (by decide +kernel)
theorem hz_n19 : (.eq (.elem (.field (Term.string "ThermalCoreScheduler$TextParser" 63) "java/lang/String" "value" "[B") (.int (Int32.ofNat 5))) (.int 109) : Cond) ∈ flatC (Jvm.Cond.and given_1 narrow_1) := List.mem_of_getElem? (i := 76) (by decide +kernel)
theorem hz_n20 : (.exactly (Term.string "ThermalCoreScheduler$TextParser" 113) "java/lang/String" : Cond) ∈ flatC (Jvm.Cond.and given_1 narrow_1) := List.mem_of_getElem? (i := 88) (by decide +kernel)
theorem hz_n21 : (.eq (.field (Term.string "ThermalCoreScheduler$TextParser" 113) "java/lang/String" "coder" "B") (.int 0) : Cond) ∈ flatC (Jvm.Cond.and given_1 narrow_1) := List.mem_of_getElem? (i := 89) (by decide +kernel)
theorem hz_n22 : (.arrayOf (.field (Term.string "ThermalCoreScheduler$TextParser" 113) "java/lang/String" "value" "[B") .byte : Cond) ∈ flatC (Jvm.Cond.and given_1 narrow_1) := List.mem_of_getElem? (i := 90) (by decide +kernel)
theorem hz_n23 : (.eq (.length (.field (Term.string "ThermalCoreScheduler$TextParser" 113) "java/lang/String" "value" "[B")) (.int (Int32.ofNat 3)) : Cond) ∈ flatC (Jvm.Cond.and given_1 narrow_1) := List.mem_of_getElem? (i := 91) (by decide +kernel)
theorem hz_n24 : (.eq (.elem (.field (Term.string "ThermalCoreScheduler$TextParser" 113) "java/lang/String" "value" "[B") (.int (Int32.ofNat 0))) (.int 109) : Cond) ∈ flatC (Jvm.Cond.and given_1 narrow_1) := List.mem_of_getElem? (i := 92) (by decide +kernel)
theorem hz_n25 : (.eq (.elem (.field (Term.string "ThermalCoreScheduler$TextParser" 113) "java/lang/String" "value" "[B") (.int (Int32.ofNat 1))) (.int 97) : Cond) ∈ flatC (Jvm.Cond.and given_1 narrow_1) := List.mem_of_getElem? (i := 93) (by decide +kernel)
theorem hz_n26 : (.eq (.elem (.field (Term.string "ThermalCoreScheduler$TextParser" 113) "java/lang/String" "value" "[B") (.int (Int32.ofNat 2))) (.int 120) : Cond) ∈ flatC (Jvm.Cond.and given_1 narrow_1) := List.mem_of_getElem? (i := 94) (by decide +kernel)
theorem hz_n27 : (.exactly (Term.string "ThermalCoreScheduler$TextParser" 118) "java/lang/String" : Cond) ∈ flatC (Jvm.Cond.and given_1 narrow_1) := List.mem_of_getElem? (i := 97) (by decide +kernel)
theorem hz_n28 : (.eq (.field (Term.string "ThermalCoreScheduler$TextParser" 118) "java/lang/String" "coder" "B") (.int 0) : Cond) ∈ flatC (Jvm.Cond.and given_1 narrow_1) := List.mem_of_getElem? (i := 98) (by decide +kernel)
theorem hz_n29 : (.arrayOf (.field (Term.string "ThermalCoreScheduler$TextParser" 118) "java/lang/String" "value" "[B") .byte : Cond) ∈ flatC (Jvm.Cond.and given_1 narrow_1) := List.mem_of_getElem? (i := 99) (by decide +kernel)
theorem hz_n30 : (.eq (.length (.field (Term.string "ThermalCoreScheduler$TextParser" 118) "java/lang/String" "value" "[B")) (.int (Int32.ofNat 3)) : Cond) ∈ flatC (Jvm.Cond.and given_1 narrow_1) := List.mem_of_getElem? (i := 100) (by decide +kernel)
theorem hz_n31 : (.eq (.elem (.field (Term.string "ThermalCoreScheduler$TextParser" 118) "java/lang/String" "value" "[B") (.int (Int32.ofNat 0))) (.int 109) : Cond) ∈ flatC (Jvm.Cond.and given_1 narrow_1) := List.mem_of_getElem? (i := 101) (by decide +kernel)
theorem hz_n32 : (.eq (.elem (.field (Term.string "ThermalCoreScheduler$TextParser" 118) "java/lang/String" "value" "[B") (.int (Int32.ofNat 1))) (.int 105) : Cond) ∈ flatC (Jvm.Cond.and given_1 narrow_1) := List.mem_of_getElem? (i := 102) (by decide +kernel)
theorem hz_n33 : (.eq (.elem (.field (Term.string "ThermalCoreScheduler$TextParser" 118) "java/lang/String" "value" "[B") (.int (Int32.ofNat 2))) (.int 110) : Cond) ∈ flatC (Jvm.Cond.and given_1 narrow_1) := List.mem_of_getElem? (i := 103) (by decide +kernel)
theorem hz_n34 : (.exactly (Term.string "ThermalCoreScheduler$TextParser" 120) "java/lang/String" : Cond) ∈ flatC (Jvm.Cond.and given_1 narrow_1) := List.mem_of_getElem? (i := 107) (by decide +kernel)
theorem hz_n35 : (.eq (.field (Term.string "ThermalCoreScheduler$TextParser" 120) "java/lang/String" "coder" "B") (.int 0) : Cond) ∈ flatC (Jvm.Cond.and given_1 narrow_1) := List.mem_of_getElem? (i := 108) (by decide +kernel)
theorem hz_n36 : (.arrayOf (.field (Term.string "ThermalCoreScheduler$TextParser" 120) "java/lang/String" "value" "[B") .byte : Cond) ∈ flatC (Jvm.Cond.and given_1 narrow_1) := List.mem_of_getElem? (i := 109) (by decide +kernel)
theorem hz_n37 : (.eq (.length (.field (Term.string "ThermalCoreScheduler$TextParser" 120) "java/lang/String" "value" "[B")) (.int (Int32.ofNat 6)) : Cond) ∈ flatC (Jvm.Cond.and given_1 narrow_1) := List.mem_of_getElem? (i := 110) (by decide +kernel)
theorem hz_n38 : (.eq (.elem (.field (Term.string "ThermalCoreScheduler$TextParser" 120) "java/lang/String" "value" "[B") (.int (Int32.ofNat 0))) (.int 100) : Cond) ∈ flatC (Jvm.Cond.and given_1 narrow_1) := List.mem_of_getElem? (i := 111) (by decide +kernel)
theorem hz_n39 : (.eq (.elem (.field (Term.string "ThermalCoreScheduler$TextParser" 120) "java/lang/String" "value" "[B") (.int (Int32.ofNat 1))) (.int 101) : Cond) ∈ flatC (Jvm.Cond.and given_1 narrow_1) := List.mem_of_getElem? (i := 112) (by decide +kernel)
theorem hz_n40 : (.eq (.elem (.field (Term.string "ThermalCoreScheduler$TextParser" 120) "java/lang/String" "value" "[B") (.int (Int32.ofNat 2))) (.int 109) : Cond) ∈ flatC (Jvm.Cond.and given_1 narrow_1) := List.mem_of_getElem? (i := 113) (by decide +kernel)
theorem hz_n41 : (.eq (.elem (.field (Term.string "ThermalCoreScheduler$TextParser" 120) "java/lang/String" "value" "[B") (.int (Int32.ofNat 3))) (.int 97) : Cond) ∈ flatC (Jvm.Cond.and given_1 narrow_1) := List.mem_of_getElem? (i := 114) (by decide +kernel)
theorem hz_n42 : (.eq (.elem (.field (Term.string "ThermalCoreScheduler$TextParser" 120) "java/lang/String" "value" "[B") (.int (Int32.ofNat 4))) (.int 110) : Cond) ∈ flatC (Jvm.Cond.and given_1 narrow_1) := List.mem_of_getElem? (i := 115) (by decide +kernel)
theorem hz_n43 : (.eq (.elem (.field (Term.string "ThermalCoreScheduler$TextParser" 120) "java/lang/String" "value" "[B") (.int (Int32.ofNat 5))) (.int 100) : Cond) ∈ flatC (Jvm.Cond.and given_1 narrow_1) := List.mem_of_getElem? (i := 116) (by decide +kernel)
theorem hz_n44 : (.exactly (Term.string "ThermalCoreScheduler$TextParser" 122) "java/lang/String" : Cond) ∈ flatC (Jvm.Cond.and given_1 narrow_1) := List.mem_of_getElem? (i := 121) (by decide +kernel)
theorem hz_n45 : (.eq (.field (Term.string "ThermalCoreScheduler$TextParser" 122) "java/lang/String" "coder" "B") (.int 0) : Cond) ∈ flatC (Jvm.Cond.and given_1 narrow_1) := List.mem_of_getElem? (i := 122) (by decide +kernel)
theorem hz_n46 : (.arrayOf (.field (Term.string "ThermalCoreScheduler$TextParser" 122) "java/lang/String" "value" "[B") .byte : Cond) ∈ flatC (Jvm.Cond.and given_1 narrow_1) := List.mem_of_getElem? (i := 123) (by decide +kernel)
theorem hz_n47 : (.eq (.length (.field (Term.string "ThermalCoreScheduler$TextParser" 122) "java/lang/String" "value" "[B")) (.int (Int32.ofNat 4)) : Cond) ∈ flatC (Jvm.Cond.and given_1 narrow_1) := List.mem_of_getElem? (i := 124) (by decide +kernel)
theorem hz_n48 : (.eq (.elem (.field (Term.string "ThermalCoreScheduler$TextParser" 122) "java/lang/String" "value" "[B") (.int (Int32.ofNat 0))) (.int 114) : Cond) ∈ flatC (Jvm.Cond.and given_1 narrow_1) := List.mem_of_getElem? (i := 125) (by decide +kernel)
theorem hz_n49 : (.eq (.elem (.field (Term.string "ThermalCoreScheduler$TextParser" 122) "java/lang/String" "value" "[B") (.int (Int32.ofNat 1))) (.int 97) : Cond) ∈ flatC (Jvm.Cond.and given_1 narrow_1) := List.mem_of_getElem? (i := 126) (by decide +kernel)
theorem hz_n50 : (.eq (.elem (.field (Term.string "ThermalCoreScheduler$TextParser" 122) "java/lang/String" "value" "[B") (.int (Int32.ofNat 2))) (.int 99) : Cond) ∈ flatC (Jvm.Cond.and given_1 narrow_1) := List.mem_of_getElem? (i := 127) (by decide +kernel)
theorem hz_n51 : (.eq (.elem (.field (Term.string "ThermalCoreScheduler$TextParser" 122) "java/lang/String" "value" "[B") (.int (Int32.ofNat 3))) (.int 101) : Cond) ∈ flatC (Jvm.Cond.and given_1 narrow_1) := List.mem_of_getElem? (i := 128) (by decide +kernel)
theorem hz_n52 : (.exactly (Term.string "ThermalCoreScheduler$TextParser" 127) "java/lang/String" : Cond) ∈ flatC (Jvm.Cond.and given_1 narrow_1) := List.mem_of_getElem? (i := 134) (by decide +kernel)
theorem hz_n53 : (.eq (.field (Term.string "ThermalCoreScheduler$TextParser" 127) "java/lang/String" "coder" "B") (.int 0) : Cond) ∈ flatC (Jvm.Cond.and given_1 narrow_1) := List.mem_of_getElem? (i := 135) (by decide +kernel)
theorem hz_n54 : (.arrayOf (.field (Term.string "ThermalCoreScheduler$TextParser" 127) "java/lang/String" "value" "[B") .byte : Cond) ∈ flatC (Jvm.Cond.and given_1 narrow_1) := List.mem_of_getElem? (i := 136) (by decide +kernel)
theorem hz_n55 : (.eq (.length (.field (Term.string "ThermalCoreScheduler$TextParser" 127) "java/lang/String" "value" "[B")) (.int (Int32.ofNat 5)) : Cond) ∈ flatC (Jvm.Cond.and given_1 narrow_1) := List.mem_of_getElem? (i := 137) (by decide +kernel)
theorem hz_n56 : (.eq (.elem (.field (Term.string "ThermalCoreScheduler$TextParser" 127) "java/lang/String" "value" "[B") (.int (Int32.ofNat 0))) (.int 108) : Cond) ∈ flatC (Jvm.Cond.and given_1 narrow_1) := List.mem_of_getElem? (i := 138) (by decide +kernel)
theorem hz_n57 : (.eq (.elem (.field (Term.string "ThermalCoreScheduler$TextParser" 127) "java/lang/String" "value" "[B") (.int (Int32.ofNat 1))) (.int 101) : Cond) ∈ flatC (Jvm.Cond.and given_1 narrow_1) := List.mem_of_getElem? (i := 139) (by decide +kernel)
theorem hz_n58 : (.eq (.elem (.field (Term.string "ThermalCoreScheduler$TextParser" 127) "java/lang/String" "value" "[B") (.int (Int32.ofNat 2))) (.int 118) : Cond) ∈ flatC (Jvm.Cond.and given_1 narrow_1) := List.mem_of_getElem? (i := 140) (by decide +kernel)
theorem hz_n59 : (.eq (.elem (.field (Term.string "ThermalCoreScheduler$TextParser" 127) "java/lang/String" "value" "[B") (.int (Int32.ofNat 3))) (.int 101) : Cond) ∈ flatC (Jvm.Cond.and given_1 narrow_1) := List.mem_of_getElem? (i := 141) (by decide +kernel)
theorem hz_n60 : (.eq (.elem (.field (Term.string "ThermalCoreScheduler$TextParser" 127) "java/lang/String" "value" "[B") (.int (Int32.ofNat 4))) (.int 108) : Cond) ∈ flatC (Jvm.Cond.and given_1 narrow_1) := List.mem_of_getElem? (i := 142) (by decide +kernel)
theorem hz_n61 : (.exactly (Term.string "ThermalCoreSchedulerModel" 149) "java/lang/String" : Cond) ∈ flatC (Jvm.Cond.and given_1 narrow_1) := List.mem_of_getElem? (i := 563) (by decide +kernel)
theorem hz_n62 : (.eq (.field (Term.string "ThermalCoreSchedulerModel" 149) "java/lang/String" "coder" "B") (.int 0) : Cond) ∈ flatC (Jvm.Cond.and given_1 narrow_1) := List.mem_of_getElem? (i := 564) (by decide +kernel)
theorem hz_n63 : (.arrayOf (.field (Term.string "ThermalCoreSchedulerModel" 149) "java/lang/String" "value" "[B") .byte : Cond) ∈ flatC (Jvm.Cond.and given_1 narrow_1) := List.mem_of_getElem? (i := 565) (by decide +kernel)
theorem hz_n64 : (.eq (.length (.field (Term.string "ThermalCoreSchedulerModel" 149) "java/lang/String" "value" "[B")) (.int (Int32.ofNat 3)) : Cond) ∈ flatC (Jvm.Cond.and given_1 narrow_1) := List.mem_of_getElem? (i := 566) (by decide +kernel)
theorem hz_n65 : (.eq (.elem (.field (Term.string "ThermalCoreSchedulerModel" 149) "java/lang/String" "value" "[B") (.int (Int32.ofNat 0))) (.int 109) : Cond) ∈ flatC (Jvm.Cond.and given_1 narrow_1) := List.mem_of_getElem? (i := 567) (by decide +kernel)
theorem hz_n66 : (.eq (.elem (.field (Term.string "ThermalCoreSchedulerModel" 149) "java/lang/String" "value" "[B") (.int (Int32.ofNat 1))) (.int 97) : Cond) ∈ flatC (Jvm.Cond.and given_1 narrow_1) := List.mem_of_getElem? (i := 568) (by decide +kernel)
theorem hz_n67 : (.eq (.elem (.field (Term.string "ThermalCoreSchedulerModel" 149) "java/lang/String" "value" "[B") (.int (Int32.ofNat 2))) (.int 120) : Cond) ∈ flatC (Jvm.Cond.and given_1 narrow_1) := List.mem_of_getElem? (i := 569) (by decide +kernel)
theorem hz_n68 : (.exactly (Term.string "ThermalCoreSchedulerModel" 155) "java/lang/String" : Cond) ∈ flatC (Jvm.Cond.and given_1 narrow_1) := List.mem_of_getElem? (i := 588) (by decide +kernel)
theorem hz_n69 : (.eq (.field (Term.string "ThermalCoreSchedulerModel" 155) "java/lang/String" "coder" "B") (.int 0) : Cond) ∈ flatC (Jvm.Cond.and given_1 narrow_1) := List.mem_of_getElem? (i := 589) (by decide +kernel)
theorem hz_n70 : (.arrayOf (.field (Term.string "ThermalCoreSchedulerModel" 155) "java/lang/String" "value" "[B") .byte : Cond) ∈ flatC (Jvm.Cond.and given_1 narrow_1) := List.mem_of_getElem? (i := 590) (by decide +kernel)
theorem hz_n71 : (.eq (.length (.field (Term.string "ThermalCoreSchedulerModel" 155) "java/lang/String" "value" "[B")) (.int (Int32.ofNat 3)) : Cond) ∈ flatC (Jvm.Cond.and given_1 narrow_1) := List.mem_of_getElem? (i := 591) (by decide +kernel)
theorem hz_n72 : (.eq (.elem (.field (Term.string "ThermalCoreSchedulerModel" 155) "java/lang/String" "value" "[B") (.int (Int32.ofNat 0))) (.int 109) : Cond) ∈ flatC (Jvm.Cond.and given_1 narrow_1) := List.mem_of_getElem? (i := 592) (by decide +kernel)
theorem hz_n73 : (.eq (.elem (.field (Term.string "ThermalCoreSchedulerModel" 155) "java/lang/String" "value" "[B") (.int (Int32.ofNat 1))) (.int 105) : Cond) ∈ flatC (Jvm.Cond.and given_1 narrow_1) := List.mem_of_getElem? (i := 593) (by decide +kernel)
theorem hz_n74 : (.eq (.elem (.field (Term.string "ThermalCoreSchedulerModel" 155) "java/lang/String" "value" "[B") (.int (Int32.ofNat 2))) (.int 110) : Cond) ∈ flatC (Jvm.Cond.and given_1 narrow_1) := List.mem_of_getElem? (i := 594) (by decide +kernel)
theorem hz_n75 : (.exactly (Term.string "ThermalCoreSchedulerModel" 157) "java/lang/String" : Cond) ∈ flatC (Jvm.Cond.and given_1 narrow_1) := List.mem_of_getElem? (i := 614) (by decide +kernel)
theorem hz_n76 : (.eq (.field (Term.string "ThermalCoreSchedulerModel" 157) "java/lang/String" "coder" "B") (.int 0) : Cond) ∈ flatC (Jvm.Cond.and given_1 narrow_1) := List.mem_of_getElem? (i := 615) (by decide +kernel)
theorem hz_n77 : (.arrayOf (.field (Term.string "ThermalCoreSchedulerModel" 157) "java/lang/String" "value" "[B") .byte : Cond) ∈ flatC (Jvm.Cond.and given_1 narrow_1) := List.mem_of_getElem? (i := 616) (by decide +kernel)
theorem hz_n78 : (.eq (.length (.field (Term.string "ThermalCoreSchedulerModel" 157) "java/lang/String" "value" "[B")) (.int (Int32.ofNat 6)) : Cond) ∈ flatC (Jvm.Cond.and given_1 narrow_1) := List.mem_of_getElem? (i := 617) (by decide +kernel)
theorem hz_n79 : (.eq (.elem (.field (Term.string "ThermalCoreSchedulerModel" 157) "java/lang/String" "value" "[B") (.int (Int32.ofNat 0))) (.int 100) : Cond) ∈ flatC (Jvm.Cond.and given_1 narrow_1) := List.mem_of_getElem? (i := 618) (by decide +kernel)
theorem hz_n80 : (.eq (.elem (.field (Term.string "ThermalCoreSchedulerModel" 157) "java/lang/String" "value" "[B") (.int (Int32.ofNat 1))) (.int 101) : Cond) ∈ flatC (Jvm.Cond.and given_1 narrow_1) := List.mem_of_getElem? (i := 619) (by decide +kernel)
theorem hz_n81 : (.eq (.elem (.field (Term.string "ThermalCoreSchedulerModel" 157) "java/lang/String" "value" "[B") (.int (Int32.ofNat 2))) (.int 109) : Cond) ∈ flatC (Jvm.Cond.and given_1 narrow_1) := List.mem_of_getElem? (i := 620) (by decide +kernel)
theorem hz_n82 : (.eq (.elem (.field (Term.string "ThermalCoreSchedulerModel" 157) "java/lang/String" "value" "[B") (.int (Int32.ofNat 3))) (.int 97) : Cond) ∈ flatC (Jvm.Cond.and given_1 narrow_1) := List.mem_of_getElem? (i := 621) (by decide +kernel)
theorem hz_n83 : (.eq (.elem (.field (Term.string "ThermalCoreSchedulerModel" 157) "java/lang/String" "value" "[B") (.int (Int32.ofNat 4))) (.int 110) : Cond) ∈ flatC (Jvm.Cond.and given_1 narrow_1) := List.mem_of_getElem? (i := 622) (by decide +kernel)
theorem hz_n84 : (.eq (.elem (.field (Term.string "ThermalCoreSchedulerModel" 157) "java/lang/String" "value" "[B") (.int (Int32.ofNat 5))) (.int 100) : Cond) ∈ flatC (Jvm.Cond.and given_1 narrow_1) := List.mem_of_getElem? (i := 623) (by decide +kernel)
theorem hz_n85 : (.exactly (Term.string "ThermalCoreSchedulerModel" 159) "java/lang/String" : Cond) ∈ flatC (Jvm.Cond.and given_1 narrow_1) := List.mem_of_getElem? (i := 644) (by decide +kernel)
theorem hz_n86 : (.eq (.field (Term.string "ThermalCoreSchedulerModel" 159) "java/lang/String" "coder" "B") (.int 0) : Cond) ∈ flatC (Jvm.Cond.and given_1 narrow_1) := List.mem_of_getElem? (i := 645) (by decide +kernel)
theorem hz_n87 : (.arrayOf (.field (Term.string "ThermalCoreSchedulerModel" 159) "java/lang/String" "value" "[B") .byte : Cond) ∈ flatC (Jvm.Cond.and given_1 narrow_1) := List.mem_of_getElem? (i := 646) (by decide +kernel)
theorem hz_n88 : (.eq (.length (.field (Term.string "ThermalCoreSchedulerModel" 159) "java/lang/String" "value" "[B")) (.int (Int32.ofNat 4)) : Cond) ∈ flatC (Jvm.Cond.and given_1 narrow_1) := List.mem_of_getElem? (i := 647) (by decide +kernel)
theorem hz_n89 : (.eq (.elem (.field (Term.string "ThermalCoreSchedulerModel" 159) "java/lang/String" "value" "[B") (.int (Int32.ofNat 0))) (.int 114) : Cond) ∈ flatC (Jvm.Cond.and given_1 narrow_1) := List.mem_of_getElem? (i := 648) (by decide +kernel)
theorem hz_n90 : (.eq (.elem (.field (Term.string "ThermalCoreSchedulerModel" 159) "java/lang/String" "value" "[B") (.int (Int32.ofNat 1))) (.int 97) : Cond) ∈ flatC (Jvm.Cond.and given_1 narrow_1) := List.mem_of_getElem? (i := 649) (by decide +kernel)
theorem hz_n91 : (.eq (.elem (.field (Term.string "ThermalCoreSchedulerModel" 159) "java/lang/String" "value" "[B") (.int (Int32.ofNat 2))) (.int 99) : Cond) ∈ flatC (Jvm.Cond.and given_1 narrow_1) := List.mem_of_getElem? (i := 650) (by decide +kernel)
theorem hz_n92 : (.eq (.elem (.field (Term.string "ThermalCoreSchedulerModel" 159) "java/lang/String" "value" "[B") (.int (Int32.ofNat 3))) (.int 101) : Cond) ∈ flatC (Jvm.Cond.and given_1 narrow_1) := List.mem_of_getElem? (i := 651) (by decide +kernel)
theorem hz_n93 : (.exactly (Term.string "ThermalCoreSchedulerModel" 178) "java/lang/String" : Cond) ∈ flatC (Jvm.Cond.and given_1 narrow_1) := List.mem_of_getElem? (i := 673) (by decide +kernel)
theorem hz_n94 : (.eq (.field (Term.string "ThermalCoreSchedulerModel" 178) "java/lang/String" "coder" "B") (.int 0) : Cond) ∈ flatC (Jvm.Cond.and given_1 narrow_1) := List.mem_of_getElem? (i := 674) (by decide +kernel)
theorem hz_n95 : (.arrayOf (.field (Term.string "ThermalCoreSchedulerModel" 178) "java/lang/String" "value" "[B") .byte : Cond) ∈ flatC (Jvm.Cond.and given_1 narrow_1) := List.mem_of_getElem? (i := 675) (by decide +kernel)
theorem hz_n96 : (.eq (.length (.field (Term.string "ThermalCoreSchedulerModel" 178) "java/lang/String" "value" "[B")) (.int (Int32.ofNat 5)) : Cond) ∈ flatC (Jvm.Cond.and given_1 narrow_1) := List.mem_of_getElem? (i := 676) (by decide +kernel)
theorem hz_n97 : (.eq (.elem (.field (Term.string "ThermalCoreSchedulerModel" 178) "java/lang/String" "value" "[B") (.int (Int32.ofNat 0))) (.int 108) : Cond) ∈ flatC (Jvm.Cond.and given_1 narrow_1) := List.mem_of_getElem? (i := 677) (by decide +kernel)
theorem hz_n98 : (.eq (.elem (.field (Term.string "ThermalCoreSchedulerModel" 178) "java/lang/String" "value" "[B") (.int (Int32.ofNat 1))) (.int 101) : Cond) ∈ flatC (Jvm.Cond.and given_1 narrow_1) := List.mem_of_getElem? (i := 678) (by decide +kernel)
theorem hz_n99 : (.eq (.elem (.field (Term.string "ThermalCoreSchedulerModel" 178) "java/lang/String" "value" "[B") (.int (Int32.ofNat 2))) (.int 118) : Cond) ∈ flatC (Jvm.Cond.and given_1 narrow_1) := List.mem_of_getElem? (i := 679) (by decide +kernel)
theorem hz_n100 : (.eq (.elem (.field (Term.string "ThermalCoreSchedulerModel" 178) "java/lang/String" "value" "[B") (.int (Int32.ofNat 3))) (.int 101) : Cond) ∈ flatC (Jvm.Cond.and given_1 narrow_1) := List.mem_of_getElem? (i := 680) (by decide +kernel)
theorem hz_n101 : (.eq (.elem (.field (Term.string "ThermalCoreSchedulerModel" 178) "java/lang/String" "value" "[B") (.int (Int32.ofNat 4))) (.int 108) : Cond) ∈ flatC (Jvm.Cond.and given_1 narrow_1) := List.mem_of_getElem? (i := 681) (by decide +kernel)
theorem hz_n102 : (.exactly (Term.string "ThermalCoreSchedulerModel" 180) "java/lang/String" : Cond) ∈ flatC (Jvm.Cond.and given_1 narrow_1) := List.mem_of_getElem? (i := 510) (by decide +kernel)
theorem hz_n103 : (.eq (.field (Term.string "ThermalCoreSchedulerModel" 180) "java/lang/String" "coder" "B") (.int 0) : Cond) ∈ flatC (Jvm.Cond.and given_1 narrow_1) := List.mem_of_getElem? (i := 511) (by decide +kernel)
theorem hz_n104 : (.arrayOf (.field (Term.string "ThermalCoreSchedulerModel" 180) "java/lang/String" "value" "[B") .byte : Cond) ∈ flatC (Jvm.Cond.and given_1 narrow_1) := List.mem_of_getElem? (i := 512) (by decide +kernel)
theorem hz_n105 : (.eq (.length (.field (Term.string "ThermalCoreSchedulerModel" 180) "java/lang/String" "value" "[B")) (.int (Int32.ofNat 6)) : Cond) ∈ flatC (Jvm.Cond.and given_1 narrow_1) := List.mem_of_getElem? (i := 513) (by decide +kernel)
theorem hz_n106 : (.eq (.elem (.field (Term.string "ThermalCoreSchedulerModel" 180) "java/lang/String" "value" "[B") (.int (Int32.ofNat 0))) (.int 115) : Cond) ∈ flatC (Jvm.Cond.and given_1 narrow_1) := List.mem_of_getElem? (i := 514) (by decide +kernel)
theorem hz_n107 : (.eq (.elem (.field (Term.string "ThermalCoreSchedulerModel" 180) "java/lang/String" "value" "[B") (.int (Int32.ofNat 1))) (.int 121) : Cond) ∈ flatC (Jvm.Cond.and given_1 narrow_1) := List.mem_of_getElem? (i := 515) (by decide +kernel)
theorem hz_n108 : (.eq (.elem (.field (Term.string "ThermalCoreSchedulerModel" 180) "java/lang/String" "value" "[B") (.int (Int32.ofNat 2))) (.int 115) : Cond) ∈ flatC (Jvm.Cond.and given_1 narrow_1) := List.mem_of_getElem? (i := 516) (by decide +kernel)
theorem hz_n109 : (.eq (.elem (.field (Term.string "ThermalCoreSchedulerModel" 180) "java/lang/String" "value" "[B") (.int (Int32.ofNat 3))) (.int 116) : Cond) ∈ flatC (Jvm.Cond.and given_1 narrow_1) := List.mem_of_getElem? (i := 517) (by decide +kernel)
theorem hz_n110 : (.eq (.elem (.field (Term.string "ThermalCoreSchedulerModel" 180) "java/lang/String" "value" "[B") (.int (Int32.ofNat 4))) (.int 101) : Cond) ∈ flatC (Jvm.Cond.and given_1 narrow_1) := List.mem_of_getElem? (i := 518) (by decide +kernel)
theorem hz_n111 : (.eq (.elem (.field (Term.string "ThermalCoreSchedulerModel" 180) "java/lang/String" "value" "[B") (.int (Int32.ofNat 5))) (.int 109) : Cond) ∈ flatC (Jvm.Cond.and given_1 narrow_1) := List.mem_of_getElem? (i := 519) (by decide +kernel)
theorem hz_n112 : (.exactly (Term.string "ThermalCoreSchedulerModel" 185) "java/lang/String" : Cond) ∈ flatC (Jvm.Cond.and given_1 narrow_1) := List.mem_of_getElem? (i := 536) (by decide +kernel)
theorem hz_n113 : (.eq (.field (Term.string "ThermalCoreSchedulerModel" 185) "java/lang/String" "coder" "B") (.int 0) : Cond) ∈ flatC (Jvm.Cond.and given_1 narrow_1) := List.mem_of_getElem? (i := 537) (by decide +kernel)
theorem hz_n114 : (.arrayOf (.field (Term.string "ThermalCoreSchedulerModel" 185) "java/lang/String" "value" "[B") .byte : Cond) ∈ flatC (Jvm.Cond.and given_1 narrow_1) := List.mem_of_getElem? (i := 538) (by decide +kernel)
theorem hz_n115 : (.eq (.length (.field (Term.string "ThermalCoreSchedulerModel" 185) "java/lang/String" "value" "[B")) (.int (Int32.ofNat 6)) : Cond) ∈ flatC (Jvm.Cond.and given_1 narrow_1) := List.mem_of_getElem? (i := 539) (by decide +kernel)
theorem hz_n116 : (.eq (.elem (.field (Term.string "ThermalCoreSchedulerModel" 185) "java/lang/String" "value" "[B") (.int (Int32.ofNat 0))) (.int 100) : Cond) ∈ flatC (Jvm.Cond.and given_1 narrow_1) := List.mem_of_getElem? (i := 540) (by decide +kernel)
theorem hz_n117 : (.eq (.elem (.field (Term.string "ThermalCoreSchedulerModel" 185) "java/lang/String" "value" "[B") (.int (Int32.ofNat 1))) (.int 111) : Cond) ∈ flatC (Jvm.Cond.and given_1 narrow_1) := List.mem_of_getElem? (i := 541) (by decide +kernel)
theorem hz_n118 : (.eq (.elem (.field (Term.string "ThermalCoreSchedulerModel" 185) "java/lang/String" "value" "[B") (.int (Int32.ofNat 2))) (.int 109) : Cond) ∈ flatC (Jvm.Cond.and given_1 narrow_1) := List.mem_of_getElem? (i := 542) (by decide +kernel)
theorem hz_n119 : (.eq (.elem (.field (Term.string "ThermalCoreSchedulerModel" 185) "java/lang/String" "value" "[B") (.int (Int32.ofNat 3))) (.int 97) : Cond) ∈ flatC (Jvm.Cond.and given_1 narrow_1) := List.mem_of_getElem? (i := 543) (by decide +kernel)
theorem hz_n120 : (.eq (.elem (.field (Term.string "ThermalCoreSchedulerModel" 185) "java/lang/String" "value" "[B") (.int (Int32.ofNat 4))) (.int 105) : Cond) ∈ flatC (Jvm.Cond.and given_1 narrow_1) := List.mem_of_getElem? (i := 544) (by decide +kernel)
theorem hz_n121 : (.eq (.elem (.field (Term.string "ThermalCoreSchedulerModel" 185) "java/lang/String" "value" "[B") (.int (Int32.ofNat 5))) (.int 110) : Cond) ∈ flatC (Jvm.Cond.and given_1 narrow_1) := List.mem_of_getElem? (i := 545) (by decide +kernel)
theorem hz_n122 : (.exactly (Term.string "ThermalCoreScheduler" 78) "java/lang/String" : Cond) ∈ flatC (Jvm.Cond.and given_1 narrow_1) := List.mem_of_getElem? (i := 149) (by decide +kernel)
theorem hz_n123 : (.exactly (Term.string "ThermalCoreScheduler" 206) "java/lang/String" : Cond) ∈ flatC (Jvm.Cond.and given_1 narrow_1) := List.mem_of_getElem? (i := 264) (by decide +kernel)
theorem hz_n124 : (.exactly (Term.string "ThermalCoreScheduler" 221) "java/lang/String" : Cond) ∈ flatC (Jvm.Cond.and given_1 narrow_1) := List.mem_of_getElem? (i := 340) (by decide +kernel)
theorem hz_n125 : (.exactly (Term.string "ThermalCoreScheduler" 226) "java/lang/String" : Cond) ∈ flatC (Jvm.Cond.and given_1 narrow_1) := List.mem_of_getElem? (i := 385) (by decide +kernel)
theorem hz_n126 : (.exactly (Term.string "ThermalCoreScheduler" 270) "java/lang/String" : Cond) ∈ flatC (Jvm.Cond.and given_1 narrow_1) := List.mem_of_getElem? (i := 420) (by decide +kernel)
theorem hz_n127 : (.exactly (Term.string "ThermalCoreScheduler" 285) "java/lang/String" : Cond) ∈ flatC (Jvm.Cond.and given_1 narrow_1) := List.mem_of_getElem? (i := 464) (by decide +kernel)
theorem hz_n128 : (.exactly (Term.string "ThermalCoreScheduler" 337) "java/lang/String" : Cond) ∈ flatC (Jvm.Cond.and given_1 narrow_1) := List.mem_of_getElem? (i := 226) (by decide +kernel)
theorem hz_n129 : (.exactly (Term.string "ThermalCoreScheduler" 339) "java/lang/String" : Cond) ∈ flatC (Jvm.Cond.and given_1 narrow_1) := List.mem_of_getElem? (i := 183) (by decide +kernel)
theorem hz_n130 : (.exactly (Term.string "ThermalCoreScheduler" 341) "java/lang/String" : Cond) ∈ flatC (Jvm.Cond.and given_1 narrow_1) := List.mem_of_getElem? (i := 302) (by decide +kernel)
theorem hz_n131 : (.eq (.static "java/lang/String" "COMPACT_STRINGS" "Z") (.int 1) : Cond) ∈ flatC (Jvm.Cond.and given_1 narrow_1) := List.mem_of_getElem? (i := 4) (by decide +kernel)
theorem hz_n132 : (.isRef (.static "jdk/internal/util/Preconditions" "SIOOBE_FORMATTER" "Ljava/util/function/BiFunction;") : Cond) ∈ flatC (Jvm.Cond.and given_1 narrow_1) := List.mem_of_getElem? (i := 5) (by decide +kernel)
theorem hz_n133 : (.isRef (.static "java/lang/Throwable" "UNASSIGNED_STACK" "[Ljava/lang/StackTraceElement;") : Cond) ∈ flatC (Jvm.Cond.and given_1 narrow_1) := List.mem_of_getElem? (i := 9) (by decide +kernel)
theorem hz_n134 : (.isRef (.static "java/lang/Throwable" "SUPPRESSED_SENTINEL" "Ljava/util/List;") : Cond) ∈ flatC (Jvm.Cond.and given_1 narrow_1) := List.mem_of_getElem? (i := 10) (by decide +kernel)
theorem hz_n135 : (.not (.castable "java/lang/IllegalArgumentException" "java/lang/IllegalStateException") : Cond) ∈ flatC (Jvm.Cond.and given_1 narrow_1) := List.mem_of_getElem? (i := 22) (by decide +kernel)
theorem hz_n136 : (.not (.castable "java/util/NoSuchElementException" "java/lang/IllegalStateException") : Cond) ∈ flatC (Jvm.Cond.and given_1 narrow_1) := List.mem_of_getElem? (i := 23) (by decide +kernel)
theorem hz_n137 : (.not (.castable "java/util/NoSuchElementException" "java/lang/IllegalArgumentException") : Cond) ∈ flatC (Jvm.Cond.and given_1 narrow_1) := List.mem_of_getElem? (i := 37) (by decide +kernel)
theorem hz_n138 : (.not (.castable "java/lang/ArithmeticException" "java/lang/IllegalStateException") : Cond) ∈ flatC (Jvm.Cond.and given_1 narrow_1) := List.mem_of_getElem? (i := 24) (by decide +kernel)
theorem hz_n139 : (.not (.castable "java/lang/ArithmeticException" "java/lang/IllegalArgumentException") : Cond) ∈ flatC (Jvm.Cond.and given_1 narrow_1) := List.mem_of_getElem? (i := 38) (by decide +kernel)
theorem hz_nar_in : ∀ w ∈ hz_nar, w ∈ flatC (Jvm.Cond.and given_1 narrow_1) := by
  intro w hw
  simp only [hz_nar, List.mem_cons, List.not_mem_nil, or_false] at hw
  rcases hw with rfl | rfl | rfl | rfl | rfl | rfl | rfl | rfl | rfl | rfl | rfl | rfl | rfl | rfl | rfl | rfl | rfl | rfl | rfl | rfl | rfl | rfl | rfl | rfl | rfl | rfl | rfl | rfl | rfl | rfl | rfl | rfl | rfl | rfl | rfl | rfl | rfl | rfl | rfl | rfl | rfl | rfl | rfl | rfl | rfl | rfl | rfl | rfl | rfl | rfl | rfl | rfl | rfl | rfl | rfl | rfl | rfl | rfl | rfl | rfl | rfl | rfl | rfl | rfl | rfl | rfl | rfl | rfl | rfl | rfl | rfl | rfl | rfl | rfl | rfl | rfl | rfl | rfl | rfl | rfl | rfl | rfl | rfl | rfl | rfl | rfl | rfl | rfl | rfl | rfl | rfl | rfl | rfl | rfl | rfl | rfl | rfl | rfl | rfl | rfl | rfl | rfl | rfl | rfl | rfl | rfl | rfl | rfl | rfl | rfl | rfl | rfl | rfl | rfl | rfl | rfl | rfl | rfl | rfl | rfl | rfl | rfl | rfl | rfl | rfl | rfl | rfl | rfl | rfl | rfl | rfl | rfl | rfl | rfl | rfl | rfl | rfl | rfl | rfl | rfl
  · exact hz_n0
  · exact hz_n1
  · exact hz_n2
  · exact hz_n3
  · exact hz_n4
  · exact hz_n5
  · exact hz_n6
  · exact hz_n7
  · exact hz_n8
  · exact hz_n9
  · exact hz_n10
  · exact hz_n11
  · exact hz_n12
  · exact hz_n13
  · exact hz_n14
  · exact hz_n15
  · exact hz_n16
  · exact hz_n17
  · exact hz_n18
  · exact hz_n19
  · exact hz_n20
  · exact hz_n21
  · exact hz_n22
  · exact hz_n23
  · exact hz_n24
  · exact hz_n25
  · exact hz_n26
  · exact hz_n27
  · exact hz_n28
  · exact hz_n29
  · exact hz_n30
  · exact hz_n31
  · exact hz_n32
  · exact hz_n33
  · exact hz_n34
  · exact hz_n35
  · exact hz_n36
  · exact hz_n37
  · exact hz_n38
  · exact hz_n39
  · exact hz_n40
  · exact hz_n41
  · exact hz_n42
  · exact hz_n43
  · exact hz_n44
  · exact hz_n45
  · exact hz_n46
  · exact hz_n47
  · exact hz_n48
  · exact hz_n49
  · exact hz_n50
  · exact hz_n51
  · exact hz_n52
  · exact hz_n53
  · exact hz_n54
  · exact hz_n55
  · exact hz_n56
  · exact hz_n57
  · exact hz_n58
  · exact hz_n59
  · exact hz_n60
  · exact hz_n61
  · exact hz_n62
  · exact hz_n63
  · exact hz_n64
  · exact hz_n65
  · exact hz_n66
  · exact hz_n67
  · exact hz_n68
  · exact hz_n69
  · exact hz_n70
  · exact hz_n71
  · exact hz_n72
  · exact hz_n73
  · exact hz_n74
  · exact hz_n75
  · exact hz_n76
  · exact hz_n77
  · exact hz_n78
  · exact hz_n79
  · exact hz_n80
  · exact hz_n81
  · exact hz_n82
  · exact hz_n83
  · exact hz_n84
  · exact hz_n85
  · exact hz_n86
  · exact hz_n87
  · exact hz_n88
  · exact hz_n89
  · exact hz_n90
  · exact hz_n91
  · exact hz_n92
  · exact hz_n93
  · exact hz_n94
  · exact hz_n95
  · exact hz_n96
  · exact hz_n97
  · exact hz_n98
  · exact hz_n99
  · exact hz_n100
  · exact hz_n101
  · exact hz_n102
  · exact hz_n103
  · exact hz_n104
  · exact hz_n105
  · exact hz_n106
  · exact hz_n107
  · exact hz_n108
  · exact hz_n109
  · exact hz_n110
  · exact hz_n111
  · exact hz_n112
  · exact hz_n113
  · exact hz_n114
  · exact hz_n115
  · exact hz_n116
  · exact hz_n117
  · exact hz_n118
  · exact hz_n119
  · exact hz_n120
  · exact hz_n121
  · exact hz_n122
  · exact hz_n123
  · exact hz_n124
  · exact hz_n125
  · exact hz_n126
  · exact hz_n127
  · exact hz_n128
  · exact hz_n129
  · exact hz_n130
  · exact hz_n131
  · exact hz_n132
  · exact hz_n133
  · exact hz_n134
  · exact hz_n135
  · exact hz_n136
  · exact hz_n137
  · exact hz_n138
  · exact hz_n139
theorem hz_str0 {s : State} {args : Array Value} {A : Nat → Prop} (hn : ∀ w ∈ hz_nar, w.before args s = true) (hA : ∀ a : Nat, a < s.heap.size → ¬ A a) : ∃ ak av : Nat, (Term.string "ThermalCoreScheduler$TextParser" 54).eval args s none [] s = some (.ref ak) ∧ va_O "java/lang/String" ak A s s.heap ∧ va_OF "java/lang/String" "coder" "B" (.int 0) ak A s s.heap ∧ va_OF "java/lang/String" "value" "[B" (.ref av) ak A s s.heap ∧ va_T .byte av (hz_wlen.getD 0 0) (fun j => .int ((hz_wbyt.getD 0 []).getD j 0)) A s s.heap := by
  obtain ⟨adK, adV, hS, hE⟩ := vk_Sof (args := args) (s := s) (N := 1) (tm := fun _ => (Term.string "ThermalCoreScheduler$TextParser" 54)) (len := [6]) (byt := [[100, 111, 109, 97, 105, 110]]) (A := A) (fun i hi => by
      cases i with
      | zero => decide
      | succ i => omega) (fun i hi => hn _ (List.mem_of_getElem? (i := 0) rfl)) (fun i hi => hn _ (List.mem_of_getElem? (i := 1) rfl)) (fun i hi => hn _ (List.mem_of_getElem? (i := 2) rfl)) (fun i hi => by
      cases i with
      | zero => exact hn _ (List.mem_of_getElem? (i := 3) rfl)
      | succ i => omega) (fun i hi j hj => by
      cases i with
      | succ i => omega
      | zero =>
      match j, hj with
      | 0, _ => exact hn _ (List.mem_of_getElem? (i := 4) rfl)
      | 1, _ => exact hn _ (List.mem_of_getElem? (i := 5) rfl)
      | 2, _ => exact hn _ (List.mem_of_getElem? (i := 6) rfl)
      | 3, _ => exact hn _ (List.mem_of_getElem? (i := 7) rfl)
      | 4, _ => exact hn _ (List.mem_of_getElem? (i := 8) rfl)
      | 5, _ => exact hn _ (List.mem_of_getElem? (i := 9) rfl)
      | j + 6, hj => exact absurd hj (by show ¬ j + 6 < 6; omega)) (fun i j hi hj hne => absurd (show i = j by omega) hne) hA
  obtain ⟨h1, h2, h3, h4⟩ := hS.1 0 (by omega)
  exact ⟨adK 0, adV 0, hE 0 (by omega), h1, h2, h3, h4⟩
theorem hz_str1 {s : State} {args : Array Value} {A : Nat → Prop} (hn : ∀ w ∈ hz_nar, w.before args s = true) (hA : ∀ a : Nat, a < s.heap.size → ¬ A a) : ∃ ak av : Nat, (Term.string "ThermalCoreScheduler$TextParser" 63).eval args s none [] s = some (.ref ak) ∧ va_O "java/lang/String" ak A s s.heap ∧ va_OF "java/lang/String" "coder" "B" (.int 0) ak A s s.heap ∧ va_OF "java/lang/String" "value" "[B" (.ref av) ak A s s.heap ∧ va_T .byte av (hz_wlen.getD 1 0) (fun j => .int ((hz_wbyt.getD 1 []).getD j 0)) A s s.heap := by
  obtain ⟨adK, adV, hS, hE⟩ := vk_Sof (args := args) (s := s) (N := 1) (tm := fun _ => (Term.string "ThermalCoreScheduler$TextParser" 63)) (len := [6]) (byt := [[115, 121, 115, 116, 101, 109]]) (A := A) (fun i hi => by
      cases i with
      | zero => decide
      | succ i => omega) (fun i hi => hn _ (List.mem_of_getElem? (i := 10) rfl)) (fun i hi => hn _ (List.mem_of_getElem? (i := 11) rfl)) (fun i hi => hn _ (List.mem_of_getElem? (i := 12) rfl)) (fun i hi => by
      cases i with
      | zero => exact hn _ (List.mem_of_getElem? (i := 13) rfl)
      | succ i => omega) (fun i hi j hj => by
      cases i with
      | succ i => omega
      | zero =>
      match j, hj with
      | 0, _ => exact hn _ (List.mem_of_getElem? (i := 14) rfl)
      | 1, _ => exact hn _ (List.mem_of_getElem? (i := 15) rfl)
      | 2, _ => exact hn _ (List.mem_of_getElem? (i := 16) rfl)
      | 3, _ => exact hn _ (List.mem_of_getElem? (i := 17) rfl)
      | 4, _ => exact hn _ (List.mem_of_getElem? (i := 18) rfl)
      | 5, _ => exact hn _ (List.mem_of_getElem? (i := 19) rfl)
      | j + 6, hj => exact absurd hj (by show ¬ j + 6 < 6; omega)) (fun i j hi hj hne => absurd (show i = j by omega) hne) hA
  obtain ⟨h1, h2, h3, h4⟩ := hS.1 0 (by omega)
  exact ⟨adK 0, adV 0, hE 0 (by omega), h1, h2, h3, h4⟩
theorem hz_str2 {s : State} {args : Array Value} {A : Nat → Prop} (hn : ∀ w ∈ hz_nar, w.before args s = true) (hA : ∀ a : Nat, a < s.heap.size → ¬ A a) : ∃ ak av : Nat, (Term.string "ThermalCoreScheduler$TextParser" 113).eval args s none [] s = some (.ref ak) ∧ va_O "java/lang/String" ak A s s.heap ∧ va_OF "java/lang/String" "coder" "B" (.int 0) ak A s s.heap ∧ va_OF "java/lang/String" "value" "[B" (.ref av) ak A s s.heap ∧ va_T .byte av (hz_wlen.getD 2 0) (fun j => .int ((hz_wbyt.getD 2 []).getD j 0)) A s s.heap := by
  obtain ⟨adK, adV, hS, hE⟩ := vk_Sof (args := args) (s := s) (N := 1) (tm := fun _ => (Term.string "ThermalCoreScheduler$TextParser" 113)) (len := [3]) (byt := [[109, 97, 120]]) (A := A) (fun i hi => by
      cases i with
      | zero => decide
      | succ i => omega) (fun i hi => hn _ (List.mem_of_getElem? (i := 20) rfl)) (fun i hi => hn _ (List.mem_of_getElem? (i := 21) rfl)) (fun i hi => hn _ (List.mem_of_getElem? (i := 22) rfl)) (fun i hi => by
      cases i with
      | zero => exact hn _ (List.mem_of_getElem? (i := 23) rfl)
      | succ i => omega) (fun i hi j hj => by
      cases i with
      | succ i => omega
      | zero =>
      match j, hj with
      | 0, _ => exact hn _ (List.mem_of_getElem? (i := 24) rfl)
      | 1, _ => exact hn _ (List.mem_of_getElem? (i := 25) rfl)
      | 2, _ => exact hn _ (List.mem_of_getElem? (i := 26) rfl)
      | j + 3, hj => exact absurd hj (by show ¬ j + 3 < 3; omega)) (fun i j hi hj hne => absurd (show i = j by omega) hne) hA
  obtain ⟨h1, h2, h3, h4⟩ := hS.1 0 (by omega)
  exact ⟨adK 0, adV 0, hE 0 (by omega), h1, h2, h3, h4⟩
theorem hz_str3 {s : State} {args : Array Value} {A : Nat → Prop} (hn : ∀ w ∈ hz_nar, w.before args s = true) (hA : ∀ a : Nat, a < s.heap.size → ¬ A a) : ∃ ak av : Nat, (Term.string "ThermalCoreScheduler$TextParser" 118).eval args s none [] s = some (.ref ak) ∧ va_O "java/lang/String" ak A s s.heap ∧ va_OF "java/lang/String" "coder" "B" (.int 0) ak A s s.heap ∧ va_OF "java/lang/String" "value" "[B" (.ref av) ak A s s.heap ∧ va_T .byte av (hz_wlen.getD 3 0) (fun j => .int ((hz_wbyt.getD 3 []).getD j 0)) A s s.heap := by
  obtain ⟨adK, adV, hS, hE⟩ := vk_Sof (args := args) (s := s) (N := 1) (tm := fun _ => (Term.string "ThermalCoreScheduler$TextParser" 118)) (len := [3]) (byt := [[109, 105, 110]]) (A := A) (fun i hi => by
      cases i with
      | zero => decide
      | succ i => omega) (fun i hi => hn _ (List.mem_of_getElem? (i := 27) rfl)) (fun i hi => hn _ (List.mem_of_getElem? (i := 28) rfl)) (fun i hi => hn _ (List.mem_of_getElem? (i := 29) rfl)) (fun i hi => by
      cases i with
      | zero => exact hn _ (List.mem_of_getElem? (i := 30) rfl)
      | succ i => omega) (fun i hi j hj => by
      cases i with
      | succ i => omega
      | zero =>
      match j, hj with
      | 0, _ => exact hn _ (List.mem_of_getElem? (i := 31) rfl)
      | 1, _ => exact hn _ (List.mem_of_getElem? (i := 32) rfl)
      | 2, _ => exact hn _ (List.mem_of_getElem? (i := 33) rfl)
      | j + 3, hj => exact absurd hj (by show ¬ j + 3 < 3; omega)) (fun i j hi hj hne => absurd (show i = j by omega) hne) hA
  obtain ⟨h1, h2, h3, h4⟩ := hS.1 0 (by omega)
  exact ⟨adK 0, adV 0, hE 0 (by omega), h1, h2, h3, h4⟩
theorem hz_str4 {s : State} {args : Array Value} {A : Nat → Prop} (hn : ∀ w ∈ hz_nar, w.before args s = true) (hA : ∀ a : Nat, a < s.heap.size → ¬ A a) : ∃ ak av : Nat, (Term.string "ThermalCoreScheduler$TextParser" 120).eval args s none [] s = some (.ref ak) ∧ va_O "java/lang/String" ak A s s.heap ∧ va_OF "java/lang/String" "coder" "B" (.int 0) ak A s s.heap ∧ va_OF "java/lang/String" "value" "[B" (.ref av) ak A s s.heap ∧ va_T .byte av (hz_wlen.getD 4 0) (fun j => .int ((hz_wbyt.getD 4 []).getD j 0)) A s s.heap := by
  obtain ⟨adK, adV, hS, hE⟩ := vk_Sof (args := args) (s := s) (N := 1) (tm := fun _ => (Term.string "ThermalCoreScheduler$TextParser" 120)) (len := [6]) (byt := [[100, 101, 109, 97, 110, 100]]) (A := A) (fun i hi => by
      cases i with
      | zero => decide
      | succ i => omega) (fun i hi => hn _ (List.mem_of_getElem? (i := 34) rfl)) (fun i hi => hn _ (List.mem_of_getElem? (i := 35) rfl)) (fun i hi => hn _ (List.mem_of_getElem? (i := 36) rfl)) (fun i hi => by
      cases i with
      | zero => exact hn _ (List.mem_of_getElem? (i := 37) rfl)
      | succ i => omega) (fun i hi j hj => by
      cases i with
      | succ i => omega
      | zero =>
      match j, hj with
      | 0, _ => exact hn _ (List.mem_of_getElem? (i := 38) rfl)
      | 1, _ => exact hn _ (List.mem_of_getElem? (i := 39) rfl)
      | 2, _ => exact hn _ (List.mem_of_getElem? (i := 40) rfl)
      | 3, _ => exact hn _ (List.mem_of_getElem? (i := 41) rfl)
      | 4, _ => exact hn _ (List.mem_of_getElem? (i := 42) rfl)
      | 5, _ => exact hn _ (List.mem_of_getElem? (i := 43) rfl)
      | j + 6, hj => exact absurd hj (by show ¬ j + 6 < 6; omega)) (fun i j hi hj hne => absurd (show i = j by omega) hne) hA
  obtain ⟨h1, h2, h3, h4⟩ := hS.1 0 (by omega)
  exact ⟨adK 0, adV 0, hE 0 (by omega), h1, h2, h3, h4⟩
theorem hz_str5 {s : State} {args : Array Value} {A : Nat → Prop} (hn : ∀ w ∈ hz_nar, w.before args s = true) (hA : ∀ a : Nat, a < s.heap.size → ¬ A a) : ∃ ak av : Nat, (Term.string "ThermalCoreScheduler$TextParser" 122).eval args s none [] s = some (.ref ak) ∧ va_O "java/lang/String" ak A s s.heap ∧ va_OF "java/lang/String" "coder" "B" (.int 0) ak A s s.heap ∧ va_OF "java/lang/String" "value" "[B" (.ref av) ak A s s.heap ∧ va_T .byte av (hz_wlen.getD 5 0) (fun j => .int ((hz_wbyt.getD 5 []).getD j 0)) A s s.heap := by
  obtain ⟨adK, adV, hS, hE⟩ := vk_Sof (args := args) (s := s) (N := 1) (tm := fun _ => (Term.string "ThermalCoreScheduler$TextParser" 122)) (len := [4]) (byt := [[114, 97, 99, 101]]) (A := A) (fun i hi => by
      cases i with
      | zero => decide
      | succ i => omega) (fun i hi => hn _ (List.mem_of_getElem? (i := 44) rfl)) (fun i hi => hn _ (List.mem_of_getElem? (i := 45) rfl)) (fun i hi => hn _ (List.mem_of_getElem? (i := 46) rfl)) (fun i hi => by
      cases i with
      | zero => exact hn _ (List.mem_of_getElem? (i := 47) rfl)
      | succ i => omega) (fun i hi j hj => by
      cases i with
      | succ i => omega
      | zero =>
      match j, hj with
      | 0, _ => exact hn _ (List.mem_of_getElem? (i := 48) rfl)
      | 1, _ => exact hn _ (List.mem_of_getElem? (i := 49) rfl)
      | 2, _ => exact hn _ (List.mem_of_getElem? (i := 50) rfl)
      | 3, _ => exact hn _ (List.mem_of_getElem? (i := 51) rfl)
      | j + 4, hj => exact absurd hj (by show ¬ j + 4 < 4; omega)) (fun i j hi hj hne => absurd (show i = j by omega) hne) hA
  obtain ⟨h1, h2, h3, h4⟩ := hS.1 0 (by omega)
  exact ⟨adK 0, adV 0, hE 0 (by omega), h1, h2, h3, h4⟩
theorem hz_str6 {s : State} {args : Array Value} {A : Nat → Prop} (hn : ∀ w ∈ hz_nar, w.before args s = true) (hA : ∀ a : Nat, a < s.heap.size → ¬ A a) : ∃ ak av : Nat, (Term.string "ThermalCoreScheduler$TextParser" 127).eval args s none [] s = some (.ref ak) ∧ va_O "java/lang/String" ak A s s.heap ∧ va_OF "java/lang/String" "coder" "B" (.int 0) ak A s s.heap ∧ va_OF "java/lang/String" "value" "[B" (.ref av) ak A s s.heap ∧ va_T .byte av (hz_wlen.getD 6 0) (fun j => .int ((hz_wbyt.getD 6 []).getD j 0)) A s s.heap := by
  obtain ⟨adK, adV, hS, hE⟩ := vk_Sof (args := args) (s := s) (N := 1) (tm := fun _ => (Term.string "ThermalCoreScheduler$TextParser" 127)) (len := [5]) (byt := [[108, 101, 118, 101, 108]]) (A := A) (fun i hi => by
      cases i with
      | zero => decide
      | succ i => omega) (fun i hi => hn _ (List.mem_of_getElem? (i := 52) rfl)) (fun i hi => hn _ (List.mem_of_getElem? (i := 53) rfl)) (fun i hi => hn _ (List.mem_of_getElem? (i := 54) rfl)) (fun i hi => by
      cases i with
      | zero => exact hn _ (List.mem_of_getElem? (i := 55) rfl)
      | succ i => omega) (fun i hi j hj => by
      cases i with
      | succ i => omega
      | zero =>
      match j, hj with
      | 0, _ => exact hn _ (List.mem_of_getElem? (i := 56) rfl)
      | 1, _ => exact hn _ (List.mem_of_getElem? (i := 57) rfl)
      | 2, _ => exact hn _ (List.mem_of_getElem? (i := 58) rfl)
      | 3, _ => exact hn _ (List.mem_of_getElem? (i := 59) rfl)
      | 4, _ => exact hn _ (List.mem_of_getElem? (i := 60) rfl)
      | j + 5, hj => exact absurd hj (by show ¬ j + 5 < 5; omega)) (fun i j hi hj hne => absurd (show i = j by omega) hne) hA
  obtain ⟨h1, h2, h3, h4⟩ := hS.1 0 (by omega)
  exact ⟨adK 0, adV 0, hE 0 (by omega), h1, h2, h3, h4⟩
theorem hz_str7 {s : State} {args : Array Value} {A : Nat → Prop} (hn : ∀ w ∈ hz_nar, w.before args s = true) (hA : ∀ a : Nat, a < s.heap.size → ¬ A a) : ∃ ak av : Nat, (Term.string "ThermalCoreSchedulerModel" 149).eval args s none [] s = some (.ref ak) ∧ va_O "java/lang/String" ak A s s.heap ∧ va_OF "java/lang/String" "coder" "B" (.int 0) ak A s s.heap ∧ va_OF "java/lang/String" "value" "[B" (.ref av) ak A s s.heap ∧ va_T .byte av (hz_wlen.getD 7 0) (fun j => .int ((hz_wbyt.getD 7 []).getD j 0)) A s s.heap := by
  obtain ⟨adK, adV, hS, hE⟩ := vk_Sof (args := args) (s := s) (N := 1) (tm := fun _ => (Term.string "ThermalCoreSchedulerModel" 149)) (len := [3]) (byt := [[109, 97, 120]]) (A := A) (fun i hi => by
      cases i with
      | zero => decide
      | succ i => omega) (fun i hi => hn _ (List.mem_of_getElem? (i := 61) rfl)) (fun i hi => hn _ (List.mem_of_getElem? (i := 62) rfl)) (fun i hi => hn _ (List.mem_of_getElem? (i := 63) rfl)) (fun i hi => by
      cases i with
      | zero => exact hn _ (List.mem_of_getElem? (i := 64) rfl)
      | succ i => omega) (fun i hi j hj => by
      cases i with
      | succ i => omega
      | zero =>
      match j, hj with
      | 0, _ => exact hn _ (List.mem_of_getElem? (i := 65) rfl)
      | 1, _ => exact hn _ (List.mem_of_getElem? (i := 66) rfl)
      | 2, _ => exact hn _ (List.mem_of_getElem? (i := 67) rfl)
      | j + 3, hj => exact absurd hj (by show ¬ j + 3 < 3; omega)) (fun i j hi hj hne => absurd (show i = j by omega) hne) hA
  obtain ⟨h1, h2, h3, h4⟩ := hS.1 0 (by omega)
  exact ⟨adK 0, adV 0, hE 0 (by omega), h1, h2, h3, h4⟩
theorem hz_str8 {s : State} {args : Array Value} {A : Nat → Prop} (hn : ∀ w ∈ hz_nar, w.before args s = true) (hA : ∀ a : Nat, a < s.heap.size → ¬ A a) : ∃ ak av : Nat, (Term.string "ThermalCoreSchedulerModel" 155).eval args s none [] s = some (.ref ak) ∧ va_O "java/lang/String" ak A s s.heap ∧ va_OF "java/lang/String" "coder" "B" (.int 0) ak A s s.heap ∧ va_OF "java/lang/String" "value" "[B" (.ref av) ak A s s.heap ∧ va_T .byte av (hz_wlen.getD 8 0) (fun j => .int ((hz_wbyt.getD 8 []).getD j 0)) A s s.heap := by
  obtain ⟨adK, adV, hS, hE⟩ := vk_Sof (args := args) (s := s) (N := 1) (tm := fun _ => (Term.string "ThermalCoreSchedulerModel" 155)) (len := [3]) (byt := [[109, 105, 110]]) (A := A) (fun i hi => by
      cases i with
      | zero => decide
      | succ i => omega) (fun i hi => hn _ (List.mem_of_getElem? (i := 68) rfl)) (fun i hi => hn _ (List.mem_of_getElem? (i := 69) rfl)) (fun i hi => hn _ (List.mem_of_getElem? (i := 70) rfl)) (fun i hi => by
      cases i with
      | zero => exact hn _ (List.mem_of_getElem? (i := 71) rfl)
      | succ i => omega) (fun i hi j hj => by
      cases i with
      | succ i => omega
      | zero =>
      match j, hj with
      | 0, _ => exact hn _ (List.mem_of_getElem? (i := 72) rfl)
      | 1, _ => exact hn _ (List.mem_of_getElem? (i := 73) rfl)
      | 2, _ => exact hn _ (List.mem_of_getElem? (i := 74) rfl)
      | j + 3, hj => exact absurd hj (by show ¬ j + 3 < 3; omega)) (fun i j hi hj hne => absurd (show i = j by omega) hne) hA
  obtain ⟨h1, h2, h3, h4⟩ := hS.1 0 (by omega)
  exact ⟨adK 0, adV 0, hE 0 (by omega), h1, h2, h3, h4⟩
theorem hz_str9 {s : State} {args : Array Value} {A : Nat → Prop} (hn : ∀ w ∈ hz_nar, w.before args s = true) (hA : ∀ a : Nat, a < s.heap.size → ¬ A a) : ∃ ak av : Nat, (Term.string "ThermalCoreSchedulerModel" 157).eval args s none [] s = some (.ref ak) ∧ va_O "java/lang/String" ak A s s.heap ∧ va_OF "java/lang/String" "coder" "B" (.int 0) ak A s s.heap ∧ va_OF "java/lang/String" "value" "[B" (.ref av) ak A s s.heap ∧ va_T .byte av (hz_wlen.getD 9 0) (fun j => .int ((hz_wbyt.getD 9 []).getD j 0)) A s s.heap := by
  obtain ⟨adK, adV, hS, hE⟩ := vk_Sof (args := args) (s := s) (N := 1) (tm := fun _ => (Term.string "ThermalCoreSchedulerModel" 157)) (len := [6]) (byt := [[100, 101, 109, 97, 110, 100]]) (A := A) (fun i hi => by
      cases i with
      | zero => decide
      | succ i => omega) (fun i hi => hn _ (List.mem_of_getElem? (i := 75) rfl)) (fun i hi => hn _ (List.mem_of_getElem? (i := 76) rfl)) (fun i hi => hn _ (List.mem_of_getElem? (i := 77) rfl)) (fun i hi => by
      cases i with
      | zero => exact hn _ (List.mem_of_getElem? (i := 78) rfl)
      | succ i => omega) (fun i hi j hj => by
      cases i with
      | succ i => omega
      | zero =>
      match j, hj with
      | 0, _ => exact hn _ (List.mem_of_getElem? (i := 79) rfl)
      | 1, _ => exact hn _ (List.mem_of_getElem? (i := 80) rfl)
      | 2, _ => exact hn _ (List.mem_of_getElem? (i := 81) rfl)
      | 3, _ => exact hn _ (List.mem_of_getElem? (i := 82) rfl)
      | 4, _ => exact hn _ (List.mem_of_getElem? (i := 83) rfl)
      | 5, _ => exact hn _ (List.mem_of_getElem? (i := 84) rfl)
      | j + 6, hj => exact absurd hj (by show ¬ j + 6 < 6; omega)) (fun i j hi hj hne => absurd (show i = j by omega) hne) hA
  obtain ⟨h1, h2, h3, h4⟩ := hS.1 0 (by omega)
  exact ⟨adK 0, adV 0, hE 0 (by omega), h1, h2, h3, h4⟩
theorem hz_str10 {s : State} {args : Array Value} {A : Nat → Prop} (hn : ∀ w ∈ hz_nar, w.before args s = true) (hA : ∀ a : Nat, a < s.heap.size → ¬ A a) : ∃ ak av : Nat, (Term.string "ThermalCoreSchedulerModel" 159).eval args s none [] s = some (.ref ak) ∧ va_O "java/lang/String" ak A s s.heap ∧ va_OF "java/lang/String" "coder" "B" (.int 0) ak A s s.heap ∧ va_OF "java/lang/String" "value" "[B" (.ref av) ak A s s.heap ∧ va_T .byte av (hz_wlen.getD 10 0) (fun j => .int ((hz_wbyt.getD 10 []).getD j 0)) A s s.heap := by
  obtain ⟨adK, adV, hS, hE⟩ := vk_Sof (args := args) (s := s) (N := 1) (tm := fun _ => (Term.string "ThermalCoreSchedulerModel" 159)) (len := [4]) (byt := [[114, 97, 99, 101]]) (A := A) (fun i hi => by
      cases i with
      | zero => decide
      | succ i => omega) (fun i hi => hn _ (List.mem_of_getElem? (i := 85) rfl)) (fun i hi => hn _ (List.mem_of_getElem? (i := 86) rfl)) (fun i hi => hn _ (List.mem_of_getElem? (i := 87) rfl)) (fun i hi => by
      cases i with
      | zero => exact hn _ (List.mem_of_getElem? (i := 88) rfl)
      | succ i => omega) (fun i hi j hj => by
      cases i with
      | succ i => omega
      | zero =>
      match j, hj with
      | 0, _ => exact hn _ (List.mem_of_getElem? (i := 89) rfl)
      | 1, _ => exact hn _ (List.mem_of_getElem? (i := 90) rfl)
      | 2, _ => exact hn _ (List.mem_of_getElem? (i := 91) rfl)
      | 3, _ => exact hn _ (List.mem_of_getElem? (i := 92) rfl)
      | j + 4, hj => exact absurd hj (by show ¬ j + 4 < 4; omega)) (fun i j hi hj hne => absurd (show i = j by omega) hne) hA
  obtain ⟨h1, h2, h3, h4⟩ := hS.1 0 (by omega)
  exact ⟨adK 0, adV 0, hE 0 (by omega), h1, h2, h3, h4⟩
theorem hz_str11 {s : State} {args : Array Value} {A : Nat → Prop} (hn : ∀ w ∈ hz_nar, w.before args s = true) (hA : ∀ a : Nat, a < s.heap.size → ¬ A a) : ∃ ak av : Nat, (Term.string "ThermalCoreSchedulerModel" 178).eval args s none [] s = some (.ref ak) ∧ va_O "java/lang/String" ak A s s.heap ∧ va_OF "java/lang/String" "coder" "B" (.int 0) ak A s s.heap ∧ va_OF "java/lang/String" "value" "[B" (.ref av) ak A s s.heap ∧ va_T .byte av (hz_wlen.getD 11 0) (fun j => .int ((hz_wbyt.getD 11 []).getD j 0)) A s s.heap := by
  obtain ⟨adK, adV, hS, hE⟩ := vk_Sof (args := args) (s := s) (N := 1) (tm := fun _ => (Term.string "ThermalCoreSchedulerModel" 178)) (len := [5]) (byt := [[108, 101, 118, 101, 108]]) (A := A) (fun i hi => by
      cases i with
      | zero => decide
      | succ i => omega) (fun i hi => hn _ (List.mem_of_getElem? (i := 93) rfl)) (fun i hi => hn _ (List.mem_of_getElem? (i := 94) rfl)) (fun i hi => hn _ (List.mem_of_getElem? (i := 95) rfl)) (fun i hi => by
      cases i with
      | zero => exact hn _ (List.mem_of_getElem? (i := 96) rfl)
      | succ i => omega) (fun i hi j hj => by
      cases i with
      | succ i => omega
      | zero =>
      match j, hj with
      | 0, _ => exact hn _ (List.mem_of_getElem? (i := 97) rfl)
      | 1, _ => exact hn _ (List.mem_of_getElem? (i := 98) rfl)
      | 2, _ => exact hn _ (List.mem_of_getElem? (i := 99) rfl)
      | 3, _ => exact hn _ (List.mem_of_getElem? (i := 100) rfl)
      | 4, _ => exact hn _ (List.mem_of_getElem? (i := 101) rfl)
      | j + 5, hj => exact absurd hj (by show ¬ j + 5 < 5; omega)) (fun i j hi hj hne => absurd (show i = j by omega) hne) hA
  obtain ⟨h1, h2, h3, h4⟩ := hS.1 0 (by omega)
  exact ⟨adK 0, adV 0, hE 0 (by omega), h1, h2, h3, h4⟩
theorem hz_str12 {s : State} {args : Array Value} {A : Nat → Prop} (hn : ∀ w ∈ hz_nar, w.before args s = true) (hA : ∀ a : Nat, a < s.heap.size → ¬ A a) : ∃ ak av : Nat, (Term.string "ThermalCoreSchedulerModel" 180).eval args s none [] s = some (.ref ak) ∧ va_O "java/lang/String" ak A s s.heap ∧ va_OF "java/lang/String" "coder" "B" (.int 0) ak A s s.heap ∧ va_OF "java/lang/String" "value" "[B" (.ref av) ak A s s.heap ∧ va_T .byte av (hz_wlen.getD 12 0) (fun j => .int ((hz_wbyt.getD 12 []).getD j 0)) A s s.heap := by
  obtain ⟨adK, adV, hS, hE⟩ := vk_Sof (args := args) (s := s) (N := 1) (tm := fun _ => (Term.string "ThermalCoreSchedulerModel" 180)) (len := [6]) (byt := [[115, 121, 115, 116, 101, 109]]) (A := A) (fun i hi => by
      cases i with
      | zero => decide
      | succ i => omega) (fun i hi => hn _ (List.mem_of_getElem? (i := 102) rfl)) (fun i hi => hn _ (List.mem_of_getElem? (i := 103) rfl)) (fun i hi => hn _ (List.mem_of_getElem? (i := 104) rfl)) (fun i hi => by
      cases i with
      | zero => exact hn _ (List.mem_of_getElem? (i := 105) rfl)
      | succ i => omega) (fun i hi j hj => by
      cases i with
      | succ i => omega
      | zero =>
      match j, hj with
      | 0, _ => exact hn _ (List.mem_of_getElem? (i := 106) rfl)
      | 1, _ => exact hn _ (List.mem_of_getElem? (i := 107) rfl)
      | 2, _ => exact hn _ (List.mem_of_getElem? (i := 108) rfl)
      | 3, _ => exact hn _ (List.mem_of_getElem? (i := 109) rfl)
      | 4, _ => exact hn _ (List.mem_of_getElem? (i := 110) rfl)
      | 5, _ => exact hn _ (List.mem_of_getElem? (i := 111) rfl)
      | j + 6, hj => exact absurd hj (by show ¬ j + 6 < 6; omega)) (fun i j hi hj hne => absurd (show i = j by omega) hne) hA
  obtain ⟨h1, h2, h3, h4⟩ := hS.1 0 (by omega)
  exact ⟨adK 0, adV 0, hE 0 (by omega), h1, h2, h3, h4⟩
theorem hz_str13 {s : State} {args : Array Value} {A : Nat → Prop} (hn : ∀ w ∈ hz_nar, w.before args s = true) (hA : ∀ a : Nat, a < s.heap.size → ¬ A a) : ∃ ak av : Nat, (Term.string "ThermalCoreSchedulerModel" 185).eval args s none [] s = some (.ref ak) ∧ va_O "java/lang/String" ak A s s.heap ∧ va_OF "java/lang/String" "coder" "B" (.int 0) ak A s s.heap ∧ va_OF "java/lang/String" "value" "[B" (.ref av) ak A s s.heap ∧ va_T .byte av (hz_wlen.getD 13 0) (fun j => .int ((hz_wbyt.getD 13 []).getD j 0)) A s s.heap := by
  obtain ⟨adK, adV, hS, hE⟩ := vk_Sof (args := args) (s := s) (N := 1) (tm := fun _ => (Term.string "ThermalCoreSchedulerModel" 185)) (len := [6]) (byt := [[100, 111, 109, 97, 105, 110]]) (A := A) (fun i hi => by
      cases i with
      | zero => decide
      | succ i => omega) (fun i hi => hn _ (List.mem_of_getElem? (i := 112) rfl)) (fun i hi => hn _ (List.mem_of_getElem? (i := 113) rfl)) (fun i hi => hn _ (List.mem_of_getElem? (i := 114) rfl)) (fun i hi => by
      cases i with
      | zero => exact hn _ (List.mem_of_getElem? (i := 115) rfl)
      | succ i => omega) (fun i hi j hj => by
      cases i with
      | succ i => omega
      | zero =>
      match j, hj with
      | 0, _ => exact hn _ (List.mem_of_getElem? (i := 116) rfl)
      | 1, _ => exact hn _ (List.mem_of_getElem? (i := 117) rfl)
      | 2, _ => exact hn _ (List.mem_of_getElem? (i := 118) rfl)
      | 3, _ => exact hn _ (List.mem_of_getElem? (i := 119) rfl)
      | 4, _ => exact hn _ (List.mem_of_getElem? (i := 120) rfl)
      | 5, _ => exact hn _ (List.mem_of_getElem? (i := 121) rfl)
      | j + 6, hj => exact absurd hj (by show ¬ j + 6 < 6; omega)) (fun i j hi hj hne => absurd (show i = j by omega) hne) hA
  obtain ⟨h1, h2, h3, h4⟩ := hS.1 0 (by omega)
  exact ⟨adK 0, adV 0, hE 0 (by omega), h1, h2, h3, h4⟩
theorem hz_strR {s : State} {args : Array Value} {own : String} {k : Nat} (h : (Cond.exactly (.string own k) "java/lang/String").before args s = true) : ∃ a, (Term.string own k).eval args s none [] s = some (.ref a) := by
  obtain ⟨a, c, cA, kA, q1, -⟩ := Cond.exactly_spec (args := args) (first := s) (o := none) (s := s) (idx := []) (t := .string own k) (cls := "java/lang/String") h
  exact ⟨a, q1⟩
set_option maxHeartbeats 4000000 in
theorem hz_entry {s : State} {args : Array Value} (ht : ∀ w ∈ lw_tbl, w.before args s = true) (hgv : (Jvm.Cond.and given_1 narrow_1).before args s = true) : ∃ B : Bt, B.1 = s.heap.size ∧ hz_Ev B s := by
  have hn : ∀ w ∈ hz_nar, w.before args s = true := fun w hw => flat_of_before _ hgv w (hz_nar_in w hw)
  have htg : ∀ w ∈ hz_good, w.before args s = true := fun w hw => ht w (List.mem_filter.mp hw).1
  have hA : ∀ a : Nat, a < s.heap.size → ¬ (fun q => s.heap.size ≤ q) a := fun a h q => absurd h (Nat.not_lt.mpr q)
  obtain ⟨D, hD⟩ := hz_kn htg
  have hao : va_AO RX3 s := va_AO.of (ht _ (List.mem_append_right _ (List.mem_append_right _ (List.mem_append_left _ (List.mem_of_getElem? (i := 84) (by decide +kernel))))))
  obtain ⟨a0, b0, r0⟩ := hz_arr (ty := .int) (fun _ h => nomatch h) (htg _ hq_136)
  obtain ⟨a1, b1, r1⟩ := hz_arr (ty := .byte) (fun _ h => nomatch h) (htg _ hq_49)
  obtain ⟨a2, b2, r2⟩ := hz_arrq hao
  obtain ⟨a3, b3, r3⟩ := hz_arr (ty := .long) (fun _ h => nomatch h) (htg _ hq_1729)
  obtain ⟨a4, b4, r4⟩ := hz_arr (ty := .double) (fun _ h => nomatch h) (htg _ hq_1730)
  obtain ⟨k0, v0, e0, o0⟩ := hz_str0 hn hA
  obtain ⟨k1, v1, e1, o1⟩ := hz_str1 hn hA
  obtain ⟨k2, v2, e2, o2⟩ := hz_str2 hn hA
  obtain ⟨k3, v3, e3, o3⟩ := hz_str3 hn hA
  obtain ⟨k4, v4, e4, o4⟩ := hz_str4 hn hA
  obtain ⟨k5, v5, e5, o5⟩ := hz_str5 hn hA
  obtain ⟨k6, v6, e6, o6⟩ := hz_str6 hn hA
  obtain ⟨k7, v7, e7, o7⟩ := hz_str7 hn hA
  obtain ⟨k8, v8, e8, o8⟩ := hz_str8 hn hA
  obtain ⟨k9, v9, e9, o9⟩ := hz_str9 hn hA
  obtain ⟨k10, v10, e10, o10⟩ := hz_str10 hn hA
  obtain ⟨k11, v11, e11, o11⟩ := hz_str11 hn hA
  obtain ⟨k12, v12, e12, o12⟩ := hz_str12 hn hA
  obtain ⟨k13, v13, e13, o13⟩ := hz_str13 hn hA
  obtain ⟨k14, e14⟩ := hz_strR (hn _ (List.mem_of_getElem? (i := 122) rfl))
  obtain ⟨k15, e15⟩ := hz_strR (hn _ (List.mem_of_getElem? (i := 123) rfl))
  obtain ⟨k16, e16⟩ := hz_strR (hn _ (List.mem_of_getElem? (i := 124) rfl))
  obtain ⟨k17, e17⟩ := hz_strR (hn _ (List.mem_of_getElem? (i := 125) rfl))
  obtain ⟨k18, e18⟩ := hz_strR (hn _ (List.mem_of_getElem? (i := 126) rfl))
  obtain ⟨k19, e19⟩ := hz_strR (hn _ (List.mem_of_getElem? (i := 127) rfl))
  obtain ⟨k20, e20⟩ := hz_strR (hn _ (List.mem_of_getElem? (i := 128) rfl))
  obtain ⟨k21, e21⟩ := hz_strR (hn _ (List.mem_of_getElem? (i := 129) rfl))
  obtain ⟨k22, e22⟩ := hz_strR (hn _ (List.mem_of_getElem? (i := 130) rfl))
  refine ⟨(s.heap.size, D, fun i => if i = 0 then a0 else if i = 1 then a1 else if i = 2 then a2 else if i = 3 then a3 else a4, fun i => if i = 0 then k0 else if i = 1 then k1 else if i = 2 then k2 else if i = 3 then k3 else if i = 4 then k4 else if i = 5 then k5 else if i = 6 then k6 else if i = 7 then k7 else if i = 8 then k8 else if i = 9 then k9 else if i = 10 then k10 else if i = 11 then k11 else if i = 12 then k12 else if i = 13 then k13 else if i = 14 then k14 else if i = 15 then k15 else if i = 16 then k16 else if i = 17 then k17 else if i = 18 then k18 else if i = 19 then k19 else if i = 20 then k20 else if i = 21 then k21 else k22, fun i => if i = 0 then v0 else if i = 1 then v1 else if i = 2 then v2 else if i = 3 then v3 else if i = 4 then v4 else if i = 5 then v5 else if i = 6 then v6 else if i = 7 then v7 else if i = 8 then v8 else if i = 9 then v9 else if i = 10 then v10 else if i = 11 then v11 else if i = 12 then v12 else v13), rfl, Nat.le_refl _, ⟨hD, ?_⟩, ?_, ?_, ?_, hao, ?_, ?_, ?_, ?_, ?_, ?_⟩
  · intro k q hq
    match k, hq with
    | 0, hq => cases hq; exact ⟨b0, r0⟩
    | 1, hq => cases hq; exact ⟨b1, r1⟩
    | 2, hq => cases hq; exact ⟨b2, r2⟩
    | 3, hq => cases hq; exact ⟨b3, r3⟩
    | 4, hq => cases hq; exact ⟨b4, r4⟩
    | k + 5, hq => simp [hz_tys] at hq
  · intro q hq
    obtain ⟨i, hi⟩ := List.getElem?_of_mem hq
    match i, hi with
    | 0, hi => cases hi; exact va_Nw.of rfl (ht _ (List.mem_append_right _ (List.mem_append_left _ (List.mem_of_getElem? (i := 36) (by decide +kernel)))))
    | 1, hi => cases hi; exact va_Nw.of rfl (ht _ (List.mem_append_right _ (List.mem_append_left _ (List.mem_of_getElem? (i := 58) (by decide +kernel)))))
    | 2, hi => cases hi; exact va_Nw.of rfl (ht _ (List.mem_append_right _ (List.mem_append_left _ (List.mem_of_getElem? (i := 178) (by decide +kernel)))))
    | 3, hi => cases hi; exact va_Nw.of rfl (ht _ (List.mem_append_right _ (List.mem_append_left _ (List.mem_of_getElem? (i := 187) (by decide +kernel)))))
    | 4, hi => cases hi; exact va_Nw.of rfl (ht _ (List.mem_append_right _ (List.mem_append_right _ (List.mem_append_left _ (List.mem_of_getElem? (i := 99) (by decide +kernel))))))
    | 5, hi => cases hi; exact va_Nw.of rfl (ht _ (List.mem_append_right _ (List.mem_append_right _ (List.mem_append_left _ (List.mem_of_getElem? (i := 118) (by decide +kernel))))))
    | 6, hi => cases hi; exact va_Nw.of rfl (ht _ (List.mem_append_right _ (List.mem_append_right _ (List.mem_append_right _ (List.mem_append_left _ (List.mem_of_getElem? (i := 58) (by decide +kernel)))))))
    | 7, hi => cases hi; exact va_Nw.of rfl (ht _ (List.mem_append_right _ (List.mem_append_right _ (List.mem_append_right _ (List.mem_append_left _ (List.mem_of_getElem? (i := 73) (by decide +kernel)))))))
    | 8, hi => cases hi; exact va_Nw.of rfl (ht _ (List.mem_append_right _ (List.mem_append_right _ (List.mem_append_right _ (List.mem_append_left _ (List.mem_of_getElem? (i := 217) (by decide +kernel)))))))
    | 9, hi => cases hi; exact va_Nw.of rfl (ht _ (List.mem_append_right _ (List.mem_append_right _ (List.mem_append_right _ (List.mem_append_left _ (List.mem_of_getElem? (i := 223) (by decide +kernel)))))))
    | 10, hi => cases hi; exact va_Nw.of rfl (ht _ (List.mem_append_right _ (List.mem_append_right _ (List.mem_append_right _ (List.mem_append_right _ (List.mem_append_left _ (List.mem_of_getElem? (i := 9) (by decide +kernel))))))))
    | 11, hi => cases hi; exact va_Nw.of rfl (ht _ (List.mem_append_right _ (List.mem_append_right _ (List.mem_append_right _ (List.mem_append_right _ (List.mem_append_left _ (List.mem_of_getElem? (i := 20) (by decide +kernel))))))))
    | 12, hi => cases hi; exact va_Nw.of rfl (ht _ (List.mem_append_right _ (List.mem_append_right _ (List.mem_append_right _ (List.mem_append_right _ (List.mem_append_left _ (List.mem_of_getElem? (i := 86) (by decide +kernel))))))))
    | 13, hi => cases hi; exact va_Nw.of rfl (ht _ (List.mem_append_right _ (List.mem_append_right _ (List.mem_append_right _ (List.mem_append_right _ (List.mem_append_left _ (List.mem_of_getElem? (i := 100) (by decide +kernel))))))))
    | 14, hi => cases hi; exact va_Nw.of rfl (ht _ (List.mem_append_right _ (List.mem_append_right _ (List.mem_append_right _ (List.mem_append_right _ (List.mem_append_right _ (List.mem_append_left _ (List.mem_of_getElem? (i := 176) (by decide +kernel)))))))))
    | i + 15, hi => simp [hz_nests] at hi
  · intro w hw
    obtain ⟨i, hi⟩ := List.getElem?_of_mem hw
    match i, hi with
    | 0, hi => cases hi; exact va_Nw.of rfl (ht _ (List.mem_append_right _ (List.mem_append_right _ (List.mem_append_right _ (List.mem_append_left _ (List.mem_of_getElem? (i := 92) (by decide +kernel)))))))
    | 1, hi => cases hi; exact va_Nw.of rfl (ht _ (List.mem_append_right _ (List.mem_append_right _ (List.mem_append_right _ (List.mem_append_left _ (List.mem_of_getElem? (i := 93) (by decide +kernel)))))))
    | 2, hi => cases hi; exact va_Nw.of rfl (ht _ (List.mem_append_right _ (List.mem_append_right _ (List.mem_append_right _ (List.mem_append_left _ (List.mem_of_getElem? (i := 94) (by decide +kernel)))))))
    | 3, hi => cases hi; exact va_Nw.of rfl (ht _ (List.mem_append_right _ (List.mem_append_right _ (List.mem_append_right _ (List.mem_append_left _ (List.mem_of_getElem? (i := 95) (by decide +kernel)))))))
    | 4, hi => cases hi; exact va_Nw.of rfl (ht _ (List.mem_append_right _ (List.mem_append_right _ (List.mem_append_right _ (List.mem_append_left _ (List.mem_of_getElem? (i := 96) (by decide +kernel)))))))
    | 5, hi => cases hi; exact va_Nw.of rfl (ht _ (List.mem_append_right _ (List.mem_append_right _ (List.mem_append_right _ (List.mem_append_left _ (List.mem_of_getElem? (i := 97) (by decide +kernel)))))))
    | 6, hi => cases hi; exact va_Nw.of rfl (ht _ (List.mem_append_right _ (List.mem_append_right _ (List.mem_append_right _ (List.mem_append_left _ (List.mem_of_getElem? (i := 98) (by decide +kernel)))))))
    | 7, hi => cases hi; exact va_Nw.of rfl (ht _ (List.mem_append_right _ (List.mem_append_right _ (List.mem_append_right _ (List.mem_append_left _ (List.mem_of_getElem? (i := 175) (by decide +kernel)))))))
    | 8, hi => cases hi; exact va_Nw.of rfl (ht _ (List.mem_append_right _ (List.mem_append_right _ (List.mem_append_right _ (List.mem_append_right _ (List.mem_append_left _ (List.mem_of_getElem? (i := 206) (by decide +kernel))))))))
    | 9, hi => cases hi; exact va_Nw.of rfl (ht _ (List.mem_append_right _ (List.mem_append_right _ (List.mem_append_right _ (List.mem_append_right _ (List.mem_append_left _ (List.mem_of_getElem? (i := 235) (by decide +kernel))))))))
    | 10, hi => cases hi; exact va_Nw.of rfl (ht _ (List.mem_append_right _ (List.mem_append_right _ (List.mem_append_right _ (List.mem_append_right _ (List.mem_append_right _ (List.mem_append_right _ (List.mem_append_right _ (List.mem_append_right _ (List.mem_of_getElem? (i := 52) (by decide +kernel)))))))))))
    | 11, hi => cases hi; exact va_Nw.of rfl (ht _ (List.mem_append_right _ (List.mem_append_right _ (List.mem_append_right _ (List.mem_append_right _ (List.mem_append_right _ (List.mem_append_right _ (List.mem_append_right _ (List.mem_append_right _ (List.mem_of_getElem? (i := 53) (by decide +kernel)))))))))))
    | 12, hi => cases hi; exact va_Nw.of rfl (ht _ (List.mem_append_right _ (List.mem_append_right _ (List.mem_append_right _ (List.mem_append_right _ (List.mem_append_right _ (List.mem_append_right _ (List.mem_append_right _ (List.mem_append_right _ (List.mem_of_getElem? (i := 54) (by decide +kernel)))))))))))
    | 13, hi => cases hi; exact va_Nw.of rfl (ht _ (List.mem_append_right _ (List.mem_append_right _ (List.mem_append_right _ (List.mem_append_right _ (List.mem_append_right _ (List.mem_append_right _ (List.mem_append_right _ (List.mem_append_right _ (List.mem_of_getElem? (i := 55) (by decide +kernel)))))))))))
    | 14, hi => cases hi; exact va_Nw.of rfl (ht _ (List.mem_append_right _ (List.mem_append_right _ (List.mem_append_right _ (List.mem_append_right _ (List.mem_append_right _ (List.mem_append_right _ (List.mem_append_right _ (List.mem_append_right _ (List.mem_of_getElem? (i := 56) (by decide +kernel)))))))))))
    | 15, hi => cases hi; exact va_Nw.of rfl (ht _ (List.mem_append_right _ (List.mem_append_right _ (List.mem_append_right _ (List.mem_append_right _ (List.mem_append_right _ (List.mem_append_right _ (List.mem_append_right _ (List.mem_append_right _ (List.mem_of_getElem? (i := 57) (by decide +kernel)))))))))))
    | 16, hi => cases hi; exact va_Nw.of rfl (ht _ (List.mem_append_right _ (List.mem_append_right _ (List.mem_append_right _ (List.mem_append_right _ (List.mem_append_right _ (List.mem_append_right _ (List.mem_append_right _ (List.mem_append_right _ (List.mem_of_getElem? (i := 58) (by decide +kernel)))))))))))
    | 17, hi => cases hi; exact va_Nw.of rfl (ht _ (List.mem_append_right _ (List.mem_append_right _ (List.mem_append_right _ (List.mem_append_right _ (List.mem_append_right _ (List.mem_append_right _ (List.mem_append_right _ (List.mem_append_right _ (List.mem_of_getElem? (i := 59) (by decide +kernel)))))))))))
    | 18, hi => cases hi; exact va_Nw.of rfl (ht _ (List.mem_append_right _ (List.mem_append_right _ (List.mem_append_right _ (List.mem_append_right _ (List.mem_append_right _ (List.mem_append_right _ (List.mem_append_right _ (List.mem_append_right _ (List.mem_of_getElem? (i := 60) (by decide +kernel)))))))))))
    | 19, hi => cases hi; exact va_Nw.of rfl (ht _ (List.mem_append_right _ (List.mem_append_right _ (List.mem_append_right _ (List.mem_append_right _ (List.mem_append_right _ (List.mem_append_right _ (List.mem_append_right _ (List.mem_append_right _ (List.mem_of_getElem? (i := 61) (by decide +kernel)))))))))))
    | 20, hi => cases hi; exact va_Nw.of rfl (ht _ (List.mem_append_right _ (List.mem_append_right _ (List.mem_append_right _ (List.mem_append_right _ (List.mem_append_right _ (List.mem_append_right _ (List.mem_append_right _ (List.mem_append_right _ (List.mem_of_getElem? (i := 62) (by decide +kernel)))))))))))
    | 21, hi => cases hi; exact va_Nw.of rfl (ht _ (List.mem_append_right _ (List.mem_append_right _ (List.mem_append_right _ (List.mem_append_right _ (List.mem_append_right _ (List.mem_append_right _ (List.mem_append_right _ (List.mem_append_right _ (List.mem_of_getElem? (i := 63) (by decide +kernel)))))))))))
    | 22, hi => cases hi; exact va_Nw.of rfl (ht _ (List.mem_append_right _ (List.mem_append_right _ (List.mem_append_right _ (List.mem_append_right _ (List.mem_append_right _ (List.mem_append_right _ (List.mem_append_right _ (List.mem_append_right _ (List.mem_of_getElem? (i := 64) (by decide +kernel)))))))))))
    | 23, hi => cases hi; exact va_Nw.of rfl (ht _ (List.mem_append_right _ (List.mem_append_right _ (List.mem_append_right _ (List.mem_append_right _ (List.mem_append_right _ (List.mem_append_right _ (List.mem_append_right _ (List.mem_append_right _ (List.mem_of_getElem? (i := 65) (by decide +kernel)))))))))))
    | 24, hi => cases hi; exact va_Nw.of rfl (ht _ (List.mem_append_right _ (List.mem_append_right _ (List.mem_append_right _ (List.mem_append_right _ (List.mem_append_right _ (List.mem_append_right _ (List.mem_append_right _ (List.mem_append_right _ (List.mem_of_getElem? (i := 66) (by decide +kernel)))))))))))
    | 25, hi => cases hi; exact va_Nw.of rfl (ht _ (List.mem_append_right _ (List.mem_append_right _ (List.mem_append_right _ (List.mem_append_right _ (List.mem_append_right _ (List.mem_append_right _ (List.mem_append_right _ (List.mem_append_right _ (List.mem_of_getElem? (i := 67) (by decide +kernel)))))))))))
    | 26, hi => cases hi; exact va_Nw.of rfl (ht _ (List.mem_append_right _ (List.mem_append_right _ (List.mem_append_right _ (List.mem_append_right _ (List.mem_append_right _ (List.mem_append_right _ (List.mem_append_right _ (List.mem_append_right _ (List.mem_of_getElem? (i := 68) (by decide +kernel)))))))))))
    | i + 27, hi => simp [hz_faces] at hi
  · intro q hq
    obtain ⟨i, hi⟩ := List.getElem?_of_mem hq
    match i, hi with
    | 0, hi => cases hi; exact va_Nc.of (hn _ (List.mem_of_getElem? (i := 135) rfl))
    | 1, hi => cases hi; exact va_Nc.of (hn _ (List.mem_of_getElem? (i := 136) rfl))
    | 2, hi => cases hi; exact va_Nc.of (hn _ (List.mem_of_getElem? (i := 137) rfl))
    | 3, hi => cases hi; exact va_Nc.of (hn _ (List.mem_of_getElem? (i := 138) rfl))
    | 4, hi => cases hi; exact va_Nc.of (hn _ (List.mem_of_getElem? (i := 139) rfl))
    | i + 5, hi => simp [hz_ncs] at hi
  · intro i q hq
    match i, hq with
    | 0, hq => cases hq; exact vk_R.of (ht _ (List.mem_append_right _ (List.mem_append_right _ (List.mem_append_right _ (List.mem_append_left _ (List.mem_of_getElem? (i := 26) (by decide +kernel))))))) e0
    | 1, hq => cases hq; exact vk_R.of (ht _ (List.mem_append_right _ (List.mem_append_right _ (List.mem_append_left _ (List.mem_of_getElem? (i := 188) (by decide +kernel)))))) e1
    | 2, hq => cases hq; exact vk_R.of (ht _ (List.mem_append_right _ (List.mem_append_right _ (List.mem_append_right _ (List.mem_append_left _ (List.mem_of_getElem? (i := 40) (by decide +kernel))))))) e2
    | 3, hq => cases hq; exact vk_R.of (ht _ (List.mem_append_right _ (List.mem_append_right _ (List.mem_append_right _ (List.mem_append_left _ (List.mem_of_getElem? (i := 41) (by decide +kernel))))))) e3
    | 4, hq => cases hq; exact vk_R.of (ht _ (List.mem_append_right _ (List.mem_append_right _ (List.mem_append_right _ (List.mem_append_left _ (List.mem_of_getElem? (i := 42) (by decide +kernel))))))) e4
    | 5, hq => cases hq; exact vk_R.of (ht _ (List.mem_append_right _ (List.mem_append_right _ (List.mem_append_right _ (List.mem_append_left _ (List.mem_of_getElem? (i := 43) (by decide +kernel))))))) e5
    | 6, hq => cases hq; exact vk_R.of (ht _ (List.mem_append_right _ (List.mem_append_right _ (List.mem_append_right _ (List.mem_append_left _ (List.mem_of_getElem? (i := 48) (by decide +kernel))))))) e6
    | 7, hq => cases hq; exact vk_R.of (ht _ (List.mem_append_right _ (List.mem_append_right _ (List.mem_append_right _ (List.mem_append_right _ (List.mem_append_right _ (List.mem_append_right _ (List.mem_append_left _ (List.mem_of_getElem? (i := 198) (by decide +kernel)))))))))) e7
    | 8, hq => cases hq; exact vk_R.of (ht _ (List.mem_append_right _ (List.mem_append_right _ (List.mem_append_right _ (List.mem_append_right _ (List.mem_append_right _ (List.mem_append_right _ (List.mem_append_left _ (List.mem_of_getElem? (i := 199) (by decide +kernel)))))))))) e8
    | 9, hq => cases hq; exact vk_R.of (ht _ (List.mem_append_right _ (List.mem_append_right _ (List.mem_append_right _ (List.mem_append_right _ (List.mem_append_right _ (List.mem_append_right _ (List.mem_append_left _ (List.mem_of_getElem? (i := 200) (by decide +kernel)))))))))) e9
    | 10, hq => cases hq; exact vk_R.of (ht _ (List.mem_append_right _ (List.mem_append_right _ (List.mem_append_right _ (List.mem_append_right _ (List.mem_append_right _ (List.mem_append_right _ (List.mem_append_left _ (List.mem_of_getElem? (i := 201) (by decide +kernel)))))))))) e10
    | 11, hq => cases hq; exact vk_R.of (ht _ (List.mem_append_right _ (List.mem_append_right _ (List.mem_append_right _ (List.mem_append_right _ (List.mem_append_right _ (List.mem_append_right _ (List.mem_append_left _ (List.mem_of_getElem? (i := 206) (by decide +kernel)))))))))) e11
    | 12, hq => cases hq; exact vk_R.of (ht _ (List.mem_append_right _ (List.mem_append_right _ (List.mem_append_right _ (List.mem_append_right _ (List.mem_append_right _ (List.mem_append_right _ (List.mem_append_left _ (List.mem_of_getElem? (i := 169) (by decide +kernel)))))))))) e12
    | 13, hq => cases hq; exact vk_R.of (ht _ (List.mem_append_right _ (List.mem_append_right _ (List.mem_append_right _ (List.mem_append_right _ (List.mem_append_right _ (List.mem_append_right _ (List.mem_append_left _ (List.mem_of_getElem? (i := 188) (by decide +kernel)))))))))) e13
    | 14, hq => cases hq; exact vk_R.of (ht _ (List.mem_append_right _ (List.mem_append_right _ (List.mem_append_right _ (List.mem_append_left _ (List.mem_of_getElem? (i := 132) (by decide +kernel))))))) e14
    | 15, hq => cases hq; exact vk_R.of (ht _ (List.mem_append_right _ (List.mem_append_right _ (List.mem_append_right _ (List.mem_append_right _ (List.mem_append_left _ (List.mem_of_getElem? (i := 180) (by decide +kernel)))))))) e15
    | 16, hq => cases hq; exact vk_R.of (ht _ (List.mem_append_right _ (List.mem_append_right _ (List.mem_append_right _ (List.mem_append_right _ (List.mem_append_left _ (List.mem_of_getElem? (i := 213) (by decide +kernel)))))))) e16
    | 17, hq => cases hq; exact vk_R.of (ht _ (List.mem_append_right _ (List.mem_append_right _ (List.mem_append_right _ (List.mem_append_right _ (List.mem_append_right _ (List.mem_append_left _ (List.mem_of_getElem? (i := 7) (by decide +kernel))))))))) e17
    | 18, hq => cases hq; exact vk_R.of (ht _ (List.mem_append_right _ (List.mem_append_right _ (List.mem_append_right _ (List.mem_append_right _ (List.mem_append_right _ (List.mem_append_left _ (List.mem_of_getElem? (i := 62) (by decide +kernel))))))))) e18
    | 19, hq => cases hq; exact vk_R.of (ht _ (List.mem_append_right _ (List.mem_append_right _ (List.mem_append_right _ (List.mem_append_right _ (List.mem_append_right _ (List.mem_append_left _ (List.mem_of_getElem? (i := 79) (by decide +kernel))))))))) e19
    | 20, hq => cases hq; exact vk_R.of (ht _ (List.mem_append_right _ (List.mem_append_right _ (List.mem_append_right _ (List.mem_append_left _ (List.mem_of_getElem? (i := 204) (by decide +kernel))))))) e20
    | 21, hq => cases hq; exact vk_R.of (ht _ (List.mem_append_right _ (List.mem_append_right _ (List.mem_append_right _ (List.mem_append_left _ (List.mem_of_getElem? (i := 182) (by decide +kernel))))))) e21
    | 22, hq => cases hq; exact vk_R.of (ht _ (List.mem_append_right _ (List.mem_append_right _ (List.mem_append_right _ (List.mem_append_right _ (List.mem_append_left _ (List.mem_of_getElem? (i := 199) (by decide +kernel)))))))) e22
    | i + 23, hq => simp [hz_strs] at hq
  · intro i hi
    match i, hi with
    | 0, _ => exact o0
    | 1, _ => exact o1
    | 2, _ => exact o2
    | 3, _ => exact o3
    | 4, _ => exact o4
    | 5, _ => exact o5
    | 6, _ => exact o6
    | 7, _ => exact o7
    | 8, _ => exact o8
    | 9, _ => exact o9
    | 10, _ => exact o10
    | 11, _ => exact o11
    | 12, _ => exact o12
    | 13, _ => exact o13
    | i + 14, hi => exact absurd hi (by omega)
  · exact vx_Zqof (ht _ (List.mem_append_right _ (List.mem_append_right _ (List.mem_append_right _ (List.mem_append_left _ (List.mem_of_getElem? (i := 117) (by decide +kernel))))))) (htg _ hq_12) (hn _ (List.mem_of_getElem? (i := 133) rfl)) hA
  · exact vx_Zqof (ht _ (List.mem_append_right _ (List.mem_append_right _ (List.mem_append_right _ (List.mem_append_left _ (List.mem_of_getElem? (i := 119) (by decide +kernel))))))) (htg _ hq_12) (hn _ (List.mem_of_getElem? (i := 134) rfl)) hA
  · exact va_Zof (ht _ (List.mem_append_right _ (List.mem_append_right _ (List.mem_append_left _ (List.mem_of_getElem? (i := 206) (by decide +kernel)))))) (htg _ hq_18) (va_eqt (hn _ (List.mem_of_getElem? (i := 131) rfl))) hA
  · exact va_Zqof (ht _ (List.mem_append_right _ (List.mem_append_right _ (List.mem_append_left _ (List.mem_of_getElem? (i := 222) (by decide +kernel)))))) (htg _ hq_20) (hn _ (List.mem_of_getElem? (i := 132) rfl)) hA

