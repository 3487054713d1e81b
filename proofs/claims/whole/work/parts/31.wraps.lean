def f_L_append (a0 : Nat) (x1 : Int32) (x2 : Int32) (x3 : Int32) (x4 : Int32) (x5 : Int32) (a6 : Nat) (w : MW) : Option (Int32 × MW) :=
  hz_gd (hz_g 358 a0 10) (hz_gd (hz_g 358 a6 23) (hz_bt (f_X9_append a0 x1 x2 x3 x4 x5 w) (fun v1 w2 => hz_let (hz_po w2 (Int32.toInt64 v1)) (fun w3 => some (0, w3))) (fun E4 w5 => (if E4 = "java/lang/IllegalStateException" then some (1, w5) else none))))
set_option maxHeartbeats 4000000 in
set_option maxRecDepth 100000 in
theorem ct_L_append {l : Launch} (hl : l.stackTraces = false) {B : Bt} {a0 : Nat} {x1 : Int32} {x2 : Int32} {x3 : Int32} {x4 : Int32} {x5 : Int32} {a6 : Nat} {w : MW} {r : Int32 × MW} (h : f_L_append a0 x1 x2 x3 x4 x5 a6 w = some r) : hz_MetW l B 358 yL_append cL_append 8 (some .int) [(0, 16, 19, 13)] 8 1 6 [.ref (B.1 + a0), .int x1, .int x2, .int x3, .int x4, .int x5, .ref (B.1 + a6)] w (some (.int r.1)) r.2 := by
  refine hz_ofJW (rv := (fun r : Int32 × MW => some (.int r.1))) (wo := (fun r : Int32 × MW => r.2)) (own := RL) hl (by decide) rfl (Nat.le_of_ble_eq_true rfl) rfl ?_ h
  intro p e s m args below meth c
  unfold f_L_append
  refine hz_gdr (fun ga0 => ?_)
  refine hz_gdr (fun ga6 => ?_)
  refine hz_aload (pc' := 2) (j := 6) dL_append_0 rfl rfl ?_
  refine hz_iconst (pc' := 3) (v := 0) dL_append_2 rfl (by decide) ?_
  refine hz_aload_n (pc' := 4) (j := 0) dL_append_3 rfl rfl rfl ?_
  refine hz_iload_n (pc' := 5) (j := 1) dL_append_4 rfl rfl rfl ?_
  refine hz_iload_n (pc' := 6) (j := 2) dL_append_5 rfl rfl rfl ?_
  refine hz_iload_n (pc' := 7) (j := 3) dL_append_6 rfl rfl rfl ?_
  refine hz_iload (pc' := 9) (j := 4) dL_append_7 rfl rfl ?_
  refine hz_iload (pc' := 11) (j := 5) dL_append_9 rfl rfl ?_
  refine hz_tVi (pc' := 14) (av := [.int x1, .int x2, .int x3, .int x4, .int x5]) (rest := [.int 0, .ref (B.1 + a6)]) vl_L_7 (fun v w' h => ct_X9_append hl h) ga0 rfl rfl (Nat.le_of_ble_eq_true rfl) (by decide) (by decide) dL_append_11 rfl (fun v1 w2 => ?_) (fun E4 w5 => ?_)
  · refine hz_i2l (pc' := 15) dL_append_14 rfl ?_
    refine hz_last (pc' := 16) ga6 rfl dL_append_15 rfl (fun w3 => ?_)
    refine hz_goto (tgt := 23) dL_append_16 (by decide) ?_
    refine hz_iconst (pc' := 24) (v := 0) dL_append_23 rfl (by decide) ?_
    exact hz_reti dL_append_24 rfl (by decide)
  · refine hz_xif (fun h7 => ?_) (fun _ => ?_)
    · subst h7
      refine hz_xcatch [] ⟨0, 16, 19, 13⟩ [] rfl (fun z hz => nomatch hz) (by decide) (by decide) hq_565 (List.mem_of_getElem? (i := 0) (by decide +kernel)) (fun q6 => ?_)
      refine hz_astore (pc' := 21) (L' := [(7, .ref q6), (0, .ref (B.1 + a0)), (1, .int x1), (2, .int x2), (3, .int x3), (4, .int x4), (5, .int x5), (6, .ref (B.1 + a6))]) dL_append_19 rfl (by decide) rfl ?_
      refine hz_iconst (pc' := 22) (v := 1) dL_append_21 rfl (by decide) ?_
      exact hz_reti dL_append_22 rfl (by decide)
    exact hz_xno
def f_L_truncate (a0 : Nat) (x1 : Int32) (a2 : Nat) (w : MW) : Option (Int32 × MW) :=
  hz_gd (hz_g 358 a0 10) (hz_gd (hz_g 358 a2 23) (hz_bt (f_X9_truncate a0 x1 w) (fun v1 w2 => hz_let (hz_po w2 (Int32.toInt64 v1)) (fun w3 => some (0, w3))) (fun E4 w5 => (if E4 = "java/lang/IllegalArgumentException" then some (1, w5) else none))))
set_option maxHeartbeats 4000000 in
set_option maxRecDepth 100000 in
theorem ct_L_truncate {l : Launch} (hl : l.stackTraces = false) {B : Bt} {a0 : Nat} {x1 : Int32} {a2 : Nat} {w : MW} {r : Int32 × MW} (h : f_L_truncate a0 x1 a2 w = some r) : hz_MetW l B 358 yL_truncate cL_truncate 4 (some .int) [(0, 9, 12, 19)] 9 1 6 [.ref (B.1 + a0), .int x1, .ref (B.1 + a2)] w (some (.int r.1)) r.2 := by
  refine hz_ofJW (rv := (fun r : Int32 × MW => some (.int r.1))) (wo := (fun r : Int32 × MW => r.2)) (own := RL) hl (by decide) rfl (Nat.le_of_ble_eq_true rfl) rfl ?_ h
  intro p e s m args below meth c
  unfold f_L_truncate
  refine hz_gdr (fun ga0 => ?_)
  refine hz_gdr (fun ga2 => ?_)
  refine hz_aload_n (pc' := 1) (j := 2) dL_truncate_0 rfl rfl rfl ?_
  refine hz_iconst (pc' := 2) (v := 0) dL_truncate_1 rfl (by decide) ?_
  refine hz_aload_n (pc' := 3) (j := 0) dL_truncate_2 rfl rfl rfl ?_
  refine hz_iload_n (pc' := 4) (j := 1) dL_truncate_3 rfl rfl rfl ?_
  refine hz_tVi (pc' := 7) (av := [.int x1]) (rest := [.int 0, .ref (B.1 + a2)]) vl_L_15 (fun v w' h => ct_X9_truncate hl h) ga0 rfl rfl (Nat.le_of_ble_eq_true rfl) (by decide) (by decide) dL_truncate_4 rfl (fun v1 w2 => ?_) (fun E4 w5 => ?_)
  · refine hz_i2l (pc' := 8) dL_truncate_7 rfl ?_
    refine hz_last (pc' := 9) ga2 rfl dL_truncate_8 rfl (fun w3 => ?_)
    refine hz_goto (tgt := 15) dL_truncate_9 (by decide) ?_
    refine hz_iconst (pc' := 16) (v := 0) dL_truncate_15 rfl (by decide) ?_
    exact hz_reti dL_truncate_16 rfl (by decide)
  · refine hz_xif (fun h7 => ?_) (fun _ => ?_)
    · subst h7
      refine hz_xcatch [] ⟨0, 9, 12, 19⟩ [] rfl (fun z hz => nomatch hz) (by decide) (by decide) hq_645 (List.mem_of_getElem? (i := 7) (by decide +kernel)) (fun q6 => ?_)
      refine hz_astore_n (pc' := 13) (L' := [(3, .ref q6), (0, .ref (B.1 + a0)), (1, .int x1), (2, .ref (B.1 + a2))]) dL_truncate_12 rfl rfl (by decide) rfl ?_
      refine hz_iconst (pc' := 14) (v := 1) dL_truncate_13 rfl (by decide) ?_
      exact hz_reti dL_truncate_14 rfl (by decide)
    exact hz_xno
def f_L_addJob (a0 : Nat) (x1 : Int32) (x2 : Int32) (x3 : Int32) (x4 : Int32) (x5 : Int32) (x6 : Int32) (a7 : Nat) (w : MW) : Option (Int32 × MW) :=
  hz_gd (hz_g 358 a0 10) (hz_gd (hz_g 358 a7 23) (hz_bt (f_X9_addJob a0 x1 x2 x3 x4 x5 x6 w) (fun v1 w2 => hz_let (hz_po w2 (Int32.toInt64 v1)) (fun w3 => some (0, w3))) (fun E4 w5 => (if E4 = "java/lang/IllegalStateException" then some (1, w5) else (if E4 = "java/lang/IllegalArgumentException" then some (2, w5) else none)))))
set_option maxHeartbeats 4000000 in
set_option maxRecDepth 100000 in
theorem ct_L_addJob {l : Launch} (hl : l.stackTraces = false) {B : Bt} {a0 : Nat} {x1 : Int32} {x2 : Int32} {x3 : Int32} {x4 : Int32} {x5 : Int32} {x6 : Int32} {a7 : Nat} {w : MW} {r : Int32 × MW} (h : f_L_addJob a0 x1 x2 x3 x4 x5 x6 a7 w = some r) : hz_MetW l B 358 yL_addJob cL_addJob 9 (some .int) [(0, 18, 21, 13), (0, 18, 25, 19)] 10 7 42 [.ref (B.1 + a0), .int x1, .int x2, .int x3, .int x4, .int x5, .int x6, .ref (B.1 + a7)] w (some (.int r.1)) r.2 := by
  refine hz_ofJW (rv := (fun r : Int32 × MW => some (.int r.1))) (wo := (fun r : Int32 × MW => r.2)) (own := RL) hl (by decide) rfl (Nat.le_of_ble_eq_true rfl) rfl ?_ h
  intro p e s m args below meth c
  unfold f_L_addJob
  refine hz_gdr (fun ga0 => ?_)
  refine hz_gdr (fun ga7 => ?_)
  refine hz_aload (pc' := 2) (j := 7) dL_addJob_0 rfl rfl ?_
  refine hz_iconst (pc' := 3) (v := 0) dL_addJob_2 rfl (by decide) ?_
  refine hz_aload_n (pc' := 4) (j := 0) dL_addJob_3 rfl rfl rfl ?_
  refine hz_iload_n (pc' := 5) (j := 1) dL_addJob_4 rfl rfl rfl ?_
  refine hz_iload_n (pc' := 6) (j := 2) dL_addJob_5 rfl rfl rfl ?_
  refine hz_iload_n (pc' := 7) (j := 3) dL_addJob_6 rfl rfl rfl ?_
  refine hz_iload (pc' := 9) (j := 4) dL_addJob_7 rfl rfl ?_
  refine hz_iload (pc' := 11) (j := 5) dL_addJob_9 rfl rfl ?_
  refine hz_iload (pc' := 13) (j := 6) dL_addJob_11 rfl rfl ?_
  refine hz_tVi (pc' := 16) (av := [.int x1, .int x2, .int x3, .int x4, .int x5, .int x6]) (rest := [.int 0, .ref (B.1 + a7)]) vl_L_21 (fun v w' h => ct_X9_addJob hl h) ga0 rfl rfl (Nat.le_of_ble_eq_true rfl) (by decide) (by decide) dL_addJob_13 rfl (fun v1 w2 => ?_) (fun E4 w5 => ?_)
  · refine hz_i2l (pc' := 17) dL_addJob_16 rfl ?_
    refine hz_last (pc' := 18) ga7 rfl dL_addJob_17 rfl (fun w3 => ?_)
    refine hz_goto (tgt := 29) dL_addJob_18 (by decide) ?_
    refine hz_iconst (pc' := 30) (v := 0) dL_addJob_29 rfl (by decide) ?_
    exact hz_reti dL_addJob_30 rfl (by decide)
  · refine hz_xif (fun h9 => ?_) (fun _ => ?_)
    · subst h9
      refine hz_xcatch [] ⟨0, 18, 21, 13⟩ [⟨0, 18, 25, 19⟩] rfl (fun z hz => nomatch hz) (by decide) (by decide) hq_565 (List.mem_of_getElem? (i := 0) (by decide +kernel)) (fun q8 => ?_)
      refine hz_astore (pc' := 23) (L' := [(8, .ref q8), (0, .ref (B.1 + a0)), (1, .int x1), (2, .int x2), (3, .int x3), (4, .int x4), (5, .int x5), (6, .int x6), (7, .ref (B.1 + a7))]) dL_addJob_21 rfl (by decide) rfl ?_
      refine hz_iconst (pc' := 24) (v := 1) dL_addJob_23 rfl (by decide) ?_
      exact hz_reti dL_addJob_24 rfl (by decide)
    refine hz_xif (fun h7 => ?_) (fun _ => ?_)
    · subst h7
      refine hz_xcatch [⟨0, 18, 21, 13⟩] ⟨0, 18, 25, 19⟩ [] rfl (fun z hz => by rcases List.mem_singleton.mp hz with rfl; exact ⟨by decide, "java/lang/IllegalStateException", hq_565, List.mem_of_getElem? (i := 0) rfl⟩) (by decide) (by decide) hq_645 (List.mem_of_getElem? (i := 7) (by decide +kernel)) (fun q6 => ?_)
      refine hz_astore (pc' := 27) (L' := [(8, .ref q6), (0, .ref (B.1 + a0)), (1, .int x1), (2, .int x2), (3, .int x3), (4, .int x4), (5, .int x5), (6, .int x6), (7, .ref (B.1 + a7))]) dL_addJob_25 rfl (by decide) rfl ?_
      refine hz_iconst (pc' := 28) (v := 2) dL_addJob_27 rfl (by decide) ?_
      exact hz_reti dL_addJob_28 rfl (by decide)
    exact hz_xno
def f_L_cancelJob (a0 : Nat) (x1 : Int32) (a2 : Nat) (w : MW) : Option (Int32 × MW) :=
  hz_gd (hz_g 358 a0 10) (hz_gd (hz_g 358 a2 23) (hz_bt (f_X9_cancelJob a0 x1 w) (fun v1 w2 => hz_let (hz_po w2 (Int32.toInt64 v1)) (fun w3 => some (0, w3))) (fun E4 w5 => (if E4 = "java/lang/IllegalStateException" then some (1, w5) else (if E4 = "java/lang/IllegalArgumentException" then some (2, w5) else none)))))
set_option maxHeartbeats 4000000 in
set_option maxRecDepth 100000 in
theorem ct_L_cancelJob {l : Launch} (hl : l.stackTraces = false) {B : Bt} {a0 : Nat} {x1 : Int32} {a2 : Nat} {w : MW} {r : Int32 × MW} (h : f_L_cancelJob a0 x1 a2 w = some r) : hz_MetW l B 358 yL_cancelJob cL_cancelJob 4 (some .int) [(0, 9, 12, 13), (0, 9, 15, 19)] 10 2 12 [.ref (B.1 + a0), .int x1, .ref (B.1 + a2)] w (some (.int r.1)) r.2 := by
  refine hz_ofJW (rv := (fun r : Int32 × MW => some (.int r.1))) (wo := (fun r : Int32 × MW => r.2)) (own := RL) hl (by decide) rfl (Nat.le_of_ble_eq_true rfl) rfl ?_ h
  intro p e s m args below meth c
  unfold f_L_cancelJob
  refine hz_gdr (fun ga0 => ?_)
  refine hz_gdr (fun ga2 => ?_)
  refine hz_aload_n (pc' := 1) (j := 2) dL_cancelJob_0 rfl rfl rfl ?_
  refine hz_iconst (pc' := 2) (v := 0) dL_cancelJob_1 rfl (by decide) ?_
  refine hz_aload_n (pc' := 3) (j := 0) dL_cancelJob_2 rfl rfl rfl ?_
  refine hz_iload_n (pc' := 4) (j := 1) dL_cancelJob_3 rfl rfl rfl ?_
  refine hz_tVi (pc' := 7) (av := [.int x1]) (rest := [.int 0, .ref (B.1 + a2)]) vl_L_25 (fun v w' h => ct_X9_cancelJob hl h) ga0 rfl rfl (Nat.le_of_ble_eq_true rfl) (by decide) (by decide) dL_cancelJob_4 rfl (fun v1 w2 => ?_) (fun E4 w5 => ?_)
  · refine hz_i2l (pc' := 8) dL_cancelJob_7 rfl ?_
    refine hz_last (pc' := 9) ga2 rfl dL_cancelJob_8 rfl (fun w3 => ?_)
    refine hz_goto (tgt := 18) dL_cancelJob_9 (by decide) ?_
    refine hz_iconst (pc' := 19) (v := 0) dL_cancelJob_18 rfl (by decide) ?_
    exact hz_reti dL_cancelJob_19 rfl (by decide)
  · refine hz_xif (fun h9 => ?_) (fun _ => ?_)
    · subst h9
      refine hz_xcatch [] ⟨0, 9, 12, 13⟩ [⟨0, 9, 15, 19⟩] rfl (fun z hz => nomatch hz) (by decide) (by decide) hq_565 (List.mem_of_getElem? (i := 0) (by decide +kernel)) (fun q8 => ?_)
      refine hz_astore_n (pc' := 13) (L' := [(3, .ref q8), (0, .ref (B.1 + a0)), (1, .int x1), (2, .ref (B.1 + a2))]) dL_cancelJob_12 rfl rfl (by decide) rfl ?_
      refine hz_iconst (pc' := 14) (v := 1) dL_cancelJob_13 rfl (by decide) ?_
      exact hz_reti dL_cancelJob_14 rfl (by decide)
    refine hz_xif (fun h7 => ?_) (fun _ => ?_)
    · subst h7
      refine hz_xcatch [⟨0, 9, 12, 13⟩] ⟨0, 9, 15, 19⟩ [] rfl (fun z hz => by rcases List.mem_singleton.mp hz with rfl; exact ⟨by decide, "java/lang/IllegalStateException", hq_565, List.mem_of_getElem? (i := 0) rfl⟩) (by decide) (by decide) hq_645 (List.mem_of_getElem? (i := 7) (by decide +kernel)) (fun q6 => ?_)
      refine hz_astore_n (pc' := 16) (L' := [(3, .ref q6), (0, .ref (B.1 + a0)), (1, .int x1), (2, .ref (B.1 + a2))]) dL_cancelJob_15 rfl rfl (by decide) rfl ?_
      refine hz_iconst (pc' := 17) (v := 2) dL_cancelJob_16 rfl (by decide) ?_
      exact hz_reti dL_cancelJob_17 rfl (by decide)
    exact hz_xno
def f_L_setPolicy (a0 : Nat) (x1 : Int32) (x2 : Int32) (a3 : Nat) (w : MW) : Option (Int32 × MW) :=
  hz_gd (hz_g 358 a0 10) (hz_gd (hz_g 358 a3 23) (hz_bt (f_X9_setPolicy a0 x1 x2 w) (fun v1 w2 => hz_let (hz_po w2 (Int32.toInt64 v1)) (fun w3 => some (0, w3))) (fun E4 w5 => (if E4 = "java/lang/IllegalStateException" then some (1, w5) else (if E4 = "java/lang/IllegalArgumentException" then some (2, w5) else none)))))
set_option maxHeartbeats 4000000 in
set_option maxRecDepth 100000 in
theorem ct_L_setPolicy {l : Launch} (hl : l.stackTraces = false) {B : Bt} {a0 : Nat} {x1 : Int32} {x2 : Int32} {a3 : Nat} {w : MW} {r : Int32 × MW} (h : f_L_setPolicy a0 x1 x2 a3 w = some r) : hz_MetW l B 358 yL_setPolicy cL_setPolicy 5 (some .int) [(0, 10, 13, 13), (0, 10, 17, 19)] 10 3 18 [.ref (B.1 + a0), .int x1, .int x2, .ref (B.1 + a3)] w (some (.int r.1)) r.2 := by
  refine hz_ofJW (rv := (fun r : Int32 × MW => some (.int r.1))) (wo := (fun r : Int32 × MW => r.2)) (own := RL) hl (by decide) rfl (Nat.le_of_ble_eq_true rfl) rfl ?_ h
  intro p e s m args below meth c
  unfold f_L_setPolicy
  refine hz_gdr (fun ga0 => ?_)
  refine hz_gdr (fun ga3 => ?_)
  refine hz_aload_n (pc' := 1) (j := 3) dL_setPolicy_0 rfl rfl rfl ?_
  refine hz_iconst (pc' := 2) (v := 0) dL_setPolicy_1 rfl (by decide) ?_
  refine hz_aload_n (pc' := 3) (j := 0) dL_setPolicy_2 rfl rfl rfl ?_
  refine hz_iload_n (pc' := 4) (j := 1) dL_setPolicy_3 rfl rfl rfl ?_
  refine hz_iload_n (pc' := 5) (j := 2) dL_setPolicy_4 rfl rfl rfl ?_
  refine hz_tVi (pc' := 8) (av := [.int x1, .int x2]) (rest := [.int 0, .ref (B.1 + a3)]) vl_L_28 (fun v w' h => ct_X9_setPolicy hl h) ga0 rfl rfl (Nat.le_of_ble_eq_true rfl) (by decide) (by decide) dL_setPolicy_5 rfl (fun v1 w2 => ?_) (fun E4 w5 => ?_)
  · refine hz_i2l (pc' := 9) dL_setPolicy_8 rfl ?_
    refine hz_last (pc' := 10) ga3 rfl dL_setPolicy_9 rfl (fun w3 => ?_)
    refine hz_goto (tgt := 21) dL_setPolicy_10 (by decide) ?_
    refine hz_iconst (pc' := 22) (v := 0) dL_setPolicy_21 rfl (by decide) ?_
    exact hz_reti dL_setPolicy_22 rfl (by decide)
  · refine hz_xif (fun h9 => ?_) (fun _ => ?_)
    · subst h9
      refine hz_xcatch [] ⟨0, 10, 13, 13⟩ [⟨0, 10, 17, 19⟩] rfl (fun z hz => nomatch hz) (by decide) (by decide) hq_565 (List.mem_of_getElem? (i := 0) (by decide +kernel)) (fun q8 => ?_)
      refine hz_astore (pc' := 15) (L' := [(4, .ref q8), (0, .ref (B.1 + a0)), (1, .int x1), (2, .int x2), (3, .ref (B.1 + a3))]) dL_setPolicy_13 rfl (by decide) rfl ?_
      refine hz_iconst (pc' := 16) (v := 1) dL_setPolicy_15 rfl (by decide) ?_
      exact hz_reti dL_setPolicy_16 rfl (by decide)
    refine hz_xif (fun h7 => ?_) (fun _ => ?_)
    · subst h7
      refine hz_xcatch [⟨0, 10, 13, 13⟩] ⟨0, 10, 17, 19⟩ [] rfl (fun z hz => by rcases List.mem_singleton.mp hz with rfl; exact ⟨by decide, "java/lang/IllegalStateException", hq_565, List.mem_of_getElem? (i := 0) rfl⟩) (by decide) (by decide) hq_645 (List.mem_of_getElem? (i := 7) (by decide +kernel)) (fun q6 => ?_)
      refine hz_astore (pc' := 19) (L' := [(4, .ref q6), (0, .ref (B.1 + a0)), (1, .int x1), (2, .int x2), (3, .ref (B.1 + a3))]) dL_setPolicy_17 rfl (by decide) rfl ?_
      refine hz_iconst (pc' := 20) (v := 2) dL_setPolicy_19 rfl (by decide) ?_
      exact hz_reti dL_setPolicy_20 rfl (by decide)
    exact hz_xno
def f_L_setLimit (a0 : Nat) (x1 : Int32) (x2 : Int32) (a3 : Nat) (w : MW) : Option (Int32 × MW) :=
  hz_gd (hz_g 358 a0 10) (hz_gd (hz_g 358 a3 23) (hz_bt (f_X9_setLimit a0 x1 x2 w) (fun v1 w2 => hz_let (hz_po w2 (Int32.toInt64 v1)) (fun w3 => some (0, w3))) (fun E4 w5 => (if E4 = "java/lang/IllegalStateException" then some (1, w5) else (if E4 = "java/lang/IllegalArgumentException" then some (2, w5) else none)))))
set_option maxHeartbeats 4000000 in
set_option maxRecDepth 100000 in
theorem ct_L_setLimit {l : Launch} (hl : l.stackTraces = false) {B : Bt} {a0 : Nat} {x1 : Int32} {x2 : Int32} {a3 : Nat} {w : MW} {r : Int32 × MW} (h : f_L_setLimit a0 x1 x2 a3 w = some r) : hz_MetW l B 358 yL_setLimit cL_setLimit 5 (some .int) [(0, 10, 13, 13), (0, 10, 17, 19)] 10 3 18 [.ref (B.1 + a0), .int x1, .int x2, .ref (B.1 + a3)] w (some (.int r.1)) r.2 := by
  refine hz_ofJW (rv := (fun r : Int32 × MW => some (.int r.1))) (wo := (fun r : Int32 × MW => r.2)) (own := RL) hl (by decide) rfl (Nat.le_of_ble_eq_true rfl) rfl ?_ h
  intro p e s m args below meth c
  unfold f_L_setLimit
  refine hz_gdr (fun ga0 => ?_)
  refine hz_gdr (fun ga3 => ?_)
  refine hz_aload_n (pc' := 1) (j := 3) dL_setLimit_0 rfl rfl rfl ?_
  refine hz_iconst (pc' := 2) (v := 0) dL_setLimit_1 rfl (by decide) ?_
  refine hz_aload_n (pc' := 3) (j := 0) dL_setLimit_2 rfl rfl rfl ?_
  refine hz_iload_n (pc' := 4) (j := 1) dL_setLimit_3 rfl rfl rfl ?_
  refine hz_iload_n (pc' := 5) (j := 2) dL_setLimit_4 rfl rfl rfl ?_
  refine hz_tVi (pc' := 8) (av := [.int x1, .int x2]) (rest := [.int 0, .ref (B.1 + a3)]) vl_L_32 (fun v w' h => ct_X9_setLimit hl h) ga0 rfl rfl (Nat.le_of_ble_eq_true rfl) (by decide) (by decide) dL_setLimit_5 rfl (fun v1 w2 => ?_) (fun E4 w5 => ?_)
  · refine hz_i2l (pc' := 9) dL_setLimit_8 rfl ?_
    refine hz_last (pc' := 10) ga3 rfl dL_setLimit_9 rfl (fun w3 => ?_)
    refine hz_goto (tgt := 21) dL_setLimit_10 (by decide) ?_
    refine hz_iconst (pc' := 22) (v := 0) dL_setLimit_21 rfl (by decide) ?_
    exact hz_reti dL_setLimit_22 rfl (by decide)
  · refine hz_xif (fun h9 => ?_) (fun _ => ?_)
    · subst h9
      refine hz_xcatch [] ⟨0, 10, 13, 13⟩ [⟨0, 10, 17, 19⟩] rfl (fun z hz => nomatch hz) (by decide) (by decide) hq_565 (List.mem_of_getElem? (i := 0) (by decide +kernel)) (fun q8 => ?_)
      refine hz_astore (pc' := 15) (L' := [(4, .ref q8), (0, .ref (B.1 + a0)), (1, .int x1), (2, .int x2), (3, .ref (B.1 + a3))]) dL_setLimit_13 rfl (by decide) rfl ?_
      refine hz_iconst (pc' := 16) (v := 1) dL_setLimit_15 rfl (by decide) ?_
      exact hz_reti dL_setLimit_16 rfl (by decide)
    refine hz_xif (fun h7 => ?_) (fun _ => ?_)
    · subst h7
      refine hz_xcatch [⟨0, 10, 13, 13⟩] ⟨0, 10, 17, 19⟩ [] rfl (fun z hz => by rcases List.mem_singleton.mp hz with rfl; exact ⟨by decide, "java/lang/IllegalStateException", hq_565, List.mem_of_getElem? (i := 0) rfl⟩) (by decide) (by decide) hq_645 (List.mem_of_getElem? (i := 7) (by decide +kernel)) (fun q6 => ?_)
      refine hz_astore (pc' := 19) (L' := [(4, .ref q6), (0, .ref (B.1 + a0)), (1, .int x1), (2, .int x2), (3, .ref (B.1 + a3))]) dL_setLimit_17 rfl (by decide) rfl ?_
      refine hz_iconst (pc' := 20) (v := 2) dL_setLimit_19 rfl (by decide) ?_
      exact hz_reti dL_setLimit_20 rfl (by decide)
    exact hz_xno
def f_L_setAmbient (a0 : Nat) (x1 : Int32) (a2 : Nat) (w : MW) : Option (Int32 × MW) :=
  hz_gd (hz_g 358 a0 10) (hz_gd (hz_g 358 a2 23) (hz_bt (f_X9_setAmbient a0 x1 w) (fun v1 w2 => hz_let (hz_po w2 (Int32.toInt64 v1)) (fun w3 => some (0, w3))) (fun E4 w5 => (if E4 = "java/lang/IllegalStateException" then some (1, w5) else (if E4 = "java/lang/IllegalArgumentException" then some (2, w5) else none)))))
set_option maxHeartbeats 4000000 in
set_option maxRecDepth 100000 in
theorem ct_L_setAmbient {l : Launch} (hl : l.stackTraces = false) {B : Bt} {a0 : Nat} {x1 : Int32} {a2 : Nat} {w : MW} {r : Int32 × MW} (h : f_L_setAmbient a0 x1 a2 w = some r) : hz_MetW l B 358 yL_setAmbient cL_setAmbient 4 (some .int) [(0, 9, 12, 13), (0, 9, 15, 19)] 9 2 12 [.ref (B.1 + a0), .int x1, .ref (B.1 + a2)] w (some (.int r.1)) r.2 := by
  refine hz_ofJW (rv := (fun r : Int32 × MW => some (.int r.1))) (wo := (fun r : Int32 × MW => r.2)) (own := RL) hl (by decide) rfl (Nat.le_of_ble_eq_true rfl) rfl ?_ h
  intro p e s m args below meth c
  unfold f_L_setAmbient
  refine hz_gdr (fun ga0 => ?_)
  refine hz_gdr (fun ga2 => ?_)
  refine hz_aload_n (pc' := 1) (j := 2) dL_setAmbient_0 rfl rfl rfl ?_
  refine hz_iconst (pc' := 2) (v := 0) dL_setAmbient_1 rfl (by decide) ?_
  refine hz_aload_n (pc' := 3) (j := 0) dL_setAmbient_2 rfl rfl rfl ?_
  refine hz_iload_n (pc' := 4) (j := 1) dL_setAmbient_3 rfl rfl rfl ?_
  refine hz_tVi (pc' := 7) (av := [.int x1]) (rest := [.int 0, .ref (B.1 + a2)]) vl_L_35 (fun v w' h => ct_X9_setAmbient hl h) ga0 rfl rfl (Nat.le_of_ble_eq_true rfl) (by decide) (by decide) dL_setAmbient_4 rfl (fun v1 w2 => ?_) (fun E4 w5 => ?_)
  · refine hz_i2l (pc' := 8) dL_setAmbient_7 rfl ?_
    refine hz_last (pc' := 9) ga2 rfl dL_setAmbient_8 rfl (fun w3 => ?_)
    refine hz_goto (tgt := 18) dL_setAmbient_9 (by decide) ?_
    refine hz_iconst (pc' := 19) (v := 0) dL_setAmbient_18 rfl (by decide) ?_
    exact hz_reti dL_setAmbient_19 rfl (by decide)
  · refine hz_xif (fun h9 => ?_) (fun _ => ?_)
    · subst h9
      refine hz_xcatch [] ⟨0, 9, 12, 13⟩ [⟨0, 9, 15, 19⟩] rfl (fun z hz => nomatch hz) (by decide) (by decide) hq_565 (List.mem_of_getElem? (i := 0) (by decide +kernel)) (fun q8 => ?_)
      refine hz_astore_n (pc' := 13) (L' := [(3, .ref q8), (0, .ref (B.1 + a0)), (1, .int x1), (2, .ref (B.1 + a2))]) dL_setAmbient_12 rfl rfl (by decide) rfl ?_
      refine hz_iconst (pc' := 14) (v := 1) dL_setAmbient_13 rfl (by decide) ?_
      exact hz_reti dL_setAmbient_14 rfl (by decide)
    refine hz_xif (fun h7 => ?_) (fun _ => ?_)
    · subst h7
      refine hz_xcatch [⟨0, 9, 12, 13⟩] ⟨0, 9, 15, 19⟩ [] rfl (fun z hz => by rcases List.mem_singleton.mp hz with rfl; exact ⟨by decide, "java/lang/IllegalStateException", hq_565, List.mem_of_getElem? (i := 0) rfl⟩) (by decide) (by decide) hq_645 (List.mem_of_getElem? (i := 7) (by decide +kernel)) (fun q6 => ?_)
      refine hz_astore_n (pc' := 16) (L' := [(3, .ref q6), (0, .ref (B.1 + a0)), (1, .int x1), (2, .ref (B.1 + a2))]) dL_setAmbient_15 rfl rfl (by decide) rfl ?_
      refine hz_iconst (pc' := 17) (v := 2) dL_setAmbient_16 rfl (by decide) ?_
      exact hz_reti dL_setAmbient_17 rfl (by decide)
    exact hz_xno
def f_L_tick (a0 : Nat) (x1 : Int32) (a2 : Nat) (w : MW) : Option (Int32 × MW) :=
  hz_gd (hz_g 358 a0 10) (hz_gd (hz_g 358 a2 23) (hz_bt (f_X9_tick a0 x1 w) (fun v1 w2 => hz_let (hz_po w2 (Int32.toInt64 v1)) (fun w3 => some (0, w3))) (fun E4 w5 => (if E4 = "java/lang/IllegalStateException" then some (1, w5) else (if E4 = "java/lang/IllegalArgumentException" then some (2, w5) else none)))))
set_option maxHeartbeats 4000000 in
set_option maxRecDepth 100000 in
theorem ct_L_tick {l : Launch} (hl : l.stackTraces = false) {B : Bt} {a0 : Nat} {x1 : Int32} {a2 : Nat} {w : MW} {r : Int32 × MW} (h : f_L_tick a0 x1 a2 w = some r) : hz_MetW l B 358 yL_tick cL_tick 4 (some .int) [(0, 9, 12, 13), (0, 9, 15, 19)] 9 2 12 [.ref (B.1 + a0), .int x1, .ref (B.1 + a2)] w (some (.int r.1)) r.2 := by
  refine hz_ofJW (rv := (fun r : Int32 × MW => some (.int r.1))) (wo := (fun r : Int32 × MW => r.2)) (own := RL) hl (by decide) rfl (Nat.le_of_ble_eq_true rfl) rfl ?_ h
  intro p e s m args below meth c
  unfold f_L_tick
  refine hz_gdr (fun ga0 => ?_)
  refine hz_gdr (fun ga2 => ?_)
  refine hz_aload_n (pc' := 1) (j := 2) dL_tick_0 rfl rfl rfl ?_
  refine hz_iconst (pc' := 2) (v := 0) dL_tick_1 rfl (by decide) ?_
  refine hz_aload_n (pc' := 3) (j := 0) dL_tick_2 rfl rfl rfl ?_
  refine hz_iload_n (pc' := 4) (j := 1) dL_tick_3 rfl rfl rfl ?_
  refine hz_tVi (pc' := 7) (av := [.int x1]) (rest := [.int 0, .ref (B.1 + a2)]) vl_L_38 (fun v w' h => ct_X9_tick hl h) ga0 rfl rfl (Nat.le_of_ble_eq_true rfl) (by decide) (by decide) dL_tick_4 rfl (fun v1 w2 => ?_) (fun E4 w5 => ?_)
  · refine hz_i2l (pc' := 8) dL_tick_7 rfl ?_
    refine hz_last (pc' := 9) ga2 rfl dL_tick_8 rfl (fun w3 => ?_)
    refine hz_goto (tgt := 18) dL_tick_9 (by decide) ?_
    refine hz_iconst (pc' := 19) (v := 0) dL_tick_18 rfl (by decide) ?_
    exact hz_reti dL_tick_19 rfl (by decide)
  · refine hz_xif (fun h9 => ?_) (fun _ => ?_)
    · subst h9
      refine hz_xcatch [] ⟨0, 9, 12, 13⟩ [⟨0, 9, 15, 19⟩] rfl (fun z hz => nomatch hz) (by decide) (by decide) hq_565 (List.mem_of_getElem? (i := 0) (by decide +kernel)) (fun q8 => ?_)
      refine hz_astore_n (pc' := 13) (L' := [(3, .ref q8), (0, .ref (B.1 + a0)), (1, .int x1), (2, .ref (B.1 + a2))]) dL_tick_12 rfl rfl (by decide) rfl ?_
      refine hz_iconst (pc' := 14) (v := 1) dL_tick_13 rfl (by decide) ?_
      exact hz_reti dL_tick_14 rfl (by decide)
    refine hz_xif (fun h7 => ?_) (fun _ => ?_)
    · subst h7
      refine hz_xcatch [⟨0, 9, 12, 13⟩] ⟨0, 9, 15, 19⟩ [] rfl (fun z hz => by rcases List.mem_singleton.mp hz with rfl; exact ⟨by decide, "java/lang/IllegalStateException", hq_565, List.mem_of_getElem? (i := 0) rfl⟩) (by decide) (by decide) hq_645 (List.mem_of_getElem? (i := 7) (by decide +kernel)) (fun q6 => ?_)
      refine hz_astore_n (pc' := 16) (L' := [(3, .ref q6), (0, .ref (B.1 + a0)), (1, .int x1), (2, .ref (B.1 + a2))]) dL_tick_15 rfl rfl (by decide) rfl ?_
      refine hz_iconst (pc' := 17) (v := 2) dL_tick_16 rfl (by decide) ?_
      exact hz_reti dL_tick_17 rfl (by decide)
    exact hz_xno
def f_L_clock (a0 : Nat) (a1 : Nat) (w : MW) : Option (Int32 × MW) :=
  hz_gd (hz_g 358 a0 10) (hz_gd (hz_g 358 a1 23) (hz_bt (f_X9_clock a0 w) (fun v1 w2 => hz_let (hz_po w2 (Int32.toInt64 v1)) (fun w3 => some (0, w3))) (fun E4 w5 => (if E4 = "java/lang/IllegalStateException" then some (1, w5) else none))))
set_option maxHeartbeats 4000000 in
set_option maxRecDepth 100000 in
theorem ct_L_clock {l : Launch} (hl : l.stackTraces = false) {B : Bt} {a0 : Nat} {a1 : Nat} {w : MW} {r : Int32 × MW} (h : f_L_clock a0 a1 w = some r) : hz_MetW l B 358 yL_clock cL_clock 3 (some .int) [(0, 8, 11, 13)] 9 1 6 [.ref (B.1 + a0), .ref (B.1 + a1)] w (some (.int r.1)) r.2 := by
  refine hz_ofJW (rv := (fun r : Int32 × MW => some (.int r.1))) (wo := (fun r : Int32 × MW => r.2)) (own := RL) hl (by decide) rfl (Nat.le_of_ble_eq_true rfl) rfl ?_ h
  intro p e s m args below meth c
  unfold f_L_clock
  refine hz_gdr (fun ga0 => ?_)
  refine hz_gdr (fun ga1 => ?_)
  refine hz_aload_n (pc' := 1) (j := 1) dL_clock_0 rfl rfl rfl ?_
  refine hz_iconst (pc' := 2) (v := 0) dL_clock_1 rfl (by decide) ?_
  refine hz_aload_n (pc' := 3) (j := 0) dL_clock_2 rfl rfl rfl ?_
  refine hz_tVi (pc' := 6) (av := []) (rest := [.int 0, .ref (B.1 + a1)]) vl_L_41 (fun v w' h => ct_X9_clock hl h) ga0 rfl rfl (Nat.le_of_ble_eq_true rfl) (by decide) (by decide) dL_clock_3 rfl (fun v1 w2 => ?_) (fun E4 w5 => ?_)
  · refine hz_i2l (pc' := 7) dL_clock_6 rfl ?_
    refine hz_last (pc' := 8) ga1 rfl dL_clock_7 rfl (fun w3 => ?_)
    refine hz_goto (tgt := 14) dL_clock_8 (by decide) ?_
    refine hz_iconst (pc' := 15) (v := 0) dL_clock_14 rfl (by decide) ?_
    exact hz_reti dL_clock_15 rfl (by decide)
  · refine hz_xif (fun h7 => ?_) (fun _ => ?_)
    · subst h7
      refine hz_xcatch [] ⟨0, 8, 11, 13⟩ [] rfl (fun z hz => nomatch hz) (by decide) (by decide) hq_565 (List.mem_of_getElem? (i := 0) (by decide +kernel)) (fun q6 => ?_)
      refine hz_astore_n (pc' := 12) (L' := [(2, .ref q6), (0, .ref (B.1 + a0)), (1, .ref (B.1 + a1))]) dL_clock_11 rfl rfl (by decide) rfl ?_
      refine hz_iconst (pc' := 13) (v := 1) dL_clock_12 rfl (by decide) ?_
      exact hz_reti dL_clock_13 rfl (by decide)
    exact hz_xno
def f_L_temperature (a0 : Nat) (x1 : Int32) (a2 : Nat) (w : MW) : Option (Int32 × MW) :=
  hz_gd (hz_g 358 a0 10) (hz_gd (hz_g 358 a2 23) (hz_bt (f_X9_temperature a0 x1 w) (fun v1 w2 => hz_let (hz_po w2 (Int32.toInt64 v1)) (fun w3 => some (0, w3))) (fun E4 w5 => (if E4 = "java/lang/IllegalStateException" then some (1, w5) else (if E4 = "java/lang/IllegalArgumentException" then some (2, w5) else none)))))
set_option maxHeartbeats 4000000 in
set_option maxRecDepth 100000 in
theorem ct_L_temperature {l : Launch} (hl : l.stackTraces = false) {B : Bt} {a0 : Nat} {x1 : Int32} {a2 : Nat} {w : MW} {r : Int32 × MW} (h : f_L_temperature a0 x1 a2 w = some r) : hz_MetW l B 358 yL_temperature cL_temperature 4 (some .int) [(0, 9, 12, 13), (0, 9, 15, 19)] 10 2 12 [.ref (B.1 + a0), .int x1, .ref (B.1 + a2)] w (some (.int r.1)) r.2 := by
  refine hz_ofJW (rv := (fun r : Int32 × MW => some (.int r.1))) (wo := (fun r : Int32 × MW => r.2)) (own := RL) hl (by decide) rfl (Nat.le_of_ble_eq_true rfl) rfl ?_ h
  intro p e s m args below meth c
  unfold f_L_temperature
  refine hz_gdr (fun ga0 => ?_)
  refine hz_gdr (fun ga2 => ?_)
  refine hz_aload_n (pc' := 1) (j := 2) dL_temperature_0 rfl rfl rfl ?_
  refine hz_iconst (pc' := 2) (v := 0) dL_temperature_1 rfl (by decide) ?_
  refine hz_aload_n (pc' := 3) (j := 0) dL_temperature_2 rfl rfl rfl ?_
  refine hz_iload_n (pc' := 4) (j := 1) dL_temperature_3 rfl rfl rfl ?_
  refine hz_tVi (pc' := 7) (av := [.int x1]) (rest := [.int 0, .ref (B.1 + a2)]) vl_L_45 (fun v w' h => ct_X9_temperature hl h) ga0 rfl rfl (Nat.le_of_ble_eq_true rfl) (by decide) (by decide) dL_temperature_4 rfl (fun v1 w2 => ?_) (fun E4 w5 => ?_)
  · refine hz_i2l (pc' := 8) dL_temperature_7 rfl ?_
    refine hz_last (pc' := 9) ga2 rfl dL_temperature_8 rfl (fun w3 => ?_)
    refine hz_goto (tgt := 18) dL_temperature_9 (by decide) ?_
    refine hz_iconst (pc' := 19) (v := 0) dL_temperature_18 rfl (by decide) ?_
    exact hz_reti dL_temperature_19 rfl (by decide)
  · refine hz_xif (fun h9 => ?_) (fun _ => ?_)
    · subst h9
      refine hz_xcatch [] ⟨0, 9, 12, 13⟩ [⟨0, 9, 15, 19⟩] rfl (fun z hz => nomatch hz) (by decide) (by decide) hq_565 (List.mem_of_getElem? (i := 0) (by decide +kernel)) (fun q8 => ?_)
      refine hz_astore_n (pc' := 13) (L' := [(3, .ref q8), (0, .ref (B.1 + a0)), (1, .int x1), (2, .ref (B.1 + a2))]) dL_temperature_12 rfl rfl (by decide) rfl ?_
      refine hz_iconst (pc' := 14) (v := 1) dL_temperature_13 rfl (by decide) ?_
      exact hz_reti dL_temperature_14 rfl (by decide)
    refine hz_xif (fun h7 => ?_) (fun _ => ?_)
    · subst h7
      refine hz_xcatch [⟨0, 9, 12, 13⟩] ⟨0, 9, 15, 19⟩ [] rfl (fun z hz => by rcases List.mem_singleton.mp hz with rfl; exact ⟨by decide, "java/lang/IllegalStateException", hq_565, List.mem_of_getElem? (i := 0) rfl⟩) (by decide) (by decide) hq_645 (List.mem_of_getElem? (i := 7) (by decide +kernel)) (fun q6 => ?_)
      refine hz_astore_n (pc' := 16) (L' := [(3, .ref q6), (0, .ref (B.1 + a0)), (1, .int x1), (2, .ref (B.1 + a2))]) dL_temperature_15 rfl rfl (by decide) rfl ?_
      refine hz_iconst (pc' := 17) (v := 2) dL_temperature_16 rfl (by decide) ?_
      exact hz_reti dL_temperature_17 rfl (by decide)
    exact hz_xno
def f_L_level (a0 : Nat) (x1 : Int32) (a2 : Nat) (w : MW) : Option (Int32 × MW) :=
  hz_gd (hz_g 358 a0 10) (hz_gd (hz_g 358 a2 23) (hz_bt (f_X9_level a0 x1 w) (fun v1 w2 => hz_let (hz_po w2 (Int32.toInt64 v1)) (fun w3 => some (0, w3))) (fun E4 w5 => (if E4 = "java/lang/IllegalStateException" then some (1, w5) else (if E4 = "java/lang/IllegalArgumentException" then some (2, w5) else none)))))
set_option maxHeartbeats 4000000 in
set_option maxRecDepth 100000 in
theorem ct_L_level {l : Launch} (hl : l.stackTraces = false) {B : Bt} {a0 : Nat} {x1 : Int32} {a2 : Nat} {w : MW} {r : Int32 × MW} (h : f_L_level a0 x1 a2 w = some r) : hz_MetW l B 358 yL_level cL_level 4 (some .int) [(0, 9, 12, 13), (0, 9, 15, 19)] 10 2 12 [.ref (B.1 + a0), .int x1, .ref (B.1 + a2)] w (some (.int r.1)) r.2 := by
  refine hz_ofJW (rv := (fun r : Int32 × MW => some (.int r.1))) (wo := (fun r : Int32 × MW => r.2)) (own := RL) hl (by decide) rfl (Nat.le_of_ble_eq_true rfl) rfl ?_ h
  intro p e s m args below meth c
  unfold f_L_level
  refine hz_gdr (fun ga0 => ?_)
  refine hz_gdr (fun ga2 => ?_)
  refine hz_aload_n (pc' := 1) (j := 2) dL_level_0 rfl rfl rfl ?_
  refine hz_iconst (pc' := 2) (v := 0) dL_level_1 rfl (by decide) ?_
  refine hz_aload_n (pc' := 3) (j := 0) dL_level_2 rfl rfl rfl ?_
  refine hz_iload_n (pc' := 4) (j := 1) dL_level_3 rfl rfl rfl ?_
  refine hz_tVi (pc' := 7) (av := [.int x1]) (rest := [.int 0, .ref (B.1 + a2)]) vl_L_48 (fun v w' h => ct_X9_level hl h) ga0 rfl rfl (Nat.le_of_ble_eq_true rfl) (by decide) (by decide) dL_level_4 rfl (fun v1 w2 => ?_) (fun E4 w5 => ?_)
  · refine hz_i2l (pc' := 8) dL_level_7 rfl ?_
    refine hz_last (pc' := 9) ga2 rfl dL_level_8 rfl (fun w3 => ?_)
    refine hz_goto (tgt := 18) dL_level_9 (by decide) ?_
    refine hz_iconst (pc' := 19) (v := 0) dL_level_18 rfl (by decide) ?_
    exact hz_reti dL_level_19 rfl (by decide)
  · refine hz_xif (fun h9 => ?_) (fun _ => ?_)
    · subst h9
      refine hz_xcatch [] ⟨0, 9, 12, 13⟩ [⟨0, 9, 15, 19⟩] rfl (fun z hz => nomatch hz) (by decide) (by decide) hq_565 (List.mem_of_getElem? (i := 0) (by decide +kernel)) (fun q8 => ?_)
      refine hz_astore_n (pc' := 13) (L' := [(3, .ref q8), (0, .ref (B.1 + a0)), (1, .int x1), (2, .ref (B.1 + a2))]) dL_level_12 rfl rfl (by decide) rfl ?_
      refine hz_iconst (pc' := 14) (v := 1) dL_level_13 rfl (by decide) ?_
      exact hz_reti dL_level_14 rfl (by decide)
    refine hz_xif (fun h7 => ?_) (fun _ => ?_)
    · subst h7
      refine hz_xcatch [⟨0, 9, 12, 13⟩] ⟨0, 9, 15, 19⟩ [] rfl (fun z hz => by rcases List.mem_singleton.mp hz with rfl; exact ⟨by decide, "java/lang/IllegalStateException", hq_565, List.mem_of_getElem? (i := 0) rfl⟩) (by decide) (by decide) hq_645 (List.mem_of_getElem? (i := 7) (by decide +kernel)) (fun q6 => ?_)
      refine hz_astore_n (pc' := 16) (L' := [(3, .ref q6), (0, .ref (B.1 + a0)), (1, .int x1), (2, .ref (B.1 + a2))]) dL_level_15 rfl rfl (by decide) rfl ?_
      refine hz_iconst (pc' := 17) (v := 2) dL_level_16 rfl (by decide) ?_
      exact hz_reti dL_level_17 rfl (by decide)
    exact hz_xno
def f_L_energy (a0 : Nat) (x1 : Int32) (a2 : Nat) (w : MW) : Option (Int32 × MW) :=
  hz_gd (hz_g 358 a0 10) (hz_gd (hz_g 358 a2 23) (hz_bt (f_X9_energy a0 x1 w) (fun v1 w2 => hz_let (hz_po w2 (Int32.toInt64 v1)) (fun w3 => some (0, w3))) (fun E4 w5 => (if E4 = "java/lang/IllegalStateException" then some (1, w5) else (if E4 = "java/lang/IllegalArgumentException" then some (2, w5) else none)))))
set_option maxHeartbeats 4000000 in
set_option maxRecDepth 100000 in
theorem ct_L_energy {l : Launch} (hl : l.stackTraces = false) {B : Bt} {a0 : Nat} {x1 : Int32} {a2 : Nat} {w : MW} {r : Int32 × MW} (h : f_L_energy a0 x1 a2 w = some r) : hz_MetW l B 358 yL_energy cL_energy 4 (some .int) [(0, 9, 12, 13), (0, 9, 15, 19)] 10 2 12 [.ref (B.1 + a0), .int x1, .ref (B.1 + a2)] w (some (.int r.1)) r.2 := by
  refine hz_ofJW (rv := (fun r : Int32 × MW => some (.int r.1))) (wo := (fun r : Int32 × MW => r.2)) (own := RL) hl (by decide) rfl (Nat.le_of_ble_eq_true rfl) rfl ?_ h
  intro p e s m args below meth c
  unfold f_L_energy
  refine hz_gdr (fun ga0 => ?_)
  refine hz_gdr (fun ga2 => ?_)
  refine hz_aload_n (pc' := 1) (j := 2) dL_energy_0 rfl rfl rfl ?_
  refine hz_iconst (pc' := 2) (v := 0) dL_energy_1 rfl (by decide) ?_
  refine hz_aload_n (pc' := 3) (j := 0) dL_energy_2 rfl rfl rfl ?_
  refine hz_iload_n (pc' := 4) (j := 1) dL_energy_3 rfl rfl rfl ?_
  refine hz_tVi (pc' := 7) (av := [.int x1]) (rest := [.int 0, .ref (B.1 + a2)]) vl_L_51 (fun v w' h => ct_X9_energy hl h) ga0 rfl rfl (Nat.le_of_ble_eq_true rfl) (by decide) (by decide) dL_energy_4 rfl (fun v1 w2 => ?_) (fun E4 w5 => ?_)
  · refine hz_i2l (pc' := 8) dL_energy_7 rfl ?_
    refine hz_last (pc' := 9) ga2 rfl dL_energy_8 rfl (fun w3 => ?_)
    refine hz_goto (tgt := 18) dL_energy_9 (by decide) ?_
    refine hz_iconst (pc' := 19) (v := 0) dL_energy_18 rfl (by decide) ?_
    exact hz_reti dL_energy_19 rfl (by decide)
  · refine hz_xif (fun h9 => ?_) (fun _ => ?_)
    · subst h9
      refine hz_xcatch [] ⟨0, 9, 12, 13⟩ [⟨0, 9, 15, 19⟩] rfl (fun z hz => nomatch hz) (by decide) (by decide) hq_565 (List.mem_of_getElem? (i := 0) (by decide +kernel)) (fun q8 => ?_)
      refine hz_astore_n (pc' := 13) (L' := [(3, .ref q8), (0, .ref (B.1 + a0)), (1, .int x1), (2, .ref (B.1 + a2))]) dL_energy_12 rfl rfl (by decide) rfl ?_
      refine hz_iconst (pc' := 14) (v := 1) dL_energy_13 rfl (by decide) ?_
      exact hz_reti dL_energy_14 rfl (by decide)
    refine hz_xif (fun h7 => ?_) (fun _ => ?_)
    · subst h7
      refine hz_xcatch [⟨0, 9, 12, 13⟩] ⟨0, 9, 15, 19⟩ [] rfl (fun z hz => by rcases List.mem_singleton.mp hz with rfl; exact ⟨by decide, "java/lang/IllegalStateException", hq_565, List.mem_of_getElem? (i := 0) rfl⟩) (by decide) (by decide) hq_645 (List.mem_of_getElem? (i := 7) (by decide +kernel)) (fun q6 => ?_)
      refine hz_astore_n (pc' := 16) (L' := [(3, .ref q6), (0, .ref (B.1 + a0)), (1, .int x1), (2, .ref (B.1 + a2))]) dL_energy_15 rfl rfl (by decide) rfl ?_
      refine hz_iconst (pc' := 17) (v := 2) dL_energy_16 rfl (by decide) ?_
      exact hz_reti dL_energy_17 rfl (by decide)
    exact hz_xno
def f_L_domainValue (a0 : Nat) (x1 : Int32) (x2 : Int32) (a3 : Nat) (w : MW) : Option (Int32 × MW) :=
  hz_gd (hz_g 358 a0 10) (hz_gd (hz_g 358 a3 23) (hz_bt (f_X9_domainValue a0 x1 x2 w) (fun v1 w2 => hz_let (hz_po w2 (Int32.toInt64 v1)) (fun w3 => some (0, w3))) (fun E4 w5 => (if E4 = "java/lang/IllegalStateException" then some (1, w5) else (if E4 = "java/lang/IllegalArgumentException" then some (2, w5) else none)))))
set_option maxHeartbeats 4000000 in
set_option maxRecDepth 100000 in
theorem ct_L_domainValue {l : Launch} (hl : l.stackTraces = false) {B : Bt} {a0 : Nat} {x1 : Int32} {x2 : Int32} {a3 : Nat} {w : MW} {r : Int32 × MW} (h : f_L_domainValue a0 x1 x2 a3 w = some r) : hz_MetW l B 358 yL_domainValue cL_domainValue 5 (some .int) [(0, 10, 13, 13), (0, 10, 17, 19)] 10 3 18 [.ref (B.1 + a0), .int x1, .int x2, .ref (B.1 + a3)] w (some (.int r.1)) r.2 := by
  refine hz_ofJW (rv := (fun r : Int32 × MW => some (.int r.1))) (wo := (fun r : Int32 × MW => r.2)) (own := RL) hl (by decide) rfl (Nat.le_of_ble_eq_true rfl) rfl ?_ h
  intro p e s m args below meth c
  unfold f_L_domainValue
  refine hz_gdr (fun ga0 => ?_)
  refine hz_gdr (fun ga3 => ?_)
  refine hz_aload_n (pc' := 1) (j := 3) dL_domainValue_0 rfl rfl rfl ?_
  refine hz_iconst (pc' := 2) (v := 0) dL_domainValue_1 rfl (by decide) ?_
  refine hz_aload_n (pc' := 3) (j := 0) dL_domainValue_2 rfl rfl rfl ?_
  refine hz_iload_n (pc' := 4) (j := 1) dL_domainValue_3 rfl rfl rfl ?_
  refine hz_iload_n (pc' := 5) (j := 2) dL_domainValue_4 rfl rfl rfl ?_
  refine hz_tVi (pc' := 8) (av := [.int x1, .int x2]) (rest := [.int 0, .ref (B.1 + a3)]) vl_L_54 (fun v w' h => ct_X9_domainValue hl h) ga0 rfl rfl (Nat.le_of_ble_eq_true rfl) (by decide) (by decide) dL_domainValue_5 rfl (fun v1 w2 => ?_) (fun E4 w5 => ?_)
  · refine hz_i2l (pc' := 9) dL_domainValue_8 rfl ?_
    refine hz_last (pc' := 10) ga3 rfl dL_domainValue_9 rfl (fun w3 => ?_)
    refine hz_goto (tgt := 21) dL_domainValue_10 (by decide) ?_
    refine hz_iconst (pc' := 22) (v := 0) dL_domainValue_21 rfl (by decide) ?_
    exact hz_reti dL_domainValue_22 rfl (by decide)
  · refine hz_xif (fun h9 => ?_) (fun _ => ?_)
    · subst h9
      refine hz_xcatch [] ⟨0, 10, 13, 13⟩ [⟨0, 10, 17, 19⟩] rfl (fun z hz => nomatch hz) (by decide) (by decide) hq_565 (List.mem_of_getElem? (i := 0) (by decide +kernel)) (fun q8 => ?_)
      refine hz_astore (pc' := 15) (L' := [(4, .ref q8), (0, .ref (B.1 + a0)), (1, .int x1), (2, .int x2), (3, .ref (B.1 + a3))]) dL_domainValue_13 rfl (by decide) rfl ?_
      refine hz_iconst (pc' := 16) (v := 1) dL_domainValue_15 rfl (by decide) ?_
      exact hz_reti dL_domainValue_16 rfl (by decide)
    refine hz_xif (fun h7 => ?_) (fun _ => ?_)
    · subst h7
      refine hz_xcatch [⟨0, 10, 13, 13⟩] ⟨0, 10, 17, 19⟩ [] rfl (fun z hz => by rcases List.mem_singleton.mp hz with rfl; exact ⟨by decide, "java/lang/IllegalStateException", hq_565, List.mem_of_getElem? (i := 0) rfl⟩) (by decide) (by decide) hq_645 (List.mem_of_getElem? (i := 7) (by decide +kernel)) (fun q6 => ?_)
      refine hz_astore (pc' := 19) (L' := [(4, .ref q6), (0, .ref (B.1 + a0)), (1, .int x1), (2, .int x2), (3, .ref (B.1 + a3))]) dL_domainValue_17 rfl (by decide) rfl ?_
      refine hz_iconst (pc' := 20) (v := 2) dL_domainValue_19 rfl (by decide) ?_
      exact hz_reti dL_domainValue_20 rfl (by decide)
    exact hz_xno
def f_L_jobOn (a0 : Nat) (x1 : Int32) (x2 : Int32) (a3 : Nat) (w : MW) : Option (Int32 × MW) :=
  hz_gd (hz_g 358 a0 10) (hz_gd (hz_g 358 a3 23) (hz_bt (f_X9_jobOn a0 x1 x2 w) (fun v1 w2 => hz_let (hz_po w2 (Int32.toInt64 v1)) (fun w3 => some (0, w3))) (fun E4 w5 => (if E4 = "java/lang/IllegalStateException" then some (1, w5) else (if E4 = "java/lang/IllegalArgumentException" then some (2, w5) else none)))))
set_option maxHeartbeats 4000000 in
set_option maxRecDepth 100000 in
theorem ct_L_jobOn {l : Launch} (hl : l.stackTraces = false) {B : Bt} {a0 : Nat} {x1 : Int32} {x2 : Int32} {a3 : Nat} {w : MW} {r : Int32 × MW} (h : f_L_jobOn a0 x1 x2 a3 w = some r) : hz_MetW l B 358 yL_jobOn cL_jobOn 5 (some .int) [(0, 10, 13, 13), (0, 10, 17, 19)] 10 3 18 [.ref (B.1 + a0), .int x1, .int x2, .ref (B.1 + a3)] w (some (.int r.1)) r.2 := by
  refine hz_ofJW (rv := (fun r : Int32 × MW => some (.int r.1))) (wo := (fun r : Int32 × MW => r.2)) (own := RL) hl (by decide) rfl (Nat.le_of_ble_eq_true rfl) rfl ?_ h
  intro p e s m args below meth c
  unfold f_L_jobOn
  refine hz_gdr (fun ga0 => ?_)
  refine hz_gdr (fun ga3 => ?_)
  refine hz_aload_n (pc' := 1) (j := 3) dL_jobOn_0 rfl rfl rfl ?_
  refine hz_iconst (pc' := 2) (v := 0) dL_jobOn_1 rfl (by decide) ?_
  refine hz_aload_n (pc' := 3) (j := 0) dL_jobOn_2 rfl rfl rfl ?_
  refine hz_iload_n (pc' := 4) (j := 1) dL_jobOn_3 rfl rfl rfl ?_
  refine hz_iload_n (pc' := 5) (j := 2) dL_jobOn_4 rfl rfl rfl ?_
  refine hz_tVi (pc' := 8) (av := [.int x1, .int x2]) (rest := [.int 0, .ref (B.1 + a3)]) vl_L_57 (fun v w' h => ct_X9_jobOn hl h) ga0 rfl rfl (Nat.le_of_ble_eq_true rfl) (by decide) (by decide) dL_jobOn_5 rfl (fun v1 w2 => ?_) (fun E4 w5 => ?_)
  · refine hz_i2l (pc' := 9) dL_jobOn_8 rfl ?_
    refine hz_last (pc' := 10) ga3 rfl dL_jobOn_9 rfl (fun w3 => ?_)
    refine hz_goto (tgt := 21) dL_jobOn_10 (by decide) ?_
    refine hz_iconst (pc' := 22) (v := 0) dL_jobOn_21 rfl (by decide) ?_
    exact hz_reti dL_jobOn_22 rfl (by decide)
  · refine hz_xif (fun h9 => ?_) (fun _ => ?_)
    · subst h9
      refine hz_xcatch [] ⟨0, 10, 13, 13⟩ [⟨0, 10, 17, 19⟩] rfl (fun z hz => nomatch hz) (by decide) (by decide) hq_565 (List.mem_of_getElem? (i := 0) (by decide +kernel)) (fun q8 => ?_)
      refine hz_astore (pc' := 15) (L' := [(4, .ref q8), (0, .ref (B.1 + a0)), (1, .int x1), (2, .int x2), (3, .ref (B.1 + a3))]) dL_jobOn_13 rfl (by decide) rfl ?_
      refine hz_iconst (pc' := 16) (v := 1) dL_jobOn_15 rfl (by decide) ?_
      exact hz_reti dL_jobOn_16 rfl (by decide)
    refine hz_xif (fun h7 => ?_) (fun _ => ?_)
    · subst h7
      refine hz_xcatch [⟨0, 10, 13, 13⟩] ⟨0, 10, 17, 19⟩ [] rfl (fun z hz => by rcases List.mem_singleton.mp hz with rfl; exact ⟨by decide, "java/lang/IllegalStateException", hq_565, List.mem_of_getElem? (i := 0) rfl⟩) (by decide) (by decide) hq_645 (List.mem_of_getElem? (i := 7) (by decide +kernel)) (fun q6 => ?_)
      refine hz_astore (pc' := 19) (L' := [(4, .ref q6), (0, .ref (B.1 + a0)), (1, .int x1), (2, .int x2), (3, .ref (B.1 + a3))]) dL_jobOn_17 rfl (by decide) rfl ?_
      refine hz_iconst (pc' := 20) (v := 2) dL_jobOn_19 rfl (by decide) ?_
      exact hz_reti dL_jobOn_20 rfl (by decide)
    exact hz_xno
def f_L_throttleOrder (a0 : Nat) (x1 : Int32) (a2 : Nat) (w : MW) : Option (Int32 × MW) :=
  hz_gd (hz_g 358 a0 10) (hz_gd (hz_g 358 a2 23) (hz_bt (f_X9_throttleOrder a0 x1 w) (fun v1 w2 => hz_let (hz_po w2 (Int32.toInt64 v1)) (fun w3 => some (0, w3))) (fun E4 w5 => (if E4 = "java/lang/IllegalStateException" then some (1, w5) else (if E4 = "java/lang/IllegalArgumentException" then some (2, w5) else (if E4 = "java/util/NoSuchElementException" then some (3, w5) else none))))))
set_option maxHeartbeats 4000000 in
set_option maxRecDepth 100000 in
theorem ct_L_throttleOrder {l : Launch} (hl : l.stackTraces = false) {B : Bt} {a0 : Nat} {x1 : Int32} {a2 : Nat} {w : MW} {r : Int32 × MW} (h : f_L_throttleOrder a0 x1 a2 w = some r) : hz_MetW l B 358 yL_throttleOrder cL_throttleOrder 4 (some .int) [(0, 9, 12, 13), (0, 9, 15, 19), (0, 9, 18, 63)] 9 3 18 [.ref (B.1 + a0), .int x1, .ref (B.1 + a2)] w (some (.int r.1)) r.2 := by
  refine hz_ofJW (rv := (fun r : Int32 × MW => some (.int r.1))) (wo := (fun r : Int32 × MW => r.2)) (own := RL) hl (by decide) rfl (Nat.le_of_ble_eq_true rfl) rfl ?_ h
  intro p e s m args below meth c
  unfold f_L_throttleOrder
  refine hz_gdr (fun ga0 => ?_)
  refine hz_gdr (fun ga2 => ?_)
  refine hz_aload_n (pc' := 1) (j := 2) dL_throttleOrder_0 rfl rfl rfl ?_
  refine hz_iconst (pc' := 2) (v := 0) dL_throttleOrder_1 rfl (by decide) ?_
  refine hz_aload_n (pc' := 3) (j := 0) dL_throttleOrder_2 rfl rfl rfl ?_
  refine hz_iload_n (pc' := 4) (j := 1) dL_throttleOrder_3 rfl rfl rfl ?_
  refine hz_tVi (pc' := 7) (av := [.int x1]) (rest := [.int 0, .ref (B.1 + a2)]) vl_L_60 (fun v w' h => ct_X9_throttleOrder hl h) ga0 rfl rfl (Nat.le_of_ble_eq_true rfl) (by decide) (by decide) dL_throttleOrder_4 rfl (fun v1 w2 => ?_) (fun E4 w5 => ?_)
  · refine hz_i2l (pc' := 8) dL_throttleOrder_7 rfl ?_
    refine hz_last (pc' := 9) ga2 rfl dL_throttleOrder_8 rfl (fun w3 => ?_)
    refine hz_goto (tgt := 21) dL_throttleOrder_9 (by decide) ?_
    refine hz_iconst (pc' := 22) (v := 0) dL_throttleOrder_21 rfl (by decide) ?_
    exact hz_reti dL_throttleOrder_22 rfl (by decide)
  · refine hz_xif (fun h11 => ?_) (fun _ => ?_)
    · subst h11
      refine hz_xcatch [] ⟨0, 9, 12, 13⟩ [⟨0, 9, 15, 19⟩, ⟨0, 9, 18, 63⟩] rfl (fun z hz => nomatch hz) (by decide) (by decide) hq_565 (List.mem_of_getElem? (i := 0) (by decide +kernel)) (fun q10 => ?_)
      refine hz_astore_n (pc' := 13) (L' := [(3, .ref q10), (0, .ref (B.1 + a0)), (1, .int x1), (2, .ref (B.1 + a2))]) dL_throttleOrder_12 rfl rfl (by decide) rfl ?_
      refine hz_iconst (pc' := 14) (v := 1) dL_throttleOrder_13 rfl (by decide) ?_
      exact hz_reti dL_throttleOrder_14 rfl (by decide)
    refine hz_xif (fun h9 => ?_) (fun _ => ?_)
    · subst h9
      refine hz_xcatch [⟨0, 9, 12, 13⟩] ⟨0, 9, 15, 19⟩ [⟨0, 9, 18, 63⟩] rfl (fun z hz => by rcases List.mem_singleton.mp hz with rfl; exact ⟨by decide, "java/lang/IllegalStateException", hq_565, List.mem_of_getElem? (i := 0) rfl⟩) (by decide) (by decide) hq_645 (List.mem_of_getElem? (i := 7) (by decide +kernel)) (fun q8 => ?_)
      refine hz_astore_n (pc' := 16) (L' := [(3, .ref q8), (0, .ref (B.1 + a0)), (1, .int x1), (2, .ref (B.1 + a2))]) dL_throttleOrder_15 rfl rfl (by decide) rfl ?_
      refine hz_iconst (pc' := 17) (v := 2) dL_throttleOrder_16 rfl (by decide) ?_
      exact hz_reti dL_throttleOrder_17 rfl (by decide)
    refine hz_xif (fun h7 => ?_) (fun _ => ?_)
    · subst h7
      refine hz_xcatch [⟨0, 9, 12, 13⟩, ⟨0, 9, 15, 19⟩] ⟨0, 9, 18, 63⟩ [] rfl (fun z hz => by
      simp only [List.mem_cons, List.not_mem_nil, or_false] at hz
      rcases hz with rfl | rfl
      · exact ⟨by decide, "java/lang/IllegalStateException", hq_565, List.mem_of_getElem? (i := 1) rfl⟩
      · exact ⟨by decide, "java/lang/IllegalArgumentException", hq_645, List.mem_of_getElem? (i := 2) rfl⟩) (by decide) (by decide) hq_911 (List.mem_of_getElem? (i := 8) (by decide +kernel)) (fun q6 => ?_)
      refine hz_astore_n (pc' := 19) (L' := [(3, .ref q6), (0, .ref (B.1 + a0)), (1, .int x1), (2, .ref (B.1 + a2))]) dL_throttleOrder_18 rfl rfl (by decide) rfl ?_
      refine hz_iconst (pc' := 20) (v := 3) dL_throttleOrder_19 rfl (by decide) ?_
      exact hz_reti dL_throttleOrder_20 rfl (by decide)
    exact hz_xno
def f_L_meanPower (a0 : Nat) (x1 : Int32) (a2 : Nat) (w : MW) : Option (Int32 × MW) :=
  hz_gd (hz_g 358 a0 10) (hz_gd (hz_g 358 a2 24) (hz_bt (f_X9_meanPower a0 x1 w) (fun v1 w2 => hz_nd (FP.f2d v1) (fun v3 => hz_let (hz_pd w2 v3) (fun w4 => some (0, w4)))) (fun E5 w6 => (if E5 = "java/lang/IllegalStateException" then some (1, w6) else (if E5 = "java/lang/IllegalArgumentException" then some (2, w6) else (if E5 = "java/lang/ArithmeticException" then some (3, w6) else none))))))
set_option maxHeartbeats 4000000 in
set_option maxRecDepth 100000 in
theorem ct_L_meanPower {l : Launch} (hl : l.stackTraces = false) {B : Bt} {a0 : Nat} {x1 : Int32} {a2 : Nat} {w : MW} {r : Int32 × MW} (h : f_L_meanPower a0 x1 a2 w = some r) : hz_MetW l B 358 yL_meanPower cL_meanPower 4 (some .int) [(0, 9, 12, 13), (0, 9, 15, 19), (0, 9, 18, 69)] 10 3 18 [.ref (B.1 + a0), .int x1, .ref (B.1 + a2)] w (some (.int r.1)) r.2 := by
  refine hz_ofJW (rv := (fun r : Int32 × MW => some (.int r.1))) (wo := (fun r : Int32 × MW => r.2)) (own := RL) hl (by decide) rfl (Nat.le_of_ble_eq_true rfl) rfl ?_ h
  intro p e s m args below meth c
  unfold f_L_meanPower
  refine hz_gdr (fun ga0 => ?_)
  refine hz_gdr (fun ga2 => ?_)
  refine hz_aload_n (pc' := 1) (j := 2) dL_meanPower_0 rfl rfl rfl ?_
  refine hz_iconst (pc' := 2) (v := 0) dL_meanPower_1 rfl (by decide) ?_
  refine hz_aload_n (pc' := 3) (j := 0) dL_meanPower_2 rfl rfl rfl ?_
  refine hz_iload_n (pc' := 4) (j := 1) dL_meanPower_3 rfl rfl rfl ?_
  refine hz_tVf (pc' := 7) (av := [.int x1]) (rest := [.int 0, .ref (B.1 + a2)]) vl_L_65 (fun v w' h => ct_X9_meanPower hl h) ga0 rfl rfl (Nat.le_of_ble_eq_true rfl) (by decide) (by decide) dL_meanPower_4 rfl (fun v1 w2 => ?_) (fun E5 w6 => ?_)
  · refine hz_f2d (pc' := 8) dL_meanPower_7 rfl (fun v3 => ?_)
    refine hz_dast (pc' := 9) ga2 rfl dL_meanPower_8 rfl (fun w4 => ?_)
    refine hz_goto (tgt := 21) dL_meanPower_9 (by decide) ?_
    refine hz_iconst (pc' := 22) (v := 0) dL_meanPower_21 rfl (by decide) ?_
    exact hz_reti dL_meanPower_22 rfl (by decide)
  · refine hz_xif (fun h12 => ?_) (fun _ => ?_)
    · subst h12
      refine hz_xcatch [] ⟨0, 9, 12, 13⟩ [⟨0, 9, 15, 19⟩, ⟨0, 9, 18, 69⟩] rfl (fun z hz => nomatch hz) (by decide) (by decide) hq_565 (List.mem_of_getElem? (i := 0) (by decide +kernel)) (fun q11 => ?_)
      refine hz_astore_n (pc' := 13) (L' := [(3, .ref q11), (0, .ref (B.1 + a0)), (1, .int x1), (2, .ref (B.1 + a2))]) dL_meanPower_12 rfl rfl (by decide) rfl ?_
      refine hz_iconst (pc' := 14) (v := 1) dL_meanPower_13 rfl (by decide) ?_
      exact hz_reti dL_meanPower_14 rfl (by decide)
    refine hz_xif (fun h10 => ?_) (fun _ => ?_)
    · subst h10
      refine hz_xcatch [⟨0, 9, 12, 13⟩] ⟨0, 9, 15, 19⟩ [⟨0, 9, 18, 69⟩] rfl (fun z hz => by rcases List.mem_singleton.mp hz with rfl; exact ⟨by decide, "java/lang/IllegalStateException", hq_565, List.mem_of_getElem? (i := 0) rfl⟩) (by decide) (by decide) hq_645 (List.mem_of_getElem? (i := 7) (by decide +kernel)) (fun q9 => ?_)
      refine hz_astore_n (pc' := 16) (L' := [(3, .ref q9), (0, .ref (B.1 + a0)), (1, .int x1), (2, .ref (B.1 + a2))]) dL_meanPower_15 rfl rfl (by decide) rfl ?_
      refine hz_iconst (pc' := 17) (v := 2) dL_meanPower_16 rfl (by decide) ?_
      exact hz_reti dL_meanPower_17 rfl (by decide)
    refine hz_xif (fun h8 => ?_) (fun _ => ?_)
    · subst h8
      refine hz_xcatch [⟨0, 9, 12, 13⟩, ⟨0, 9, 15, 19⟩] ⟨0, 9, 18, 69⟩ [] rfl (fun z hz => by
      simp only [List.mem_cons, List.not_mem_nil, or_false] at hz
      rcases hz with rfl | rfl
      · exact ⟨by decide, "java/lang/IllegalStateException", hq_565, List.mem_of_getElem? (i := 3) rfl⟩
      · exact ⟨by decide, "java/lang/IllegalArgumentException", hq_645, List.mem_of_getElem? (i := 4) rfl⟩) (by decide) (by decide) hq_943 (List.mem_of_getElem? (i := 9) (by decide +kernel)) (fun q7 => ?_)
      refine hz_astore_n (pc' := 19) (L' := [(3, .ref q7), (0, .ref (B.1 + a0)), (1, .int x1), (2, .ref (B.1 + a2))]) dL_meanPower_18 rfl rfl (by decide) rfl ?_
      refine hz_iconst (pc' := 20) (v := 3) dL_meanPower_19 rfl (by decide) ?_
      exact hz_reti dL_meanPower_20 rfl (by decide)
    exact hz_xno
def f_L_jobCount (a0 : Nat) (a1 : Nat) (w : MW) : Option (Int32 × MW) :=
  hz_gd (hz_g 358 a0 10) (hz_gd (hz_g 358 a1 23) (hz_bt (f_X9_jobCount a0 w) (fun v1 w2 => hz_let (hz_po w2 (Int32.toInt64 v1)) (fun w3 => some (0, w3))) (fun E4 w5 => (if E4 = "java/lang/IllegalStateException" then some (1, w5) else none))))
set_option maxHeartbeats 4000000 in
set_option maxRecDepth 100000 in
theorem ct_L_jobCount {l : Launch} (hl : l.stackTraces = false) {B : Bt} {a0 : Nat} {a1 : Nat} {w : MW} {r : Int32 × MW} (h : f_L_jobCount a0 a1 w = some r) : hz_MetW l B 358 yL_jobCount cL_jobCount 3 (some .int) [(0, 8, 11, 13)] 9 1 6 [.ref (B.1 + a0), .ref (B.1 + a1)] w (some (.int r.1)) r.2 := by
  refine hz_ofJW (rv := (fun r : Int32 × MW => some (.int r.1))) (wo := (fun r : Int32 × MW => r.2)) (own := RL) hl (by decide) rfl (Nat.le_of_ble_eq_true rfl) rfl ?_ h
  intro p e s m args below meth c
  unfold f_L_jobCount
  refine hz_gdr (fun ga0 => ?_)
  refine hz_gdr (fun ga1 => ?_)
  refine hz_aload_n (pc' := 1) (j := 1) dL_jobCount_0 rfl rfl rfl ?_
  refine hz_iconst (pc' := 2) (v := 0) dL_jobCount_1 rfl (by decide) ?_
  refine hz_aload_n (pc' := 3) (j := 0) dL_jobCount_2 rfl rfl rfl ?_
  refine hz_tVi (pc' := 6) (av := []) (rest := [.int 0, .ref (B.1 + a1)]) vl_L_71 (fun v w' h => ct_X9_jobCount hl h) ga0 rfl rfl (Nat.le_of_ble_eq_true rfl) (by decide) (by decide) dL_jobCount_3 rfl (fun v1 w2 => ?_) (fun E4 w5 => ?_)
  · refine hz_i2l (pc' := 7) dL_jobCount_6 rfl ?_
    refine hz_last (pc' := 8) ga1 rfl dL_jobCount_7 rfl (fun w3 => ?_)
    refine hz_goto (tgt := 14) dL_jobCount_8 (by decide) ?_
    refine hz_iconst (pc' := 15) (v := 0) dL_jobCount_14 rfl (by decide) ?_
    exact hz_reti dL_jobCount_15 rfl (by decide)
  · refine hz_xif (fun h7 => ?_) (fun _ => ?_)
    · subst h7
      refine hz_xcatch [] ⟨0, 8, 11, 13⟩ [] rfl (fun z hz => nomatch hz) (by decide) (by decide) hq_565 (List.mem_of_getElem? (i := 0) (by decide +kernel)) (fun q6 => ?_)
      refine hz_astore_n (pc' := 12) (L' := [(2, .ref q6), (0, .ref (B.1 + a0)), (1, .ref (B.1 + a1))]) dL_jobCount_11 rfl rfl (by decide) rfl ?_
      refine hz_iconst (pc' := 13) (v := 1) dL_jobCount_12 rfl (by decide) ?_
      exact hz_reti dL_jobCount_13 rfl (by decide)
    exact hz_xno
def f_L_jobValue (a0 : Nat) (x1 : Int32) (x2 : Int32) (a3 : Nat) (w : MW) : Option (Int32 × MW) :=
  hz_gd (hz_g 358 a0 10) (hz_gd (hz_g 358 a3 23) (hz_bt (f_X9_jobValue a0 x1 x2 w) (fun v1 w2 => hz_let (hz_po w2 (Int32.toInt64 v1)) (fun w3 => some (0, w3))) (fun E4 w5 => (if E4 = "java/lang/IllegalStateException" then some (1, w5) else (if E4 = "java/lang/IllegalArgumentException" then some (2, w5) else none)))))
set_option maxHeartbeats 4000000 in
set_option maxRecDepth 100000 in
theorem ct_L_jobValue {l : Launch} (hl : l.stackTraces = false) {B : Bt} {a0 : Nat} {x1 : Int32} {x2 : Int32} {a3 : Nat} {w : MW} {r : Int32 × MW} (h : f_L_jobValue a0 x1 x2 a3 w = some r) : hz_MetW l B 358 yL_jobValue cL_jobValue 5 (some .int) [(0, 10, 13, 13), (0, 10, 17, 19)] 10 3 18 [.ref (B.1 + a0), .int x1, .int x2, .ref (B.1 + a3)] w (some (.int r.1)) r.2 := by
  refine hz_ofJW (rv := (fun r : Int32 × MW => some (.int r.1))) (wo := (fun r : Int32 × MW => r.2)) (own := RL) hl (by decide) rfl (Nat.le_of_ble_eq_true rfl) rfl ?_ h
  intro p e s m args below meth c
  unfold f_L_jobValue
  refine hz_gdr (fun ga0 => ?_)
  refine hz_gdr (fun ga3 => ?_)
  refine hz_aload_n (pc' := 1) (j := 3) dL_jobValue_0 rfl rfl rfl ?_
  refine hz_iconst (pc' := 2) (v := 0) dL_jobValue_1 rfl (by decide) ?_
  refine hz_aload_n (pc' := 3) (j := 0) dL_jobValue_2 rfl rfl rfl ?_
  refine hz_iload_n (pc' := 4) (j := 1) dL_jobValue_3 rfl rfl rfl ?_
  refine hz_iload_n (pc' := 5) (j := 2) dL_jobValue_4 rfl rfl rfl ?_
  refine hz_tVi (pc' := 8) (av := [.int x1, .int x2]) (rest := [.int 0, .ref (B.1 + a3)]) vl_L_74 (fun v w' h => ct_X9_jobValue hl h) ga0 rfl rfl (Nat.le_of_ble_eq_true rfl) (by decide) (by decide) dL_jobValue_5 rfl (fun v1 w2 => ?_) (fun E4 w5 => ?_)
  · refine hz_i2l (pc' := 9) dL_jobValue_8 rfl ?_
    refine hz_last (pc' := 10) ga3 rfl dL_jobValue_9 rfl (fun w3 => ?_)
    refine hz_goto (tgt := 21) dL_jobValue_10 (by decide) ?_
    refine hz_iconst (pc' := 22) (v := 0) dL_jobValue_21 rfl (by decide) ?_
    exact hz_reti dL_jobValue_22 rfl (by decide)
  · refine hz_xif (fun h9 => ?_) (fun _ => ?_)
    · subst h9
      refine hz_xcatch [] ⟨0, 10, 13, 13⟩ [⟨0, 10, 17, 19⟩] rfl (fun z hz => nomatch hz) (by decide) (by decide) hq_565 (List.mem_of_getElem? (i := 0) (by decide +kernel)) (fun q8 => ?_)
      refine hz_astore (pc' := 15) (L' := [(4, .ref q8), (0, .ref (B.1 + a0)), (1, .int x1), (2, .int x2), (3, .ref (B.1 + a3))]) dL_jobValue_13 rfl (by decide) rfl ?_
      refine hz_iconst (pc' := 16) (v := 1) dL_jobValue_15 rfl (by decide) ?_
      exact hz_reti dL_jobValue_16 rfl (by decide)
    refine hz_xif (fun h7 => ?_) (fun _ => ?_)
    · subst h7
      refine hz_xcatch [⟨0, 10, 13, 13⟩] ⟨0, 10, 17, 19⟩ [] rfl (fun z hz => by rcases List.mem_singleton.mp hz with rfl; exact ⟨by decide, "java/lang/IllegalStateException", hq_565, List.mem_of_getElem? (i := 0) rfl⟩) (by decide) (by decide) hq_645 (List.mem_of_getElem? (i := 7) (by decide +kernel)) (fun q6 => ?_)
      refine hz_astore (pc' := 19) (L' := [(4, .ref q6), (0, .ref (B.1 + a0)), (1, .int x1), (2, .int x2), (3, .ref (B.1 + a3))]) dL_jobValue_17 rfl (by decide) rfl ?_
      refine hz_iconst (pc' := 20) (v := 2) dL_jobValue_19 rfl (by decide) ?_
      exact hz_reti dL_jobValue_20 rfl (by decide)
    exact hz_xno
def f_L_doneAt (a0 : Nat) (x1 : Int32) (a2 : Nat) (w : MW) : Option (Int32 × MW) :=
  hz_gd (hz_g 358 a0 10) (hz_gd (hz_g 358 a2 23) (hz_bt (f_X9_doneAt a0 x1 w) (fun v1 w2 => hz_let (hz_po w2 (Int32.toInt64 v1)) (fun w3 => some (0, w3))) (fun E4 w5 => (if E4 = "java/lang/IllegalStateException" then some (1, w5) else (if E4 = "java/lang/IllegalArgumentException" then some (2, w5) else none)))))
set_option maxHeartbeats 4000000 in
set_option maxRecDepth 100000 in
theorem ct_L_doneAt {l : Launch} (hl : l.stackTraces = false) {B : Bt} {a0 : Nat} {x1 : Int32} {a2 : Nat} {w : MW} {r : Int32 × MW} (h : f_L_doneAt a0 x1 a2 w = some r) : hz_MetW l B 358 yL_doneAt cL_doneAt 4 (some .int) [(0, 9, 12, 13), (0, 9, 15, 19)] 10 2 12 [.ref (B.1 + a0), .int x1, .ref (B.1 + a2)] w (some (.int r.1)) r.2 := by
  refine hz_ofJW (rv := (fun r : Int32 × MW => some (.int r.1))) (wo := (fun r : Int32 × MW => r.2)) (own := RL) hl (by decide) rfl (Nat.le_of_ble_eq_true rfl) rfl ?_ h
  intro p e s m args below meth c
  unfold f_L_doneAt
  refine hz_gdr (fun ga0 => ?_)
  refine hz_gdr (fun ga2 => ?_)
  refine hz_aload_n (pc' := 1) (j := 2) dL_doneAt_0 rfl rfl rfl ?_
  refine hz_iconst (pc' := 2) (v := 0) dL_doneAt_1 rfl (by decide) ?_
  refine hz_aload_n (pc' := 3) (j := 0) dL_doneAt_2 rfl rfl rfl ?_
  refine hz_iload_n (pc' := 4) (j := 1) dL_doneAt_3 rfl rfl rfl ?_
  refine hz_tVi (pc' := 7) (av := [.int x1]) (rest := [.int 0, .ref (B.1 + a2)]) vl_L_77 (fun v w' h => ct_X9_doneAt hl h) ga0 rfl rfl (Nat.le_of_ble_eq_true rfl) (by decide) (by decide) dL_doneAt_4 rfl (fun v1 w2 => ?_) (fun E4 w5 => ?_)
  · refine hz_i2l (pc' := 8) dL_doneAt_7 rfl ?_
    refine hz_last (pc' := 9) ga2 rfl dL_doneAt_8 rfl (fun w3 => ?_)
    refine hz_goto (tgt := 18) dL_doneAt_9 (by decide) ?_
    refine hz_iconst (pc' := 19) (v := 0) dL_doneAt_18 rfl (by decide) ?_
    exact hz_reti dL_doneAt_19 rfl (by decide)
  · refine hz_xif (fun h9 => ?_) (fun _ => ?_)
    · subst h9
      refine hz_xcatch [] ⟨0, 9, 12, 13⟩ [⟨0, 9, 15, 19⟩] rfl (fun z hz => nomatch hz) (by decide) (by decide) hq_565 (List.mem_of_getElem? (i := 0) (by decide +kernel)) (fun q8 => ?_)
      refine hz_astore_n (pc' := 13) (L' := [(3, .ref q8), (0, .ref (B.1 + a0)), (1, .int x1), (2, .ref (B.1 + a2))]) dL_doneAt_12 rfl rfl (by decide) rfl ?_
      refine hz_iconst (pc' := 14) (v := 1) dL_doneAt_13 rfl (by decide) ?_
      exact hz_reti dL_doneAt_14 rfl (by decide)
    refine hz_xif (fun h7 => ?_) (fun _ => ?_)
    · subst h7
      refine hz_xcatch [⟨0, 9, 12, 13⟩] ⟨0, 9, 15, 19⟩ [] rfl (fun z hz => by rcases List.mem_singleton.mp hz with rfl; exact ⟨by decide, "java/lang/IllegalStateException", hq_565, List.mem_of_getElem? (i := 0) rfl⟩) (by decide) (by decide) hq_645 (List.mem_of_getElem? (i := 7) (by decide +kernel)) (fun q6 => ?_)
      refine hz_astore_n (pc' := 16) (L' := [(3, .ref q6), (0, .ref (B.1 + a0)), (1, .int x1), (2, .ref (B.1 + a2))]) dL_doneAt_15 rfl rfl (by decide) rfl ?_
      refine hz_iconst (pc' := 17) (v := 2) dL_doneAt_16 rfl (by decide) ?_
      exact hz_reti dL_doneAt_17 rfl (by decide)
    exact hz_xno
def f_L_lateJobs (a0 : Nat) (a1 : Nat) (w : MW) : Option (Int32 × MW) :=
  hz_gd (hz_g 358 a0 10) (hz_gd (hz_g 358 a1 23) (hz_bt (f_X9_lateJobs a0 w) (fun v1 w2 => hz_let (hz_po w2 (Int32.toInt64 v1)) (fun w3 => some (0, w3))) (fun E4 w5 => (if E4 = "java/lang/IllegalStateException" then some (1, w5) else none))))
set_option maxHeartbeats 4000000 in
set_option maxRecDepth 100000 in
theorem ct_L_lateJobs {l : Launch} (hl : l.stackTraces = false) {B : Bt} {a0 : Nat} {a1 : Nat} {w : MW} {r : Int32 × MW} (h : f_L_lateJobs a0 a1 w = some r) : hz_MetW l B 358 yL_lateJobs cL_lateJobs 3 (some .int) [(0, 8, 11, 13)] 9 1 6 [.ref (B.1 + a0), .ref (B.1 + a1)] w (some (.int r.1)) r.2 := by
  refine hz_ofJW (rv := (fun r : Int32 × MW => some (.int r.1))) (wo := (fun r : Int32 × MW => r.2)) (own := RL) hl (by decide) rfl (Nat.le_of_ble_eq_true rfl) rfl ?_ h
  intro p e s m args below meth c
  unfold f_L_lateJobs
  refine hz_gdr (fun ga0 => ?_)
  refine hz_gdr (fun ga1 => ?_)
  refine hz_aload_n (pc' := 1) (j := 1) dL_lateJobs_0 rfl rfl rfl ?_
  refine hz_iconst (pc' := 2) (v := 0) dL_lateJobs_1 rfl (by decide) ?_
  refine hz_aload_n (pc' := 3) (j := 0) dL_lateJobs_2 rfl rfl rfl ?_
  refine hz_tVi (pc' := 6) (av := []) (rest := [.int 0, .ref (B.1 + a1)]) vl_L_80 (fun v w' h => ct_X9_lateJobs hl h) ga0 rfl rfl (Nat.le_of_ble_eq_true rfl) (by decide) (by decide) dL_lateJobs_3 rfl (fun v1 w2 => ?_) (fun E4 w5 => ?_)
  · refine hz_i2l (pc' := 7) dL_lateJobs_6 rfl ?_
    refine hz_last (pc' := 8) ga1 rfl dL_lateJobs_7 rfl (fun w3 => ?_)
    refine hz_goto (tgt := 14) dL_lateJobs_8 (by decide) ?_
    refine hz_iconst (pc' := 15) (v := 0) dL_lateJobs_14 rfl (by decide) ?_
    exact hz_reti dL_lateJobs_15 rfl (by decide)
  · refine hz_xif (fun h7 => ?_) (fun _ => ?_)
    · subst h7
      refine hz_xcatch [] ⟨0, 8, 11, 13⟩ [] rfl (fun z hz => nomatch hz) (by decide) (by decide) hq_565 (List.mem_of_getElem? (i := 0) (by decide +kernel)) (fun q6 => ?_)
      refine hz_astore_n (pc' := 12) (L' := [(2, .ref q6), (0, .ref (B.1 + a0)), (1, .ref (B.1 + a1))]) dL_lateJobs_11 rfl rfl (by decide) rfl ?_
      refine hz_iconst (pc' := 13) (v := 1) dL_lateJobs_12 rfl (by decide) ?_
      exact hz_reti dL_lateJobs_13 rfl (by decide)
    exact hz_xno
def f_L_queued (a0 : Nat) (x1 : Int32) (x2 : Int32) (a3 : Nat) (w : MW) : Option (Int32 × MW) :=
  hz_gd (hz_g 358 a0 10) (hz_gd (hz_g 358 a3 23) (hz_bt (f_X9_queued a0 x1 x2 w) (fun v1 w2 => hz_let (hz_po w2 (Int32.toInt64 v1)) (fun w3 => some (0, w3))) (fun E4 w5 => (if E4 = "java/lang/IllegalStateException" then some (1, w5) else (if E4 = "java/lang/IllegalArgumentException" then some (2, w5) else (if E4 = "java/util/NoSuchElementException" then some (3, w5) else none))))))
set_option maxHeartbeats 4000000 in
set_option maxRecDepth 100000 in
theorem ct_L_queued {l : Launch} (hl : l.stackTraces = false) {B : Bt} {a0 : Nat} {x1 : Int32} {x2 : Int32} {a3 : Nat} {w : MW} {r : Int32 × MW} (h : f_L_queued a0 x1 x2 a3 w = some r) : hz_MetW l B 358 yL_queued cL_queued 5 (some .int) [(0, 10, 13, 13), (0, 10, 17, 19), (0, 10, 21, 63)] 10 4 24 [.ref (B.1 + a0), .int x1, .int x2, .ref (B.1 + a3)] w (some (.int r.1)) r.2 := by
  refine hz_ofJW (rv := (fun r : Int32 × MW => some (.int r.1))) (wo := (fun r : Int32 × MW => r.2)) (own := RL) hl (by decide) rfl (Nat.le_of_ble_eq_true rfl) rfl ?_ h
  intro p e s m args below meth c
  unfold f_L_queued
  refine hz_gdr (fun ga0 => ?_)
  refine hz_gdr (fun ga3 => ?_)
  refine hz_aload_n (pc' := 1) (j := 3) dL_queued_0 rfl rfl rfl ?_
  refine hz_iconst (pc' := 2) (v := 0) dL_queued_1 rfl (by decide) ?_
  refine hz_aload_n (pc' := 3) (j := 0) dL_queued_2 rfl rfl rfl ?_
  refine hz_iload_n (pc' := 4) (j := 1) dL_queued_3 rfl rfl rfl ?_
  refine hz_iload_n (pc' := 5) (j := 2) dL_queued_4 rfl rfl rfl ?_
  refine hz_tVi (pc' := 8) (av := [.int x1, .int x2]) (rest := [.int 0, .ref (B.1 + a3)]) vl_L_83 (fun v w' h => ct_X9_queued hl h) ga0 rfl rfl (Nat.le_of_ble_eq_true rfl) (by decide) (by decide) dL_queued_5 rfl (fun v1 w2 => ?_) (fun E4 w5 => ?_)
  · refine hz_i2l (pc' := 9) dL_queued_8 rfl ?_
    refine hz_last (pc' := 10) ga3 rfl dL_queued_9 rfl (fun w3 => ?_)
    refine hz_goto (tgt := 25) dL_queued_10 (by decide) ?_
    refine hz_iconst (pc' := 26) (v := 0) dL_queued_25 rfl (by decide) ?_
    exact hz_reti dL_queued_26 rfl (by decide)
  · refine hz_xif (fun h11 => ?_) (fun _ => ?_)
    · subst h11
      refine hz_xcatch [] ⟨0, 10, 13, 13⟩ [⟨0, 10, 17, 19⟩, ⟨0, 10, 21, 63⟩] rfl (fun z hz => nomatch hz) (by decide) (by decide) hq_565 (List.mem_of_getElem? (i := 0) (by decide +kernel)) (fun q10 => ?_)
      refine hz_astore (pc' := 15) (L' := [(4, .ref q10), (0, .ref (B.1 + a0)), (1, .int x1), (2, .int x2), (3, .ref (B.1 + a3))]) dL_queued_13 rfl (by decide) rfl ?_
      refine hz_iconst (pc' := 16) (v := 1) dL_queued_15 rfl (by decide) ?_
      exact hz_reti dL_queued_16 rfl (by decide)
    refine hz_xif (fun h9 => ?_) (fun _ => ?_)
    · subst h9
      refine hz_xcatch [⟨0, 10, 13, 13⟩] ⟨0, 10, 17, 19⟩ [⟨0, 10, 21, 63⟩] rfl (fun z hz => by rcases List.mem_singleton.mp hz with rfl; exact ⟨by decide, "java/lang/IllegalStateException", hq_565, List.mem_of_getElem? (i := 0) rfl⟩) (by decide) (by decide) hq_645 (List.mem_of_getElem? (i := 7) (by decide +kernel)) (fun q8 => ?_)
      refine hz_astore (pc' := 19) (L' := [(4, .ref q8), (0, .ref (B.1 + a0)), (1, .int x1), (2, .int x2), (3, .ref (B.1 + a3))]) dL_queued_17 rfl (by decide) rfl ?_
      refine hz_iconst (pc' := 20) (v := 2) dL_queued_19 rfl (by decide) ?_
      exact hz_reti dL_queued_20 rfl (by decide)
    refine hz_xif (fun h7 => ?_) (fun _ => ?_)
    · subst h7
      refine hz_xcatch [⟨0, 10, 13, 13⟩, ⟨0, 10, 17, 19⟩] ⟨0, 10, 21, 63⟩ [] rfl (fun z hz => by
      simp only [List.mem_cons, List.not_mem_nil, or_false] at hz
      rcases hz with rfl | rfl
      · exact ⟨by decide, "java/lang/IllegalStateException", hq_565, List.mem_of_getElem? (i := 1) rfl⟩
      · exact ⟨by decide, "java/lang/IllegalArgumentException", hq_645, List.mem_of_getElem? (i := 2) rfl⟩) (by decide) (by decide) hq_911 (List.mem_of_getElem? (i := 8) (by decide +kernel)) (fun q6 => ?_)
      refine hz_astore (pc' := 23) (L' := [(4, .ref q6), (0, .ref (B.1 + a0)), (1, .int x1), (2, .int x2), (3, .ref (B.1 + a3))]) dL_queued_21 rfl (by decide) rfl ?_
      refine hz_iconst (pc' := 24) (v := 3) dL_queued_23 rfl (by decide) ?_
      exact hz_reti dL_queued_24 rfl (by decide)
    exact hz_xno
def f_L_estimate (a0 : Nat) (x1 : Int32) (a2 : Nat) (w : MW) : Option (Int32 × MW) :=
  hz_gd (hz_g 358 a0 10) (hz_gd (hz_g 358 a2 23) (hz_bt (f_X9_estimate a0 x1 w) (fun v1 w2 => hz_let (hz_po w2 (Int32.toInt64 v1)) (fun w3 => some (0, w3))) (fun E4 w5 => (if E4 = "java/lang/IllegalStateException" then some (1, w5) else (if E4 = "java/lang/IllegalArgumentException" then some (2, w5) else none)))))
set_option maxHeartbeats 4000000 in
set_option maxRecDepth 100000 in
theorem ct_L_estimate {l : Launch} (hl : l.stackTraces = false) {B : Bt} {a0 : Nat} {x1 : Int32} {a2 : Nat} {w : MW} {r : Int32 × MW} (h : f_L_estimate a0 x1 a2 w = some r) : hz_MetW l B 358 yL_estimate cL_estimate 4 (some .int) [(0, 9, 12, 13), (0, 9, 15, 19)] 9 2 12 [.ref (B.1 + a0), .int x1, .ref (B.1 + a2)] w (some (.int r.1)) r.2 := by
  refine hz_ofJW (rv := (fun r : Int32 × MW => some (.int r.1))) (wo := (fun r : Int32 × MW => r.2)) (own := RL) hl (by decide) rfl (Nat.le_of_ble_eq_true rfl) rfl ?_ h
  intro p e s m args below meth c
  unfold f_L_estimate
  refine hz_gdr (fun ga0 => ?_)
  refine hz_gdr (fun ga2 => ?_)
  refine hz_aload_n (pc' := 1) (j := 2) dL_estimate_0 rfl rfl rfl ?_
  refine hz_iconst (pc' := 2) (v := 0) dL_estimate_1 rfl (by decide) ?_
  refine hz_aload_n (pc' := 3) (j := 0) dL_estimate_2 rfl rfl rfl ?_
  refine hz_iload_n (pc' := 4) (j := 1) dL_estimate_3 rfl rfl rfl ?_
  refine hz_tVi (pc' := 7) (av := [.int x1]) (rest := [.int 0, .ref (B.1 + a2)]) vl_L_86 (fun v w' h => ct_X9_estimate hl h) ga0 rfl rfl (Nat.le_of_ble_eq_true rfl) (by decide) (by decide) dL_estimate_4 rfl (fun v1 w2 => ?_) (fun E4 w5 => ?_)
  · refine hz_i2l (pc' := 8) dL_estimate_7 rfl ?_
    refine hz_last (pc' := 9) ga2 rfl dL_estimate_8 rfl (fun w3 => ?_)
    refine hz_goto (tgt := 18) dL_estimate_9 (by decide) ?_
    refine hz_iconst (pc' := 19) (v := 0) dL_estimate_18 rfl (by decide) ?_
    exact hz_reti dL_estimate_19 rfl (by decide)
  · refine hz_xif (fun h9 => ?_) (fun _ => ?_)
    · subst h9
      refine hz_xcatch [] ⟨0, 9, 12, 13⟩ [⟨0, 9, 15, 19⟩] rfl (fun z hz => nomatch hz) (by decide) (by decide) hq_565 (List.mem_of_getElem? (i := 0) (by decide +kernel)) (fun q8 => ?_)
      refine hz_astore_n (pc' := 13) (L' := [(3, .ref q8), (0, .ref (B.1 + a0)), (1, .int x1), (2, .ref (B.1 + a2))]) dL_estimate_12 rfl rfl (by decide) rfl ?_
      refine hz_iconst (pc' := 14) (v := 1) dL_estimate_13 rfl (by decide) ?_
      exact hz_reti dL_estimate_14 rfl (by decide)
    refine hz_xif (fun h7 => ?_) (fun _ => ?_)
    · subst h7
      refine hz_xcatch [⟨0, 9, 12, 13⟩] ⟨0, 9, 15, 19⟩ [] rfl (fun z hz => by rcases List.mem_singleton.mp hz with rfl; exact ⟨by decide, "java/lang/IllegalStateException", hq_565, List.mem_of_getElem? (i := 0) rfl⟩) (by decide) (by decide) hq_645 (List.mem_of_getElem? (i := 7) (by decide +kernel)) (fun q6 => ?_)
      refine hz_astore_n (pc' := 16) (L' := [(3, .ref q6), (0, .ref (B.1 + a0)), (1, .int x1), (2, .ref (B.1 + a2))]) dL_estimate_15 rfl rfl (by decide) rfl ?_
      refine hz_iconst (pc' := 17) (v := 2) dL_estimate_16 rfl (by decide) ?_
      exact hz_reti dL_estimate_17 rfl (by decide)
    exact hz_xno
def f_L_deviation (a0 : Nat) (x1 : Int32) (a2 : Nat) (w : MW) : Option (Int32 × MW) :=
  hz_gd (hz_g 358 a0 10) (hz_gd (hz_g 358 a2 24) (hz_bt (f_X9_deviation a0 x1 w) (fun v1 w2 => hz_let (hz_pd w2 v1) (fun w3 => some (0, w3))) (fun E4 w5 => (if E4 = "java/lang/IllegalStateException" then some (1, w5) else (if E4 = "java/lang/IllegalArgumentException" then some (2, w5) else (if E4 = "java/lang/ArithmeticException" then some (3, w5) else none))))))
set_option maxHeartbeats 4000000 in
set_option maxRecDepth 100000 in
theorem ct_L_deviation {l : Launch} (hl : l.stackTraces = false) {B : Bt} {a0 : Nat} {x1 : Int32} {a2 : Nat} {w : MW} {r : Int32 × MW} (h : f_L_deviation a0 x1 a2 w = some r) : hz_MetW l B 358 yL_deviation cL_deviation 4 (some .int) [(0, 8, 11, 13), (0, 8, 14, 19), (0, 8, 17, 69)] 9 3 18 [.ref (B.1 + a0), .int x1, .ref (B.1 + a2)] w (some (.int r.1)) r.2 := by
  refine hz_ofJW (rv := (fun r : Int32 × MW => some (.int r.1))) (wo := (fun r : Int32 × MW => r.2)) (own := RL) hl (by decide) rfl (Nat.le_of_ble_eq_true rfl) rfl ?_ h
  intro p e s m args below meth c
  unfold f_L_deviation
  refine hz_gdr (fun ga0 => ?_)
  refine hz_gdr (fun ga2 => ?_)
  refine hz_aload_n (pc' := 1) (j := 2) dL_deviation_0 rfl rfl rfl ?_
  refine hz_iconst (pc' := 2) (v := 0) dL_deviation_1 rfl (by decide) ?_
  refine hz_aload_n (pc' := 3) (j := 0) dL_deviation_2 rfl rfl rfl ?_
  refine hz_iload_n (pc' := 4) (j := 1) dL_deviation_3 rfl rfl rfl ?_
  refine hz_tVd (pc' := 7) (av := [.int x1]) (rest := [.int 0, .ref (B.1 + a2)]) vl_L_89 (fun v w' h => ct_X9_deviation hl h) ga0 rfl rfl (Nat.le_of_ble_eq_true rfl) (by decide) (by decide) dL_deviation_4 rfl (fun v1 w2 => ?_) (fun E4 w5 => ?_)
  · refine hz_dast (pc' := 8) ga2 rfl dL_deviation_7 rfl (fun w3 => ?_)
    refine hz_goto (tgt := 20) dL_deviation_8 (by decide) ?_
    refine hz_iconst (pc' := 21) (v := 0) dL_deviation_20 rfl (by decide) ?_
    exact hz_reti dL_deviation_21 rfl (by decide)
  · refine hz_xif (fun h11 => ?_) (fun _ => ?_)
    · subst h11
      refine hz_xcatch [] ⟨0, 8, 11, 13⟩ [⟨0, 8, 14, 19⟩, ⟨0, 8, 17, 69⟩] rfl (fun z hz => nomatch hz) (by decide) (by decide) hq_565 (List.mem_of_getElem? (i := 0) (by decide +kernel)) (fun q10 => ?_)
      refine hz_astore_n (pc' := 12) (L' := [(3, .ref q10), (0, .ref (B.1 + a0)), (1, .int x1), (2, .ref (B.1 + a2))]) dL_deviation_11 rfl rfl (by decide) rfl ?_
      refine hz_iconst (pc' := 13) (v := 1) dL_deviation_12 rfl (by decide) ?_
      exact hz_reti dL_deviation_13 rfl (by decide)
    refine hz_xif (fun h9 => ?_) (fun _ => ?_)
    · subst h9
      refine hz_xcatch [⟨0, 8, 11, 13⟩] ⟨0, 8, 14, 19⟩ [⟨0, 8, 17, 69⟩] rfl (fun z hz => by rcases List.mem_singleton.mp hz with rfl; exact ⟨by decide, "java/lang/IllegalStateException", hq_565, List.mem_of_getElem? (i := 0) rfl⟩) (by decide) (by decide) hq_645 (List.mem_of_getElem? (i := 7) (by decide +kernel)) (fun q8 => ?_)
      refine hz_astore_n (pc' := 15) (L' := [(3, .ref q8), (0, .ref (B.1 + a0)), (1, .int x1), (2, .ref (B.1 + a2))]) dL_deviation_14 rfl rfl (by decide) rfl ?_
      refine hz_iconst (pc' := 16) (v := 2) dL_deviation_15 rfl (by decide) ?_
      exact hz_reti dL_deviation_16 rfl (by decide)
    refine hz_xif (fun h7 => ?_) (fun _ => ?_)
    · subst h7
      refine hz_xcatch [⟨0, 8, 11, 13⟩, ⟨0, 8, 14, 19⟩] ⟨0, 8, 17, 69⟩ [] rfl (fun z hz => by
      simp only [List.mem_cons, List.not_mem_nil, or_false] at hz
      rcases hz with rfl | rfl
      · exact ⟨by decide, "java/lang/IllegalStateException", hq_565, List.mem_of_getElem? (i := 3) rfl⟩
      · exact ⟨by decide, "java/lang/IllegalArgumentException", hq_645, List.mem_of_getElem? (i := 4) rfl⟩) (by decide) (by decide) hq_943 (List.mem_of_getElem? (i := 9) (by decide +kernel)) (fun q6 => ?_)
      refine hz_astore_n (pc' := 18) (L' := [(3, .ref q6), (0, .ref (B.1 + a0)), (1, .int x1), (2, .ref (B.1 + a2))]) dL_deviation_17 rfl rfl (by decide) rfl ?_
      refine hz_iconst (pc' := 19) (v := 3) dL_deviation_18 rfl (by decide) ?_
      exact hz_reti dL_deviation_19 rfl (by decide)
    exact hz_xno
def f_L_willBeDone (a0 : Nat) (x1 : Int32) (a2 : Nat) (w : MW) : Option (Int32 × MW) :=
  hz_gd (hz_g 358 a0 10) (hz_gd (hz_g 358 a2 23) (hz_bt (f_X9_willBeDone a0 x1 w) (fun v1 w2 => hz_let (hz_po w2 (Int32.toInt64 v1)) (fun w3 => some (0, w3))) (fun E4 w5 => (if E4 = "java/lang/IllegalStateException" then some (1, w5) else (if E4 = "java/lang/IllegalArgumentException" then some (2, w5) else none)))))
set_option maxHeartbeats 4000000 in
set_option maxRecDepth 100000 in
theorem ct_L_willBeDone {l : Launch} (hl : l.stackTraces = false) {B : Bt} {a0 : Nat} {x1 : Int32} {a2 : Nat} {w : MW} {r : Int32 × MW} (h : f_L_willBeDone a0 x1 a2 w = some r) : hz_MetW l B 358 yL_willBeDone cL_willBeDone 4 (some .int) [(0, 9, 12, 13), (0, 9, 15, 19)] 10 2 12 [.ref (B.1 + a0), .int x1, .ref (B.1 + a2)] w (some (.int r.1)) r.2 := by
  refine hz_ofJW (rv := (fun r : Int32 × MW => some (.int r.1))) (wo := (fun r : Int32 × MW => r.2)) (own := RL) hl (by decide) rfl (Nat.le_of_ble_eq_true rfl) rfl ?_ h
  intro p e s m args below meth c
  unfold f_L_willBeDone
  refine hz_gdr (fun ga0 => ?_)
  refine hz_gdr (fun ga2 => ?_)
  refine hz_aload_n (pc' := 1) (j := 2) dL_willBeDone_0 rfl rfl rfl ?_
  refine hz_iconst (pc' := 2) (v := 0) dL_willBeDone_1 rfl (by decide) ?_
  refine hz_aload_n (pc' := 3) (j := 0) dL_willBeDone_2 rfl rfl rfl ?_
  refine hz_iload_n (pc' := 4) (j := 1) dL_willBeDone_3 rfl rfl rfl ?_
  refine hz_tVi (pc' := 7) (av := [.int x1]) (rest := [.int 0, .ref (B.1 + a2)]) vl_L_93 (fun v w' h => ct_X9_willBeDone hl h) ga0 rfl rfl (Nat.le_of_ble_eq_true rfl) (by decide) (by decide) dL_willBeDone_4 rfl (fun v1 w2 => ?_) (fun E4 w5 => ?_)
  · refine hz_i2l (pc' := 8) dL_willBeDone_7 rfl ?_
    refine hz_last (pc' := 9) ga2 rfl dL_willBeDone_8 rfl (fun w3 => ?_)
    refine hz_goto (tgt := 18) dL_willBeDone_9 (by decide) ?_
    refine hz_iconst (pc' := 19) (v := 0) dL_willBeDone_18 rfl (by decide) ?_
    exact hz_reti dL_willBeDone_19 rfl (by decide)
  · refine hz_xif (fun h9 => ?_) (fun _ => ?_)
    · subst h9
      refine hz_xcatch [] ⟨0, 9, 12, 13⟩ [⟨0, 9, 15, 19⟩] rfl (fun z hz => nomatch hz) (by decide) (by decide) hq_565 (List.mem_of_getElem? (i := 0) (by decide +kernel)) (fun q8 => ?_)
      refine hz_astore_n (pc' := 13) (L' := [(3, .ref q8), (0, .ref (B.1 + a0)), (1, .int x1), (2, .ref (B.1 + a2))]) dL_willBeDone_12 rfl rfl (by decide) rfl ?_
      refine hz_iconst (pc' := 14) (v := 1) dL_willBeDone_13 rfl (by decide) ?_
      exact hz_reti dL_willBeDone_14 rfl (by decide)
    refine hz_xif (fun h7 => ?_) (fun _ => ?_)
    · subst h7
      refine hz_xcatch [⟨0, 9, 12, 13⟩] ⟨0, 9, 15, 19⟩ [] rfl (fun z hz => by rcases List.mem_singleton.mp hz with rfl; exact ⟨by decide, "java/lang/IllegalStateException", hq_565, List.mem_of_getElem? (i := 0) rfl⟩) (by decide) (by decide) hq_645 (List.mem_of_getElem? (i := 7) (by decide +kernel)) (fun q6 => ?_)
      refine hz_astore_n (pc' := 16) (L' := [(3, .ref q6), (0, .ref (B.1 + a0)), (1, .int x1), (2, .ref (B.1 + a2))]) dL_willBeDone_15 rfl rfl (by decide) rfl ?_
      refine hz_iconst (pc' := 17) (v := 2) dL_willBeDone_16 rfl (by decide) ?_
      exact hz_reti dL_willBeDone_17 rfl (by decide)
    exact hz_xno
def f_L_allOver (a0 : Nat) (a1 : Nat) (w : MW) : Option (Int32 × MW) :=
  hz_gd (hz_g 358 a0 10) (hz_gd (hz_g 358 a1 23) (hz_bt (f_X9_allOver a0 w) (fun v1 w2 => hz_let (hz_po w2 (Int32.toInt64 v1)) (fun w3 => some (0, w3))) (fun E4 w5 => (if E4 = "java/lang/IllegalStateException" then some (1, w5) else none))))
set_option maxHeartbeats 4000000 in
set_option maxRecDepth 100000 in
theorem ct_L_allOver {l : Launch} (hl : l.stackTraces = false) {B : Bt} {a0 : Nat} {a1 : Nat} {w : MW} {r : Int32 × MW} (h : f_L_allOver a0 a1 w = some r) : hz_MetW l B 358 yL_allOver cL_allOver 3 (some .int) [(0, 8, 11, 13)] 9 1 6 [.ref (B.1 + a0), .ref (B.1 + a1)] w (some (.int r.1)) r.2 := by
  refine hz_ofJW (rv := (fun r : Int32 × MW => some (.int r.1))) (wo := (fun r : Int32 × MW => r.2)) (own := RL) hl (by decide) rfl (Nat.le_of_ble_eq_true rfl) rfl ?_ h
  intro p e s m args below meth c
  unfold f_L_allOver
  refine hz_gdr (fun ga0 => ?_)
  refine hz_gdr (fun ga1 => ?_)
  refine hz_aload_n (pc' := 1) (j := 1) dL_allOver_0 rfl rfl rfl ?_
  refine hz_iconst (pc' := 2) (v := 0) dL_allOver_1 rfl (by decide) ?_
  refine hz_aload_n (pc' := 3) (j := 0) dL_allOver_2 rfl rfl rfl ?_
  refine hz_tVi (pc' := 6) (av := []) (rest := [.int 0, .ref (B.1 + a1)]) vl_L_96 (fun v w' h => ct_X9_allOver hl h) ga0 rfl rfl (Nat.le_of_ble_eq_true rfl) (by decide) (by decide) dL_allOver_3 rfl (fun v1 w2 => ?_) (fun E4 w5 => ?_)
  · refine hz_i2l (pc' := 7) dL_allOver_6 rfl ?_
    refine hz_last (pc' := 8) ga1 rfl dL_allOver_7 rfl (fun w3 => ?_)
    refine hz_goto (tgt := 14) dL_allOver_8 (by decide) ?_
    refine hz_iconst (pc' := 15) (v := 0) dL_allOver_14 rfl (by decide) ?_
    exact hz_reti dL_allOver_15 rfl (by decide)
  · refine hz_xif (fun h7 => ?_) (fun _ => ?_)
    · subst h7
      refine hz_xcatch [] ⟨0, 8, 11, 13⟩ [] rfl (fun z hz => nomatch hz) (by decide) (by decide) hq_565 (List.mem_of_getElem? (i := 0) (by decide +kernel)) (fun q6 => ?_)
      refine hz_astore_n (pc' := 12) (L' := [(2, .ref q6), (0, .ref (B.1 + a0)), (1, .ref (B.1 + a1))]) dL_allOver_11 rfl rfl (by decide) rfl ?_
      refine hz_iconst (pc' := 13) (v := 1) dL_allOver_12 rfl (by decide) ?_
      exact hz_reti dL_allOver_13 rfl (by decide)
    exact hz_xno
def f_L_willBeLate (a0 : Nat) (a1 : Nat) (w : MW) : Option (Int32 × MW) :=
  hz_gd (hz_g 358 a0 10) (hz_gd (hz_g 358 a1 23) (hz_bt (f_X9_willBeLate a0 w) (fun v1 w2 => hz_let (hz_po w2 (Int32.toInt64 v1)) (fun w3 => some (0, w3))) (fun E4 w5 => (if E4 = "java/lang/IllegalStateException" then some (1, w5) else none))))
set_option maxHeartbeats 4000000 in
set_option maxRecDepth 100000 in
theorem ct_L_willBeLate {l : Launch} (hl : l.stackTraces = false) {B : Bt} {a0 : Nat} {a1 : Nat} {w : MW} {r : Int32 × MW} (h : f_L_willBeLate a0 a1 w = some r) : hz_MetW l B 358 yL_willBeLate cL_willBeLate 3 (some .int) [(0, 8, 11, 13)] 9 1 6 [.ref (B.1 + a0), .ref (B.1 + a1)] w (some (.int r.1)) r.2 := by
  refine hz_ofJW (rv := (fun r : Int32 × MW => some (.int r.1))) (wo := (fun r : Int32 × MW => r.2)) (own := RL) hl (by decide) rfl (Nat.le_of_ble_eq_true rfl) rfl ?_ h
  intro p e s m args below meth c
  unfold f_L_willBeLate
  refine hz_gdr (fun ga0 => ?_)
  refine hz_gdr (fun ga1 => ?_)
  refine hz_aload_n (pc' := 1) (j := 1) dL_willBeLate_0 rfl rfl rfl ?_
  refine hz_iconst (pc' := 2) (v := 0) dL_willBeLate_1 rfl (by decide) ?_
  refine hz_aload_n (pc' := 3) (j := 0) dL_willBeLate_2 rfl rfl rfl ?_
  refine hz_tVi (pc' := 6) (av := []) (rest := [.int 0, .ref (B.1 + a1)]) vl_L_99 (fun v w' h => ct_X9_willBeLate hl h) ga0 rfl rfl (Nat.le_of_ble_eq_true rfl) (by decide) (by decide) dL_willBeLate_3 rfl (fun v1 w2 => ?_) (fun E4 w5 => ?_)
  · refine hz_i2l (pc' := 7) dL_willBeLate_6 rfl ?_
    refine hz_last (pc' := 8) ga1 rfl dL_willBeLate_7 rfl (fun w3 => ?_)
    refine hz_goto (tgt := 14) dL_willBeLate_8 (by decide) ?_
    refine hz_iconst (pc' := 15) (v := 0) dL_willBeLate_14 rfl (by decide) ?_
    exact hz_reti dL_willBeLate_15 rfl (by decide)
  · refine hz_xif (fun h7 => ?_) (fun _ => ?_)
    · subst h7
      refine hz_xcatch [] ⟨0, 8, 11, 13⟩ [] rfl (fun z hz => nomatch hz) (by decide) (by decide) hq_565 (List.mem_of_getElem? (i := 0) (by decide +kernel)) (fun q6 => ?_)
      refine hz_astore_n (pc' := 12) (L' := [(2, .ref q6), (0, .ref (B.1 + a0)), (1, .ref (B.1 + a1))]) dL_willBeLate_11 rfl rfl (by decide) rfl ?_
      refine hz_iconst (pc' := 13) (v := 1) dL_willBeLate_12 rfl (by decide) ?_
      exact hz_reti dL_willBeLate_13 rfl (by decide)
    exact hz_xno
def f_L_peak (a0 : Nat) (x1 : Int32) (x2 : Int32) (a3 : Nat) (w : MW) : Option (Int32 × MW) :=
  hz_gd (hz_g 358 a0 10) (hz_gd (hz_g 358 a3 23) (hz_bt (f_X9_peak a0 x1 x2 w) (fun v1 w2 => hz_let (hz_po w2 (Int32.toInt64 v1)) (fun w3 => some (0, w3))) (fun E4 w5 => (if E4 = "java/lang/IllegalStateException" then some (1, w5) else (if E4 = "java/lang/IllegalArgumentException" then some (2, w5) else none)))))
set_option maxHeartbeats 4000000 in
set_option maxRecDepth 100000 in
theorem ct_L_peak {l : Launch} (hl : l.stackTraces = false) {B : Bt} {a0 : Nat} {x1 : Int32} {x2 : Int32} {a3 : Nat} {w : MW} {r : Int32 × MW} (h : f_L_peak a0 x1 x2 a3 w = some r) : hz_MetW l B 358 yL_peak cL_peak 5 (some .int) [(0, 10, 13, 13), (0, 10, 17, 19)] 10 3 18 [.ref (B.1 + a0), .int x1, .int x2, .ref (B.1 + a3)] w (some (.int r.1)) r.2 := by
  refine hz_ofJW (rv := (fun r : Int32 × MW => some (.int r.1))) (wo := (fun r : Int32 × MW => r.2)) (own := RL) hl (by decide) rfl (Nat.le_of_ble_eq_true rfl) rfl ?_ h
  intro p e s m args below meth c
  unfold f_L_peak
  refine hz_gdr (fun ga0 => ?_)
  refine hz_gdr (fun ga3 => ?_)
  refine hz_aload_n (pc' := 1) (j := 3) dL_peak_0 rfl rfl rfl ?_
  refine hz_iconst (pc' := 2) (v := 0) dL_peak_1 rfl (by decide) ?_
  refine hz_aload_n (pc' := 3) (j := 0) dL_peak_2 rfl rfl rfl ?_
  refine hz_iload_n (pc' := 4) (j := 1) dL_peak_3 rfl rfl rfl ?_
  refine hz_iload_n (pc' := 5) (j := 2) dL_peak_4 rfl rfl rfl ?_
  refine hz_tVi (pc' := 8) (av := [.int x1, .int x2]) (rest := [.int 0, .ref (B.1 + a3)]) vl_L_102 (fun v w' h => ct_X9_peak hl h) ga0 rfl rfl (Nat.le_of_ble_eq_true rfl) (by decide) (by decide) dL_peak_5 rfl (fun v1 w2 => ?_) (fun E4 w5 => ?_)
  · refine hz_i2l (pc' := 9) dL_peak_8 rfl ?_
    refine hz_last (pc' := 10) ga3 rfl dL_peak_9 rfl (fun w3 => ?_)
    refine hz_goto (tgt := 21) dL_peak_10 (by decide) ?_
    refine hz_iconst (pc' := 22) (v := 0) dL_peak_21 rfl (by decide) ?_
    exact hz_reti dL_peak_22 rfl (by decide)
  · refine hz_xif (fun h9 => ?_) (fun _ => ?_)
    · subst h9
      refine hz_xcatch [] ⟨0, 10, 13, 13⟩ [⟨0, 10, 17, 19⟩] rfl (fun z hz => nomatch hz) (by decide) (by decide) hq_565 (List.mem_of_getElem? (i := 0) (by decide +kernel)) (fun q8 => ?_)
      refine hz_astore (pc' := 15) (L' := [(4, .ref q8), (0, .ref (B.1 + a0)), (1, .int x1), (2, .int x2), (3, .ref (B.1 + a3))]) dL_peak_13 rfl (by decide) rfl ?_
      refine hz_iconst (pc' := 16) (v := 1) dL_peak_15 rfl (by decide) ?_
      exact hz_reti dL_peak_16 rfl (by decide)
    refine hz_xif (fun h7 => ?_) (fun _ => ?_)
    · subst h7
      refine hz_xcatch [⟨0, 10, 13, 13⟩] ⟨0, 10, 17, 19⟩ [] rfl (fun z hz => by rcases List.mem_singleton.mp hz with rfl; exact ⟨by decide, "java/lang/IllegalStateException", hq_565, List.mem_of_getElem? (i := 0) rfl⟩) (by decide) (by decide) hq_645 (List.mem_of_getElem? (i := 7) (by decide +kernel)) (fun q6 => ?_)
      refine hz_astore (pc' := 19) (L' := [(4, .ref q6), (0, .ref (B.1 + a0)), (1, .int x1), (2, .int x2), (3, .ref (B.1 + a3))]) dL_peak_17 rfl (by decide) rfl ?_
      refine hz_iconst (pc' := 20) (v := 2) dL_peak_19 rfl (by decide) ?_
      exact hz_reti dL_peak_20 rfl (by decide)
    exact hz_xno
def f_L_energyIn (a0 : Nat) (x1 : Int32) (a2 : Nat) (w : MW) : Option (Int32 × MW) :=
  hz_gd (hz_g 358 a0 10) (hz_gd (hz_g 358 a2 23) (hz_bt (f_X9_energyIn a0 x1 w) (fun v1 w2 => hz_let (hz_po w2 (Int32.toInt64 v1)) (fun w3 => some (0, w3))) (fun E4 w5 => (if E4 = "java/lang/IllegalStateException" then some (1, w5) else (if E4 = "java/lang/IllegalArgumentException" then some (2, w5) else none)))))
set_option maxHeartbeats 4000000 in
set_option maxRecDepth 100000 in
theorem ct_L_energyIn {l : Launch} (hl : l.stackTraces = false) {B : Bt} {a0 : Nat} {x1 : Int32} {a2 : Nat} {w : MW} {r : Int32 × MW} (h : f_L_energyIn a0 x1 a2 w = some r) : hz_MetW l B 358 yL_energyIn cL_energyIn 4 (some .int) [(0, 9, 12, 13), (0, 9, 15, 19)] 9 2 12 [.ref (B.1 + a0), .int x1, .ref (B.1 + a2)] w (some (.int r.1)) r.2 := by
  refine hz_ofJW (rv := (fun r : Int32 × MW => some (.int r.1))) (wo := (fun r : Int32 × MW => r.2)) (own := RL) hl (by decide) rfl (Nat.le_of_ble_eq_true rfl) rfl ?_ h
  intro p e s m args below meth c
  unfold f_L_energyIn
  refine hz_gdr (fun ga0 => ?_)
  refine hz_gdr (fun ga2 => ?_)
  refine hz_aload_n (pc' := 1) (j := 2) dL_energyIn_0 rfl rfl rfl ?_
  refine hz_iconst (pc' := 2) (v := 0) dL_energyIn_1 rfl (by decide) ?_
  refine hz_aload_n (pc' := 3) (j := 0) dL_energyIn_2 rfl rfl rfl ?_
  refine hz_iload_n (pc' := 4) (j := 1) dL_energyIn_3 rfl rfl rfl ?_
  refine hz_tVi (pc' := 7) (av := [.int x1]) (rest := [.int 0, .ref (B.1 + a2)]) vl_L_105 (fun v w' h => ct_X9_energyIn hl h) ga0 rfl rfl (Nat.le_of_ble_eq_true rfl) (by decide) (by decide) dL_energyIn_4 rfl (fun v1 w2 => ?_) (fun E4 w5 => ?_)
  · refine hz_i2l (pc' := 8) dL_energyIn_7 rfl ?_
    refine hz_last (pc' := 9) ga2 rfl dL_energyIn_8 rfl (fun w3 => ?_)
    refine hz_goto (tgt := 18) dL_energyIn_9 (by decide) ?_
    refine hz_iconst (pc' := 19) (v := 0) dL_energyIn_18 rfl (by decide) ?_
    exact hz_reti dL_energyIn_19 rfl (by decide)
  · refine hz_xif (fun h9 => ?_) (fun _ => ?_)
    · subst h9
      refine hz_xcatch [] ⟨0, 9, 12, 13⟩ [⟨0, 9, 15, 19⟩] rfl (fun z hz => nomatch hz) (by decide) (by decide) hq_565 (List.mem_of_getElem? (i := 0) (by decide +kernel)) (fun q8 => ?_)
      refine hz_astore_n (pc' := 13) (L' := [(3, .ref q8), (0, .ref (B.1 + a0)), (1, .int x1), (2, .ref (B.1 + a2))]) dL_energyIn_12 rfl rfl (by decide) rfl ?_
      refine hz_iconst (pc' := 14) (v := 1) dL_energyIn_13 rfl (by decide) ?_
      exact hz_reti dL_energyIn_14 rfl (by decide)
    refine hz_xif (fun h7 => ?_) (fun _ => ?_)
    · subst h7
      refine hz_xcatch [⟨0, 9, 12, 13⟩] ⟨0, 9, 15, 19⟩ [] rfl (fun z hz => by rcases List.mem_singleton.mp hz with rfl; exact ⟨by decide, "java/lang/IllegalStateException", hq_565, List.mem_of_getElem? (i := 0) rfl⟩) (by decide) (by decide) hq_645 (List.mem_of_getElem? (i := 7) (by decide +kernel)) (fun q6 => ?_)
      refine hz_astore_n (pc' := 16) (L' := [(3, .ref q6), (0, .ref (B.1 + a0)), (1, .int x1), (2, .ref (B.1 + a2))]) dL_energyIn_15 rfl rfl (by decide) rfl ?_
      refine hz_iconst (pc' := 17) (v := 2) dL_energyIn_16 rfl (by decide) ?_
      exact hz_reti dL_energyIn_17 rfl (by decide)
    exact hz_xno
def f_L_nextThrottle (a0 : Nat) (x1 : Int32) (a2 : Nat) (w : MW) : Option (Int32 × MW) :=
  hz_gd (hz_g 358 a0 10) (hz_gd (hz_g 358 a2 23) (hz_bt (f_X9_nextThrottle a0 x1 w) (fun v1 w2 => hz_let (hz_po w2 (Int32.toInt64 v1)) (fun w3 => some (0, w3))) (fun E4 w5 => (if E4 = "java/lang/IllegalStateException" then some (1, w5) else (if E4 = "java/lang/IllegalArgumentException" then some (2, w5) else none)))))
set_option maxHeartbeats 4000000 in
set_option maxRecDepth 100000 in
theorem ct_L_nextThrottle {l : Launch} (hl : l.stackTraces = false) {B : Bt} {a0 : Nat} {x1 : Int32} {a2 : Nat} {w : MW} {r : Int32 × MW} (h : f_L_nextThrottle a0 x1 a2 w = some r) : hz_MetW l B 358 yL_nextThrottle cL_nextThrottle 4 (some .int) [(0, 9, 12, 13), (0, 9, 15, 19)] 10 2 12 [.ref (B.1 + a0), .int x1, .ref (B.1 + a2)] w (some (.int r.1)) r.2 := by
  refine hz_ofJW (rv := (fun r : Int32 × MW => some (.int r.1))) (wo := (fun r : Int32 × MW => r.2)) (own := RL) hl (by decide) rfl (Nat.le_of_ble_eq_true rfl) rfl ?_ h
  intro p e s m args below meth c
  unfold f_L_nextThrottle
  refine hz_gdr (fun ga0 => ?_)
  refine hz_gdr (fun ga2 => ?_)
  refine hz_aload_n (pc' := 1) (j := 2) dL_nextThrottle_0 rfl rfl rfl ?_
  refine hz_iconst (pc' := 2) (v := 0) dL_nextThrottle_1 rfl (by decide) ?_
  refine hz_aload_n (pc' := 3) (j := 0) dL_nextThrottle_2 rfl rfl rfl ?_
  refine hz_iload_n (pc' := 4) (j := 1) dL_nextThrottle_3 rfl rfl rfl ?_
  refine hz_tVi (pc' := 7) (av := [.int x1]) (rest := [.int 0, .ref (B.1 + a2)]) vl_L_108 (fun v w' h => ct_X9_nextThrottle hl h) ga0 rfl rfl (Nat.le_of_ble_eq_true rfl) (by decide) (by decide) dL_nextThrottle_4 rfl (fun v1 w2 => ?_) (fun E4 w5 => ?_)
  · refine hz_i2l (pc' := 8) dL_nextThrottle_7 rfl ?_
    refine hz_last (pc' := 9) ga2 rfl dL_nextThrottle_8 rfl (fun w3 => ?_)
    refine hz_goto (tgt := 18) dL_nextThrottle_9 (by decide) ?_
    refine hz_iconst (pc' := 19) (v := 0) dL_nextThrottle_18 rfl (by decide) ?_
    exact hz_reti dL_nextThrottle_19 rfl (by decide)
  · refine hz_xif (fun h9 => ?_) (fun _ => ?_)
    · subst h9
      refine hz_xcatch [] ⟨0, 9, 12, 13⟩ [⟨0, 9, 15, 19⟩] rfl (fun z hz => nomatch hz) (by decide) (by decide) hq_565 (List.mem_of_getElem? (i := 0) (by decide +kernel)) (fun q8 => ?_)
      refine hz_astore_n (pc' := 13) (L' := [(3, .ref q8), (0, .ref (B.1 + a0)), (1, .int x1), (2, .ref (B.1 + a2))]) dL_nextThrottle_12 rfl rfl (by decide) rfl ?_
      refine hz_iconst (pc' := 14) (v := 1) dL_nextThrottle_13 rfl (by decide) ?_
      exact hz_reti dL_nextThrottle_14 rfl (by decide)
    refine hz_xif (fun h7 => ?_) (fun _ => ?_)
    · subst h7
      refine hz_xcatch [⟨0, 9, 12, 13⟩] ⟨0, 9, 15, 19⟩ [] rfl (fun z hz => by rcases List.mem_singleton.mp hz with rfl; exact ⟨by decide, "java/lang/IllegalStateException", hq_565, List.mem_of_getElem? (i := 0) rfl⟩) (by decide) (by decide) hq_645 (List.mem_of_getElem? (i := 7) (by decide +kernel)) (fun q6 => ?_)
      refine hz_astore_n (pc' := 16) (L' := [(3, .ref q6), (0, .ref (B.1 + a0)), (1, .int x1), (2, .ref (B.1 + a2))]) dL_nextThrottle_15 rfl rfl (by decide) rfl ?_
      refine hz_iconst (pc' := 17) (v := 2) dL_nextThrottle_16 rfl (by decide) ?_
      exact hz_reti dL_nextThrottle_17 rfl (by decide)
    exact hz_xno
def f_L_bestPolicy (a0 : Nat) (x1 : Int32) (a2 : Nat) (w : MW) : Option (Int32 × MW) :=
  hz_gd (hz_g 358 a0 10) (hz_gd (hz_g 358 a2 23) (hz_bt (f_X9_bestPolicy a0 x1 w) (fun v1 w2 => hz_let (hz_po w2 (Int32.toInt64 v1)) (fun w3 => some (0, w3))) (fun E4 w5 => (if E4 = "java/lang/IllegalStateException" then some (1, w5) else (if E4 = "java/lang/IllegalArgumentException" then some (2, w5) else none)))))
set_option maxHeartbeats 4000000 in
set_option maxRecDepth 100000 in
theorem ct_L_bestPolicy {l : Launch} (hl : l.stackTraces = false) {B : Bt} {a0 : Nat} {x1 : Int32} {a2 : Nat} {w : MW} {r : Int32 × MW} (h : f_L_bestPolicy a0 x1 a2 w = some r) : hz_MetW l B 358 yL_bestPolicy cL_bestPolicy 4 (some .int) [(0, 9, 12, 13), (0, 9, 15, 19)] 10 2 12 [.ref (B.1 + a0), .int x1, .ref (B.1 + a2)] w (some (.int r.1)) r.2 := by
  refine hz_ofJW (rv := (fun r : Int32 × MW => some (.int r.1))) (wo := (fun r : Int32 × MW => r.2)) (own := RL) hl (by decide) rfl (Nat.le_of_ble_eq_true rfl) rfl ?_ h
  intro p e s m args below meth c
  unfold f_L_bestPolicy
  refine hz_gdr (fun ga0 => ?_)
  refine hz_gdr (fun ga2 => ?_)
  refine hz_aload_n (pc' := 1) (j := 2) dL_bestPolicy_0 rfl rfl rfl ?_
  refine hz_iconst (pc' := 2) (v := 0) dL_bestPolicy_1 rfl (by decide) ?_
  refine hz_aload_n (pc' := 3) (j := 0) dL_bestPolicy_2 rfl rfl rfl ?_
  refine hz_iload_n (pc' := 4) (j := 1) dL_bestPolicy_3 rfl rfl rfl ?_
  refine hz_tVi (pc' := 7) (av := [.int x1]) (rest := [.int 0, .ref (B.1 + a2)]) vl_L_111 (fun v w' h => ct_X9_bestPolicy hl h) ga0 rfl rfl (Nat.le_of_ble_eq_true rfl) (by decide) (by decide) dL_bestPolicy_4 rfl (fun v1 w2 => ?_) (fun E4 w5 => ?_)
  · refine hz_i2l (pc' := 8) dL_bestPolicy_7 rfl ?_
    refine hz_last (pc' := 9) ga2 rfl dL_bestPolicy_8 rfl (fun w3 => ?_)
    refine hz_goto (tgt := 18) dL_bestPolicy_9 (by decide) ?_
    refine hz_iconst (pc' := 19) (v := 0) dL_bestPolicy_18 rfl (by decide) ?_
    exact hz_reti dL_bestPolicy_19 rfl (by decide)
  · refine hz_xif (fun h9 => ?_) (fun _ => ?_)
    · subst h9
      refine hz_xcatch [] ⟨0, 9, 12, 13⟩ [⟨0, 9, 15, 19⟩] rfl (fun z hz => nomatch hz) (by decide) (by decide) hq_565 (List.mem_of_getElem? (i := 0) (by decide +kernel)) (fun q8 => ?_)
      refine hz_astore_n (pc' := 13) (L' := [(3, .ref q8), (0, .ref (B.1 + a0)), (1, .int x1), (2, .ref (B.1 + a2))]) dL_bestPolicy_12 rfl rfl (by decide) rfl ?_
      refine hz_iconst (pc' := 14) (v := 1) dL_bestPolicy_13 rfl (by decide) ?_
      exact hz_reti dL_bestPolicy_14 rfl (by decide)
    refine hz_xif (fun h7 => ?_) (fun _ => ?_)
    · subst h7
      refine hz_xcatch [⟨0, 9, 12, 13⟩] ⟨0, 9, 15, 19⟩ [] rfl (fun z hz => by rcases List.mem_singleton.mp hz with rfl; exact ⟨by decide, "java/lang/IllegalStateException", hq_565, List.mem_of_getElem? (i := 0) rfl⟩) (by decide) (by decide) hq_645 (List.mem_of_getElem? (i := 7) (by decide +kernel)) (fun q6 => ?_)
      refine hz_astore_n (pc' := 16) (L' := [(3, .ref q6), (0, .ref (B.1 + a0)), (1, .int x1), (2, .ref (B.1 + a2))]) dL_bestPolicy_15 rfl rfl (by decide) rfl ?_
      refine hz_iconst (pc' := 17) (v := 2) dL_bestPolicy_16 rfl (by decide) ?_
      exact hz_reti dL_bestPolicy_17 rfl (by decide)
    exact hz_xno
def f_L_coolLimit (a0 : Nat) (x1 : Int32) (a2 : Nat) (w : MW) : Option (Int32 × MW) :=
  hz_gd (hz_g 358 a0 10) (hz_gd (hz_g 358 a2 23) (hz_bt (f_X9_coolLimit a0 x1 w) (fun v1 w2 => hz_let (hz_po w2 (Int32.toInt64 v1)) (fun w3 => some (0, w3))) (fun E4 w5 => (if E4 = "java/lang/IllegalStateException" then some (1, w5) else (if E4 = "java/lang/IllegalArgumentException" then some (2, w5) else none)))))
set_option maxHeartbeats 4000000 in
set_option maxRecDepth 100000 in
theorem ct_L_coolLimit {l : Launch} (hl : l.stackTraces = false) {B : Bt} {a0 : Nat} {x1 : Int32} {a2 : Nat} {w : MW} {r : Int32 × MW} (h : f_L_coolLimit a0 x1 a2 w = some r) : hz_MetW l B 358 yL_coolLimit cL_coolLimit 4 (some .int) [(0, 9, 12, 13), (0, 9, 15, 19)] 10 2 12 [.ref (B.1 + a0), .int x1, .ref (B.1 + a2)] w (some (.int r.1)) r.2 := by
  refine hz_ofJW (rv := (fun r : Int32 × MW => some (.int r.1))) (wo := (fun r : Int32 × MW => r.2)) (own := RL) hl (by decide) rfl (Nat.le_of_ble_eq_true rfl) rfl ?_ h
  intro p e s m args below meth c
  unfold f_L_coolLimit
  refine hz_gdr (fun ga0 => ?_)
  refine hz_gdr (fun ga2 => ?_)
  refine hz_aload_n (pc' := 1) (j := 2) dL_coolLimit_0 rfl rfl rfl ?_
  refine hz_iconst (pc' := 2) (v := 0) dL_coolLimit_1 rfl (by decide) ?_
  refine hz_aload_n (pc' := 3) (j := 0) dL_coolLimit_2 rfl rfl rfl ?_
  refine hz_iload_n (pc' := 4) (j := 1) dL_coolLimit_3 rfl rfl rfl ?_
  refine hz_tVi (pc' := 7) (av := [.int x1]) (rest := [.int 0, .ref (B.1 + a2)]) vl_L_114 (fun v w' h => ct_X9_coolLimit hl h) ga0 rfl rfl (Nat.le_of_ble_eq_true rfl) (by decide) (by decide) dL_coolLimit_4 rfl (fun v1 w2 => ?_) (fun E4 w5 => ?_)
  · refine hz_i2l (pc' := 8) dL_coolLimit_7 rfl ?_
    refine hz_last (pc' := 9) ga2 rfl dL_coolLimit_8 rfl (fun w3 => ?_)
    refine hz_goto (tgt := 18) dL_coolLimit_9 (by decide) ?_
    refine hz_iconst (pc' := 19) (v := 0) dL_coolLimit_18 rfl (by decide) ?_
    exact hz_reti dL_coolLimit_19 rfl (by decide)
  · refine hz_xif (fun h9 => ?_) (fun _ => ?_)
    · subst h9
      refine hz_xcatch [] ⟨0, 9, 12, 13⟩ [⟨0, 9, 15, 19⟩] rfl (fun z hz => nomatch hz) (by decide) (by decide) hq_565 (List.mem_of_getElem? (i := 0) (by decide +kernel)) (fun q8 => ?_)
      refine hz_astore_n (pc' := 13) (L' := [(3, .ref q8), (0, .ref (B.1 + a0)), (1, .int x1), (2, .ref (B.1 + a2))]) dL_coolLimit_12 rfl rfl (by decide) rfl ?_
      refine hz_iconst (pc' := 14) (v := 1) dL_coolLimit_13 rfl (by decide) ?_
      exact hz_reti dL_coolLimit_14 rfl (by decide)
    refine hz_xif (fun h7 => ?_) (fun _ => ?_)
    · subst h7
      refine hz_xcatch [⟨0, 9, 12, 13⟩] ⟨0, 9, 15, 19⟩ [] rfl (fun z hz => by rcases List.mem_singleton.mp hz with rfl; exact ⟨by decide, "java/lang/IllegalStateException", hq_565, List.mem_of_getElem? (i := 0) rfl⟩) (by decide) (by decide) hq_645 (List.mem_of_getElem? (i := 7) (by decide +kernel)) (fun q6 => ?_)
      refine hz_astore_n (pc' := 16) (L' := [(3, .ref q6), (0, .ref (B.1 + a0)), (1, .int x1), (2, .ref (B.1 + a2))]) dL_coolLimit_15 rfl rfl (by decide) rfl ?_
      refine hz_iconst (pc' := 17) (v := 2) dL_coolLimit_16 rfl (by decide) ?_
      exact hz_reti dL_coolLimit_17 rfl (by decide)
    exact hz_xno
def f_L_levelEnergy (a0 : Nat) (x1 : Int32) (x2 : Int32) (x3 : Int32) (x4 : Int32) (a5 : Nat) (w : MW) : Option (Int32 × MW) :=
  hz_gd (hz_g 358 a0 10) (hz_gd (hz_g 358 a5 23) (hz_bt (f_X9_levelEnergy a0 x1 x2 x3 x4 w) (fun v1 w2 => hz_let (hz_po w2 (Int32.toInt64 v1)) (fun w3 => some (0, w3))) (fun E4 w5 => (if E4 = "java/lang/IllegalStateException" then some (1, w5) else (if E4 = "java/lang/IllegalArgumentException" then some (2, w5) else none)))))
set_option maxHeartbeats 4000000 in
set_option maxRecDepth 100000 in
theorem ct_L_levelEnergy {l : Launch} (hl : l.stackTraces = false) {B : Bt} {a0 : Nat} {x1 : Int32} {x2 : Int32} {x3 : Int32} {x4 : Int32} {a5 : Nat} {w : MW} {r : Int32 × MW} (h : f_L_levelEnergy a0 x1 x2 x3 x4 a5 w = some r) : hz_MetW l B 358 yL_levelEnergy cL_levelEnergy 7 (some .int) [(0, 14, 17, 13), (0, 14, 21, 19)] 10 5 30 [.ref (B.1 + a0), .int x1, .int x2, .int x3, .int x4, .ref (B.1 + a5)] w (some (.int r.1)) r.2 := by
  refine hz_ofJW (rv := (fun r : Int32 × MW => some (.int r.1))) (wo := (fun r : Int32 × MW => r.2)) (own := RL) hl (by decide) rfl (Nat.le_of_ble_eq_true rfl) rfl ?_ h
  intro p e s m args below meth c
  unfold f_L_levelEnergy
  refine hz_gdr (fun ga0 => ?_)
  refine hz_gdr (fun ga5 => ?_)
  refine hz_aload (pc' := 2) (j := 5) dL_levelEnergy_0 rfl rfl ?_
  refine hz_iconst (pc' := 3) (v := 0) dL_levelEnergy_2 rfl (by decide) ?_
  refine hz_aload_n (pc' := 4) (j := 0) dL_levelEnergy_3 rfl rfl rfl ?_
  refine hz_iload_n (pc' := 5) (j := 1) dL_levelEnergy_4 rfl rfl rfl ?_
  refine hz_iload_n (pc' := 6) (j := 2) dL_levelEnergy_5 rfl rfl rfl ?_
  refine hz_iload_n (pc' := 7) (j := 3) dL_levelEnergy_6 rfl rfl rfl ?_
  refine hz_iload (pc' := 9) (j := 4) dL_levelEnergy_7 rfl rfl ?_
  refine hz_tVi (pc' := 12) (av := [.int x1, .int x2, .int x3, .int x4]) (rest := [.int 0, .ref (B.1 + a5)]) vl_L_117 (fun v w' h => ct_X9_levelEnergy hl h) ga0 rfl rfl (Nat.le_of_ble_eq_true rfl) (by decide) (by decide) dL_levelEnergy_9 rfl (fun v1 w2 => ?_) (fun E4 w5 => ?_)
  · refine hz_i2l (pc' := 13) dL_levelEnergy_12 rfl ?_
    refine hz_last (pc' := 14) ga5 rfl dL_levelEnergy_13 rfl (fun w3 => ?_)
    refine hz_goto (tgt := 25) dL_levelEnergy_14 (by decide) ?_
    refine hz_iconst (pc' := 26) (v := 0) dL_levelEnergy_25 rfl (by decide) ?_
    exact hz_reti dL_levelEnergy_26 rfl (by decide)
  · refine hz_xif (fun h9 => ?_) (fun _ => ?_)
    · subst h9
      refine hz_xcatch [] ⟨0, 14, 17, 13⟩ [⟨0, 14, 21, 19⟩] rfl (fun z hz => nomatch hz) (by decide) (by decide) hq_565 (List.mem_of_getElem? (i := 0) (by decide +kernel)) (fun q8 => ?_)
      refine hz_astore (pc' := 19) (L' := [(6, .ref q8), (0, .ref (B.1 + a0)), (1, .int x1), (2, .int x2), (3, .int x3), (4, .int x4), (5, .ref (B.1 + a5))]) dL_levelEnergy_17 rfl (by decide) rfl ?_
      refine hz_iconst (pc' := 20) (v := 1) dL_levelEnergy_19 rfl (by decide) ?_
      exact hz_reti dL_levelEnergy_20 rfl (by decide)
    refine hz_xif (fun h7 => ?_) (fun _ => ?_)
    · subst h7
      refine hz_xcatch [⟨0, 14, 17, 13⟩] ⟨0, 14, 21, 19⟩ [] rfl (fun z hz => by rcases List.mem_singleton.mp hz with rfl; exact ⟨by decide, "java/lang/IllegalStateException", hq_565, List.mem_of_getElem? (i := 0) rfl⟩) (by decide) (by decide) hq_645 (List.mem_of_getElem? (i := 7) (by decide +kernel)) (fun q6 => ?_)
      refine hz_astore (pc' := 23) (L' := [(6, .ref q6), (0, .ref (B.1 + a0)), (1, .int x1), (2, .int x2), (3, .int x3), (4, .int x4), (5, .ref (B.1 + a5))]) dL_levelEnergy_21 rfl (by decide) rfl ?_
      refine hz_iconst (pc' := 24) (v := 2) dL_levelEnergy_23 rfl (by decide) ?_
      exact hz_reti dL_levelEnergy_24 rfl (by decide)
    exact hz_xno
def f_L_bestLevel (a0 : Nat) (x1 : Int32) (x2 : Int32) (x3 : Int32) (a4 : Nat) (w : MW) : Option (Int32 × MW) :=
  hz_gd (hz_g 358 a0 10) (hz_gd (hz_g 358 a4 23) (hz_bt (f_X9_bestLevel a0 x1 x2 x3 w) (fun v1 w2 => hz_let (hz_po w2 (Int32.toInt64 v1)) (fun w3 => some (0, w3))) (fun E4 w5 => (if E4 = "java/lang/IllegalStateException" then some (1, w5) else (if E4 = "java/lang/IllegalArgumentException" then some (2, w5) else none)))))
set_option maxHeartbeats 4000000 in
set_option maxRecDepth 100000 in
theorem ct_L_bestLevel {l : Launch} (hl : l.stackTraces = false) {B : Bt} {a0 : Nat} {x1 : Int32} {x2 : Int32} {x3 : Int32} {a4 : Nat} {w : MW} {r : Int32 × MW} (h : f_L_bestLevel a0 x1 x2 x3 a4 w = some r) : hz_MetW l B 358 yL_bestLevel cL_bestLevel 6 (some .int) [(0, 12, 15, 13), (0, 12, 19, 19)] 10 4 24 [.ref (B.1 + a0), .int x1, .int x2, .int x3, .ref (B.1 + a4)] w (some (.int r.1)) r.2 := by
  refine hz_ofJW (rv := (fun r : Int32 × MW => some (.int r.1))) (wo := (fun r : Int32 × MW => r.2)) (own := RL) hl (by decide) rfl (Nat.le_of_ble_eq_true rfl) rfl ?_ h
  intro p e s m args below meth c
  unfold f_L_bestLevel
  refine hz_gdr (fun ga0 => ?_)
  refine hz_gdr (fun ga4 => ?_)
  refine hz_aload (pc' := 2) (j := 4) dL_bestLevel_0 rfl rfl ?_
  refine hz_iconst (pc' := 3) (v := 0) dL_bestLevel_2 rfl (by decide) ?_
  refine hz_aload_n (pc' := 4) (j := 0) dL_bestLevel_3 rfl rfl rfl ?_
  refine hz_iload_n (pc' := 5) (j := 1) dL_bestLevel_4 rfl rfl rfl ?_
  refine hz_iload_n (pc' := 6) (j := 2) dL_bestLevel_5 rfl rfl rfl ?_
  refine hz_iload_n (pc' := 7) (j := 3) dL_bestLevel_6 rfl rfl rfl ?_
  refine hz_tVi (pc' := 10) (av := [.int x1, .int x2, .int x3]) (rest := [.int 0, .ref (B.1 + a4)]) vl_L_121 (fun v w' h => ct_X9_bestLevel hl h) ga0 rfl rfl (Nat.le_of_ble_eq_true rfl) (by decide) (by decide) dL_bestLevel_7 rfl (fun v1 w2 => ?_) (fun E4 w5 => ?_)
  · refine hz_i2l (pc' := 11) dL_bestLevel_10 rfl ?_
    refine hz_last (pc' := 12) ga4 rfl dL_bestLevel_11 rfl (fun w3 => ?_)
    refine hz_goto (tgt := 23) dL_bestLevel_12 (by decide) ?_
    refine hz_iconst (pc' := 24) (v := 0) dL_bestLevel_23 rfl (by decide) ?_
    exact hz_reti dL_bestLevel_24 rfl (by decide)
  · refine hz_xif (fun h9 => ?_) (fun _ => ?_)
    · subst h9
      refine hz_xcatch [] ⟨0, 12, 15, 13⟩ [⟨0, 12, 19, 19⟩] rfl (fun z hz => nomatch hz) (by decide) (by decide) hq_565 (List.mem_of_getElem? (i := 0) (by decide +kernel)) (fun q8 => ?_)
      refine hz_astore (pc' := 17) (L' := [(5, .ref q8), (0, .ref (B.1 + a0)), (1, .int x1), (2, .int x2), (3, .int x3), (4, .ref (B.1 + a4))]) dL_bestLevel_15 rfl (by decide) rfl ?_
      refine hz_iconst (pc' := 18) (v := 1) dL_bestLevel_17 rfl (by decide) ?_
      exact hz_reti dL_bestLevel_18 rfl (by decide)
    refine hz_xif (fun h7 => ?_) (fun _ => ?_)
    · subst h7
      refine hz_xcatch [⟨0, 12, 15, 13⟩] ⟨0, 12, 19, 19⟩ [] rfl (fun z hz => by rcases List.mem_singleton.mp hz with rfl; exact ⟨by decide, "java/lang/IllegalStateException", hq_565, List.mem_of_getElem? (i := 0) rfl⟩) (by decide) (by decide) hq_645 (List.mem_of_getElem? (i := 7) (by decide +kernel)) (fun q6 => ?_)
      refine hz_astore (pc' := 21) (L' := [(5, .ref q6), (0, .ref (B.1 + a0)), (1, .int x1), (2, .int x2), (3, .int x3), (4, .ref (B.1 + a4))]) dL_bestLevel_19 rfl (by decide) rfl ?_
      refine hz_iconst (pc' := 22) (v := 2) dL_bestLevel_21 rfl (by decide) ?_
      exact hz_reti dL_bestLevel_22 rfl (by decide)
    exact hz_xno
def f_L_mixedEnergy (a0 : Nat) (x1 : Int32) (x2 : Int32) (x3 : Int32) (a4 : Nat) (w : MW) : Option (Int32 × MW) :=
  hz_gd (hz_g 358 a0 10) (hz_gd (hz_g 358 a4 23) (hz_bt (f_X9_mixedEnergy a0 x1 x2 x3 w) (fun v1 w2 => hz_let (hz_po w2 (Int32.toInt64 v1)) (fun w3 => some (0, w3))) (fun E4 w5 => (if E4 = "java/lang/IllegalStateException" then some (1, w5) else (if E4 = "java/lang/IllegalArgumentException" then some (2, w5) else none)))))
set_option maxHeartbeats 4000000 in
set_option maxRecDepth 100000 in
theorem ct_L_mixedEnergy {l : Launch} (hl : l.stackTraces = false) {B : Bt} {a0 : Nat} {x1 : Int32} {x2 : Int32} {x3 : Int32} {a4 : Nat} {w : MW} {r : Int32 × MW} (h : f_L_mixedEnergy a0 x1 x2 x3 a4 w = some r) : hz_MetW l B 358 yL_mixedEnergy cL_mixedEnergy 6 (some .int) [(0, 12, 15, 13), (0, 12, 19, 19)] 10 4 24 [.ref (B.1 + a0), .int x1, .int x2, .int x3, .ref (B.1 + a4)] w (some (.int r.1)) r.2 := by
  refine hz_ofJW (rv := (fun r : Int32 × MW => some (.int r.1))) (wo := (fun r : Int32 × MW => r.2)) (own := RL) hl (by decide) rfl (Nat.le_of_ble_eq_true rfl) rfl ?_ h
  intro p e s m args below meth c
  unfold f_L_mixedEnergy
  refine hz_gdr (fun ga0 => ?_)
  refine hz_gdr (fun ga4 => ?_)
  refine hz_aload (pc' := 2) (j := 4) dL_mixedEnergy_0 rfl rfl ?_
  refine hz_iconst (pc' := 3) (v := 0) dL_mixedEnergy_2 rfl (by decide) ?_
  refine hz_aload_n (pc' := 4) (j := 0) dL_mixedEnergy_3 rfl rfl rfl ?_
  refine hz_iload_n (pc' := 5) (j := 1) dL_mixedEnergy_4 rfl rfl rfl ?_
  refine hz_iload_n (pc' := 6) (j := 2) dL_mixedEnergy_5 rfl rfl rfl ?_
  refine hz_iload_n (pc' := 7) (j := 3) dL_mixedEnergy_6 rfl rfl rfl ?_
  refine hz_tVi (pc' := 10) (av := [.int x1, .int x2, .int x3]) (rest := [.int 0, .ref (B.1 + a4)]) vl_L_125 (fun v w' h => ct_X9_mixedEnergy hl h) ga0 rfl rfl (Nat.le_of_ble_eq_true rfl) (by decide) (by decide) dL_mixedEnergy_7 rfl (fun v1 w2 => ?_) (fun E4 w5 => ?_)
  · refine hz_i2l (pc' := 11) dL_mixedEnergy_10 rfl ?_
    refine hz_last (pc' := 12) ga4 rfl dL_mixedEnergy_11 rfl (fun w3 => ?_)
    refine hz_goto (tgt := 23) dL_mixedEnergy_12 (by decide) ?_
    refine hz_iconst (pc' := 24) (v := 0) dL_mixedEnergy_23 rfl (by decide) ?_
    exact hz_reti dL_mixedEnergy_24 rfl (by decide)
  · refine hz_xif (fun h9 => ?_) (fun _ => ?_)
    · subst h9
      refine hz_xcatch [] ⟨0, 12, 15, 13⟩ [⟨0, 12, 19, 19⟩] rfl (fun z hz => nomatch hz) (by decide) (by decide) hq_565 (List.mem_of_getElem? (i := 0) (by decide +kernel)) (fun q8 => ?_)
      refine hz_astore (pc' := 17) (L' := [(5, .ref q8), (0, .ref (B.1 + a0)), (1, .int x1), (2, .int x2), (3, .int x3), (4, .ref (B.1 + a4))]) dL_mixedEnergy_15 rfl (by decide) rfl ?_
      refine hz_iconst (pc' := 18) (v := 1) dL_mixedEnergy_17 rfl (by decide) ?_
      exact hz_reti dL_mixedEnergy_18 rfl (by decide)
    refine hz_xif (fun h7 => ?_) (fun _ => ?_)
    · subst h7
      refine hz_xcatch [⟨0, 12, 15, 13⟩] ⟨0, 12, 19, 19⟩ [] rfl (fun z hz => by rcases List.mem_singleton.mp hz with rfl; exact ⟨by decide, "java/lang/IllegalStateException", hq_565, List.mem_of_getElem? (i := 0) rfl⟩) (by decide) (by decide) hq_645 (List.mem_of_getElem? (i := 7) (by decide +kernel)) (fun q6 => ?_)
      refine hz_astore (pc' := 21) (L' := [(5, .ref q6), (0, .ref (B.1 + a0)), (1, .int x1), (2, .int x2), (3, .int x3), (4, .ref (B.1 + a4))]) dL_mixedEnergy_19 rfl (by decide) rfl ?_
      refine hz_iconst (pc' := 22) (v := 2) dL_mixedEnergy_21 rfl (by decide) ?_
      exact hz_reti dL_mixedEnergy_22 rfl (by decide)
    exact hz_xno
def f_L_packedWakeUps (a0 : Nat) (x1 : Int32) (a2 : Nat) (w : MW) : Option (Int32 × MW) :=
  hz_gd (hz_g 358 a0 10) (hz_gd (hz_g 358 a2 23) (hz_bt (f_X9_packedWakeUps a0 x1 w) (fun v1 w2 => hz_let (hz_po w2 (Int32.toInt64 v1)) (fun w3 => some (0, w3))) (fun E4 w5 => (if E4 = "java/lang/IllegalStateException" then some (1, w5) else (if E4 = "java/lang/IllegalArgumentException" then some (2, w5) else none)))))
set_option maxHeartbeats 4000000 in
set_option maxRecDepth 100000 in
theorem ct_L_packedWakeUps {l : Launch} (hl : l.stackTraces = false) {B : Bt} {a0 : Nat} {x1 : Int32} {a2 : Nat} {w : MW} {r : Int32 × MW} (h : f_L_packedWakeUps a0 x1 a2 w = some r) : hz_MetW l B 358 yL_packedWakeUps cL_packedWakeUps 4 (some .int) [(0, 9, 12, 13), (0, 9, 15, 19)] 10 2 12 [.ref (B.1 + a0), .int x1, .ref (B.1 + a2)] w (some (.int r.1)) r.2 := by
  refine hz_ofJW (rv := (fun r : Int32 × MW => some (.int r.1))) (wo := (fun r : Int32 × MW => r.2)) (own := RL) hl (by decide) rfl (Nat.le_of_ble_eq_true rfl) rfl ?_ h
  intro p e s m args below meth c
  unfold f_L_packedWakeUps
  refine hz_gdr (fun ga0 => ?_)
  refine hz_gdr (fun ga2 => ?_)
  refine hz_aload_n (pc' := 1) (j := 2) dL_packedWakeUps_0 rfl rfl rfl ?_
  refine hz_iconst (pc' := 2) (v := 0) dL_packedWakeUps_1 rfl (by decide) ?_
  refine hz_aload_n (pc' := 3) (j := 0) dL_packedWakeUps_2 rfl rfl rfl ?_
  refine hz_iload_n (pc' := 4) (j := 1) dL_packedWakeUps_3 rfl rfl rfl ?_
  refine hz_tVi (pc' := 7) (av := [.int x1]) (rest := [.int 0, .ref (B.1 + a2)]) vl_L_128 (fun v w' h => ct_X9_packedWakeUps hl h) ga0 rfl rfl (Nat.le_of_ble_eq_true rfl) (by decide) (by decide) dL_packedWakeUps_4 rfl (fun v1 w2 => ?_) (fun E4 w5 => ?_)
  · refine hz_i2l (pc' := 8) dL_packedWakeUps_7 rfl ?_
    refine hz_last (pc' := 9) ga2 rfl dL_packedWakeUps_8 rfl (fun w3 => ?_)
    refine hz_goto (tgt := 18) dL_packedWakeUps_9 (by decide) ?_
    refine hz_iconst (pc' := 19) (v := 0) dL_packedWakeUps_18 rfl (by decide) ?_
    exact hz_reti dL_packedWakeUps_19 rfl (by decide)
  · refine hz_xif (fun h9 => ?_) (fun _ => ?_)
    · subst h9
      refine hz_xcatch [] ⟨0, 9, 12, 13⟩ [⟨0, 9, 15, 19⟩] rfl (fun z hz => nomatch hz) (by decide) (by decide) hq_565 (List.mem_of_getElem? (i := 0) (by decide +kernel)) (fun q8 => ?_)
      refine hz_astore_n (pc' := 13) (L' := [(3, .ref q8), (0, .ref (B.1 + a0)), (1, .int x1), (2, .ref (B.1 + a2))]) dL_packedWakeUps_12 rfl rfl (by decide) rfl ?_
      refine hz_iconst (pc' := 14) (v := 1) dL_packedWakeUps_13 rfl (by decide) ?_
      exact hz_reti dL_packedWakeUps_14 rfl (by decide)
    refine hz_xif (fun h7 => ?_) (fun _ => ?_)
    · subst h7
      refine hz_xcatch [⟨0, 9, 12, 13⟩] ⟨0, 9, 15, 19⟩ [] rfl (fun z hz => by rcases List.mem_singleton.mp hz with rfl; exact ⟨by decide, "java/lang/IllegalStateException", hq_565, List.mem_of_getElem? (i := 0) rfl⟩) (by decide) (by decide) hq_645 (List.mem_of_getElem? (i := 7) (by decide +kernel)) (fun q6 => ?_)
      refine hz_astore_n (pc' := 16) (L' := [(3, .ref q6), (0, .ref (B.1 + a0)), (1, .int x1), (2, .ref (B.1 + a2))]) dL_packedWakeUps_15 rfl rfl (by decide) rfl ?_
      refine hz_iconst (pc' := 17) (v := 2) dL_packedWakeUps_16 rfl (by decide) ?_
      exact hz_reti dL_packedWakeUps_17 rfl (by decide)
    exact hz_xno
def f_L_packedTick (a0 : Nat) (x1 : Int32) (x2 : Int32) (a3 : Nat) (w : MW) : Option (Int32 × MW) :=
  hz_gd (hz_g 358 a0 10) (hz_gd (hz_g 358 a3 23) (hz_bt (f_X9_packedTick a0 x1 x2 w) (fun v1 w2 => hz_let (hz_po w2 (Int32.toInt64 v1)) (fun w3 => some (0, w3))) (fun E4 w5 => (if E4 = "java/lang/IllegalStateException" then some (1, w5) else (if E4 = "java/lang/IllegalArgumentException" then some (2, w5) else none)))))
set_option maxHeartbeats 4000000 in
set_option maxRecDepth 100000 in
theorem ct_L_packedTick {l : Launch} (hl : l.stackTraces = false) {B : Bt} {a0 : Nat} {x1 : Int32} {x2 : Int32} {a3 : Nat} {w : MW} {r : Int32 × MW} (h : f_L_packedTick a0 x1 x2 a3 w = some r) : hz_MetW l B 358 yL_packedTick cL_packedTick 5 (some .int) [(0, 10, 13, 13), (0, 10, 17, 19)] 10 3 18 [.ref (B.1 + a0), .int x1, .int x2, .ref (B.1 + a3)] w (some (.int r.1)) r.2 := by
  refine hz_ofJW (rv := (fun r : Int32 × MW => some (.int r.1))) (wo := (fun r : Int32 × MW => r.2)) (own := RL) hl (by decide) rfl (Nat.le_of_ble_eq_true rfl) rfl ?_ h
  intro p e s m args below meth c
  unfold f_L_packedTick
  refine hz_gdr (fun ga0 => ?_)
  refine hz_gdr (fun ga3 => ?_)
  refine hz_aload_n (pc' := 1) (j := 3) dL_packedTick_0 rfl rfl rfl ?_
  refine hz_iconst (pc' := 2) (v := 0) dL_packedTick_1 rfl (by decide) ?_
  refine hz_aload_n (pc' := 3) (j := 0) dL_packedTick_2 rfl rfl rfl ?_
  refine hz_iload_n (pc' := 4) (j := 1) dL_packedTick_3 rfl rfl rfl ?_
  refine hz_iload_n (pc' := 5) (j := 2) dL_packedTick_4 rfl rfl rfl ?_
  refine hz_tVi (pc' := 8) (av := [.int x1, .int x2]) (rest := [.int 0, .ref (B.1 + a3)]) vl_L_131 (fun v w' h => ct_X9_packedTick hl h) ga0 rfl rfl (Nat.le_of_ble_eq_true rfl) (by decide) (by decide) dL_packedTick_5 rfl (fun v1 w2 => ?_) (fun E4 w5 => ?_)
  · refine hz_i2l (pc' := 9) dL_packedTick_8 rfl ?_
    refine hz_last (pc' := 10) ga3 rfl dL_packedTick_9 rfl (fun w3 => ?_)
    refine hz_goto (tgt := 21) dL_packedTick_10 (by decide) ?_
    refine hz_iconst (pc' := 22) (v := 0) dL_packedTick_21 rfl (by decide) ?_
    exact hz_reti dL_packedTick_22 rfl (by decide)
  · refine hz_xif (fun h9 => ?_) (fun _ => ?_)
    · subst h9
      refine hz_xcatch [] ⟨0, 10, 13, 13⟩ [⟨0, 10, 17, 19⟩] rfl (fun z hz => nomatch hz) (by decide) (by decide) hq_565 (List.mem_of_getElem? (i := 0) (by decide +kernel)) (fun q8 => ?_)
      refine hz_astore (pc' := 15) (L' := [(4, .ref q8), (0, .ref (B.1 + a0)), (1, .int x1), (2, .int x2), (3, .ref (B.1 + a3))]) dL_packedTick_13 rfl (by decide) rfl ?_
      refine hz_iconst (pc' := 16) (v := 1) dL_packedTick_15 rfl (by decide) ?_
      exact hz_reti dL_packedTick_16 rfl (by decide)
    refine hz_xif (fun h7 => ?_) (fun _ => ?_)
    · subst h7
      refine hz_xcatch [⟨0, 10, 13, 13⟩] ⟨0, 10, 17, 19⟩ [] rfl (fun z hz => by rcases List.mem_singleton.mp hz with rfl; exact ⟨by decide, "java/lang/IllegalStateException", hq_565, List.mem_of_getElem? (i := 0) rfl⟩) (by decide) (by decide) hq_645 (List.mem_of_getElem? (i := 7) (by decide +kernel)) (fun q6 => ?_)
      refine hz_astore (pc' := 19) (L' := [(4, .ref q6), (0, .ref (B.1 + a0)), (1, .int x1), (2, .int x2), (3, .ref (B.1 + a3))]) dL_packedTick_17 rfl (by decide) rfl ?_
      refine hz_iconst (pc' := 20) (v := 2) dL_packedTick_19 rfl (by decide) ?_
      exact hz_reti dL_packedTick_20 rfl (by decide)
    exact hz_xno
def f_L_packedJobs (a0 : Nat) (x1 : Int32) (x2 : Int32) (a3 : Nat) (w : MW) : Option (Int32 × MW) :=
  hz_gd (hz_g 358 a0 10) (hz_gd (hz_g 358 a3 23) (hz_bt (f_X9_packedJobs a0 x1 x2 w) (fun v1 w2 => hz_let (hz_po w2 (Int32.toInt64 v1)) (fun w3 => some (0, w3))) (fun E4 w5 => (if E4 = "java/lang/IllegalStateException" then some (1, w5) else (if E4 = "java/lang/IllegalArgumentException" then some (2, w5) else none)))))
set_option maxHeartbeats 4000000 in
set_option maxRecDepth 100000 in
theorem ct_L_packedJobs {l : Launch} (hl : l.stackTraces = false) {B : Bt} {a0 : Nat} {x1 : Int32} {x2 : Int32} {a3 : Nat} {w : MW} {r : Int32 × MW} (h : f_L_packedJobs a0 x1 x2 a3 w = some r) : hz_MetW l B 358 yL_packedJobs cL_packedJobs 5 (some .int) [(0, 10, 13, 13), (0, 10, 17, 19)] 10 3 18 [.ref (B.1 + a0), .int x1, .int x2, .ref (B.1 + a3)] w (some (.int r.1)) r.2 := by
  refine hz_ofJW (rv := (fun r : Int32 × MW => some (.int r.1))) (wo := (fun r : Int32 × MW => r.2)) (own := RL) hl (by decide) rfl (Nat.le_of_ble_eq_true rfl) rfl ?_ h
  intro p e s m args below meth c
  unfold f_L_packedJobs
  refine hz_gdr (fun ga0 => ?_)
  refine hz_gdr (fun ga3 => ?_)
  refine hz_aload_n (pc' := 1) (j := 3) dL_packedJobs_0 rfl rfl rfl ?_
  refine hz_iconst (pc' := 2) (v := 0) dL_packedJobs_1 rfl (by decide) ?_
  refine hz_aload_n (pc' := 3) (j := 0) dL_packedJobs_2 rfl rfl rfl ?_
  refine hz_iload_n (pc' := 4) (j := 1) dL_packedJobs_3 rfl rfl rfl ?_
  refine hz_iload_n (pc' := 5) (j := 2) dL_packedJobs_4 rfl rfl rfl ?_
  refine hz_tVi (pc' := 8) (av := [.int x1, .int x2]) (rest := [.int 0, .ref (B.1 + a3)]) vl_L_134 (fun v w' h => ct_X9_packedJobs hl h) ga0 rfl rfl (Nat.le_of_ble_eq_true rfl) (by decide) (by decide) dL_packedJobs_5 rfl (fun v1 w2 => ?_) (fun E4 w5 => ?_)
  · refine hz_i2l (pc' := 9) dL_packedJobs_8 rfl ?_
    refine hz_last (pc' := 10) ga3 rfl dL_packedJobs_9 rfl (fun w3 => ?_)
    refine hz_goto (tgt := 21) dL_packedJobs_10 (by decide) ?_
    refine hz_iconst (pc' := 22) (v := 0) dL_packedJobs_21 rfl (by decide) ?_
    exact hz_reti dL_packedJobs_22 rfl (by decide)
  · refine hz_xif (fun h9 => ?_) (fun _ => ?_)
    · subst h9
      refine hz_xcatch [] ⟨0, 10, 13, 13⟩ [⟨0, 10, 17, 19⟩] rfl (fun z hz => nomatch hz) (by decide) (by decide) hq_565 (List.mem_of_getElem? (i := 0) (by decide +kernel)) (fun q8 => ?_)
      refine hz_astore (pc' := 15) (L' := [(4, .ref q8), (0, .ref (B.1 + a0)), (1, .int x1), (2, .int x2), (3, .ref (B.1 + a3))]) dL_packedJobs_13 rfl (by decide) rfl ?_
      refine hz_iconst (pc' := 16) (v := 1) dL_packedJobs_15 rfl (by decide) ?_
      exact hz_reti dL_packedJobs_16 rfl (by decide)
    refine hz_xif (fun h7 => ?_) (fun _ => ?_)
    · subst h7
      refine hz_xcatch [⟨0, 10, 13, 13⟩] ⟨0, 10, 17, 19⟩ [] rfl (fun z hz => by rcases List.mem_singleton.mp hz with rfl; exact ⟨by decide, "java/lang/IllegalStateException", hq_565, List.mem_of_getElem? (i := 0) rfl⟩) (by decide) (by decide) hq_645 (List.mem_of_getElem? (i := 7) (by decide +kernel)) (fun q6 => ?_)
      refine hz_astore (pc' := 19) (L' := [(4, .ref q6), (0, .ref (B.1 + a0)), (1, .int x1), (2, .int x2), (3, .ref (B.1 + a3))]) dL_packedJobs_17 rfl (by decide) rfl ?_
      refine hz_iconst (pc' := 20) (v := 2) dL_packedJobs_19 rfl (by decide) ?_
      exact hz_reti dL_packedJobs_20 rfl (by decide)
    exact hz_xno
def f_L_undo (a0 : Nat) (a1 : Nat) (w : MW) : Option (Int32 × MW) :=
  hz_gd (hz_g 358 a0 10) (hz_gd (hz_g 358 a1 23) (hz_bt (f_X9_undo a0 w) (fun v1 w2 => hz_let (hz_po w2 (Int32.toInt64 v1)) (fun w3 => some (0, w3))) (fun E4 w5 => (if E4 = "java/lang/IllegalStateException" then some (1, w5) else none))))
set_option maxHeartbeats 4000000 in
set_option maxRecDepth 100000 in
theorem ct_L_undo {l : Launch} (hl : l.stackTraces = false) {B : Bt} {a0 : Nat} {a1 : Nat} {w : MW} {r : Int32 × MW} (h : f_L_undo a0 a1 w = some r) : hz_MetW l B 358 yL_undo cL_undo 3 (some .int) [(0, 8, 11, 13)] 9 1 6 [.ref (B.1 + a0), .ref (B.1 + a1)] w (some (.int r.1)) r.2 := by
  refine hz_ofJW (rv := (fun r : Int32 × MW => some (.int r.1))) (wo := (fun r : Int32 × MW => r.2)) (own := RL) hl (by decide) rfl (Nat.le_of_ble_eq_true rfl) rfl ?_ h
  intro p e s m args below meth c
  unfold f_L_undo
  refine hz_gdr (fun ga0 => ?_)
  refine hz_gdr (fun ga1 => ?_)
  refine hz_aload_n (pc' := 1) (j := 1) dL_undo_0 rfl rfl rfl ?_
  refine hz_iconst (pc' := 2) (v := 0) dL_undo_1 rfl (by decide) ?_
  refine hz_aload_n (pc' := 3) (j := 0) dL_undo_2 rfl rfl rfl ?_
  refine hz_tVi (pc' := 6) (av := []) (rest := [.int 0, .ref (B.1 + a1)]) vl_L_137 (fun v w' h => ct_X9_undo hl h) ga0 rfl rfl (Nat.le_of_ble_eq_true rfl) (by decide) (by decide) dL_undo_3 rfl (fun v1 w2 => ?_) (fun E4 w5 => ?_)
  · refine hz_i2l (pc' := 7) dL_undo_6 rfl ?_
    refine hz_last (pc' := 8) ga1 rfl dL_undo_7 rfl (fun w3 => ?_)
    refine hz_goto (tgt := 14) dL_undo_8 (by decide) ?_
    refine hz_iconst (pc' := 15) (v := 0) dL_undo_14 rfl (by decide) ?_
    exact hz_reti dL_undo_15 rfl (by decide)
  · refine hz_xif (fun h7 => ?_) (fun _ => ?_)
    · subst h7
      refine hz_xcatch [] ⟨0, 8, 11, 13⟩ [] rfl (fun z hz => nomatch hz) (by decide) (by decide) hq_565 (List.mem_of_getElem? (i := 0) (by decide +kernel)) (fun q6 => ?_)
      refine hz_astore_n (pc' := 12) (L' := [(2, .ref q6), (0, .ref (B.1 + a0)), (1, .ref (B.1 + a1))]) dL_undo_11 rfl rfl (by decide) rfl ?_
      refine hz_iconst (pc' := 13) (v := 1) dL_undo_12 rfl (by decide) ?_
      exact hz_reti dL_undo_13 rfl (by decide)
    exact hz_xno
