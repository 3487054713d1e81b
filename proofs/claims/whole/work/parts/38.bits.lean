def hbit (s : Int32) (j : Nat) : Bool := s.toBitVec.getLsbD j
theorem hbit_ext {s t : Int32} (h : ∀ i, i < 32 → hbit s i = hbit t i) : s = t :=
  Int32.toBitVec_inj.mp (BitVec.eq_of_getLsbD_eq h)
theorem bt_u : ∀ j, j < 32 → (((nI j).toUInt32 &&& Int32.toUInt32 31).toBitVec % 32).toNat = j := by decide +kernel
theorem bt_s : ∀ j, j < 32 → ((nI j &&& 31).toBitVec.smod 32).toNat = j := by decide +kernel
theorem bt_one (x : Int32) : (x &&& 1 = 1) ↔ hbit x 0 = true := by
  rw [← Int32.toBitVec_inj, Int32.toBitVec_and, show (1 : Int32).toBitVec = 1#32 from rfl, BitVec.and_one_eq_setWidth_ofBool_getLsbD]
  show _ ↔ x.toBitVec.getLsbD 0 = true
  cases x.toBitVec.getLsbD 0 <;> decide
theorem bt_and1 (x : Int32) : x &&& 1 = if hbit x 0 = true then 1 else 0 := by
  rw [← Int32.toBitVec_inj, Int32.toBitVec_and, show (1 : Int32).toBitVec = 1#32 from rfl, BitVec.and_one_eq_setWidth_ofBool_getLsbD]
  show _ = (if x.toBitVec.getLsbD 0 = true then (1 : Int32) else 0).toBitVec
  cases x.toBitVec.getLsbD 0 <;> decide
theorem bt_ushr {s : Int32} {j : Nat} (h : j < 32) (i : Nat) : hbit ((s.toUInt32 >>> ((nI j).toUInt32 &&& Int32.toUInt32 31)).toInt32) i = hbit s (j + i) := by
  show (s.toBitVec >>> (((nI j).toUInt32 &&& Int32.toUInt32 31).toBitVec % 32).toNat).getLsbD i = _
  rw [bt_u j h, BitVec.getLsbD_ushiftRight]
  rfl
theorem bt_sshr {s : Int32} {j : Nat} (h : j < 32) : hbit (s >>> (nI j &&& 31)) 0 = hbit s j := by
  show (s.toBitVec.sshiftRight ((nI j &&& 31).toBitVec.smod 32).toNat).getLsbD 0 = _
  rw [bt_s j h, BitVec.getLsbD_sshiftRight]
  have h2 : j + 0 < 32 := h
  simp [h2, hbit]
  intro h3
  omega
theorem bt_shl {j : Nat} (h : j < 32) {i : Nat} (hi : i < 32) : hbit ((1 : Int32) <<< (nI j &&& 31)) i = decide (i = j) := by
  show ((1#32) <<< ((nI j &&& 31).toBitVec.smod 32).toNat).getLsbD i = _
  rw [bt_s j h, BitVec.getLsbD_shiftLeft, BitVec.getLsbD_one]
  by_cases h1 : i < j
  · simp [hi, h1]
    omega
  · simp [hi, h1]
    omega
theorem hbit_or (s t : Int32) (i : Nat) : hbit (s ||| t) i = (hbit s i || hbit t i) := by
  show (s.toBitVec ||| t.toBitVec).getLsbD i = _
  rw [BitVec.getLsbD_or]
  rfl
theorem hbit_and (s t : Int32) (i : Nat) : hbit (s &&& t) i = (hbit s i && hbit t i) := by
  show (s.toBitVec &&& t.toBitVec).getLsbD i = _
  rw [BitVec.getLsbD_and]
  rfl
theorem hbit_xor (s t : Int32) (i : Nat) : hbit (s ^^^ t) i = (hbit s i ^^ hbit t i) := by
  show (s.toBitVec ^^^ t.toBitVec).getLsbD i = _
  rw [BitVec.getLsbD_xor]
  rfl
theorem hbit_m1 : ∀ i, i < 32 → hbit (-1) i = true := by decide +kernel
theorem hbit_0 (i : Nat) : hbit 0 i = false := by
  show (0#32).getLsbD i = false
  simp
theorem hbit_all : ∀ c, c < 25 → ∀ i, i < 32 → hbit ((1 : Int32) <<< (nI c &&& 31) - 1) i = decide (i < c) := by decide +kernel
theorem hbit_with {s : Int32} {j i : Nat} (h : j < 32) (hi : i < 32) : hbit (s ||| ((1 : Int32) <<< (nI j &&& 31))) i = (hbit s i || decide (i = j)) := by rw [hbit_or, bt_shl h hi]
theorem hbit_not {t : Int32} {i : Nat} (hi : i < 32) : hbit (t ^^^ (-1)) i = !hbit t i := by
  rw [hbit_xor, hbit_m1 i hi]
  simp
theorem hbit_andnot {s t : Int32} {i : Nat} (hi : i < 32) : hbit (s &&& (t ^^^ (-1))) i = (hbit s i && !hbit t i) := by rw [hbit_and, hbit_not hi]
theorem hbit_without {s : Int32} {j i : Nat} (h : j < 32) (hi : i < 32) : hbit (s &&& (((1 : Int32) <<< (nI j &&& 31)) ^^^ (-1))) i = (hbit s i && !decide (i = j)) := by rw [hbit_andnot hi, bt_shl h hi]
theorem g_holds {s : Int32} {j : Nat} (h : j < 32) (w : MW) : f_X9_holds s (nI j) w = some (if hbit s j = true then 1 else 0, w) := by
  unfold f_X9_holds
  have h1 := bt_one ((s.toUInt32 >>> ((nI j).toUInt32 &&& Int32.toUInt32 31)).toInt32)
  rw [bt_ushr h 0, Nat.add_zero] at h1
  cases hs : hbit s j with
  | true => rw [if_pos (h1.mpr hs)]; rfl
  | false => rw [if_neg (fun q => by rw [h1, hs] at q; cases q)]; rfl
theorem g_with (s : Int32) (j : Nat) (w : MW) : f_X9_with s (nI j) w = some (s ||| ((1 : Int32) <<< (nI j &&& 31)), w) := rfl
theorem g_without (s : Int32) (j : Nat) (w : MW) : f_X9_without s (nI j) w = some (s &&& (((1 : Int32) <<< (nI j &&& 31)) ^^^ (-1)), w) := rfl
theorem nI_1' (a : Nat) : nI a + Int32.ofInt 1 = nI (a + 1) := nI_1 a
theorem nI_m4 (a : Nat) : nI a * 4 = nI (a * 4) := pk_mul a 4
theorem nI_m5 (a : Nat) : nI a * 5 = nI (a * 5) := pk_mul a 5
theorem nI_5m (a : Nat) : 5 * nI a = nI (5 * a) := pk_mul 5 a
theorem nI_9m (a : Nat) : 9 * nI a = nI (9 * a) := pk_mul 9 a
theorem nI_13m (a : Nat) : 13 * nI a = nI (13 * a) := pk_mul 13 a
theorem nI_2m (a : Nat) : 2 * nI a = nI (2 * a) := pk_mul 2 a
theorem nI_287m (a : Nat) : 287 * nI a = nI (287 * a) := pk_mul 287 a
theorem nI_19a (a : Nat) : 19 + nI a = nI (19 + a) := nI_add 19 a
theorem nI_71a (a : Nat) : 71 + nI a = nI (71 + a) := nI_add 71 a
theorem nI_3a (a : Nat) : 3 + nI a = nI (3 + a) := nI_add 3 a
theorem nI_9a (a : Nat) : 9 + nI a = nI (9 + a) := nI_add 9 a
theorem nI_11a (a : Nat) : 11 + nI a = nI (11 + a) := nI_add 11 a
