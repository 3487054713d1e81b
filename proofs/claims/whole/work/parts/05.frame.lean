/-! ===== the memory of the law's run: cells by their number in the order of making ===== -/
/-- numbers (fields and elements), pointers, the law's long, the law's double -/
abbrev MW : Type := (Nat → Nat → Int32) × (Nat → Nat → Option Nat) × Int64 × UInt64
/-- base address; classes; array classes; addresses of the String constants and of their bytes -/
abbrev Bt : Type := Nat × va_G × (Nat → ClassId) × (Nat → Nat) × (Nat → Nat)
def hz_shL : List Nat := [10, 5, 21, 6, 3, 20, 20, 20, 20, 20, 20, 20, 20, 20, 20, 20, 8, 3, 20, 20, 20, 20, 20, 20, 20, 20, 20, 20, 20, 4, 2, 20, 20, 20, 20, 20, 20, 20, 20, 20, 20, 20, 20, 20, 20, 20, 20, 20, 20, 20, 20, 20, 20, 20, 4, 2, 20, 20, 20, 20, 20, 20, 20, 20, 20, 20, 20, 20, 20, 20, 20, 20, 20, 20, 20, 20, 20, 20, 20, 1, 22, 4, 2, 20, 20, 20, 20, 20, 20, 20, 20, 20, 20, 20, 20, 20, 20, 20, 20, 20, 20, 20, 20, 20, 20, 20, 4, 2, 20, 20, 20, 20, 20, 20, 20, 20, 20, 20, 20, 20, 20, 20, 20, 20, 20, 20, 20, 20, 20, 20, 20, 4, 2, 20, 20, 20, 20, 20, 20, 20, 20, 20, 20, 20, 20, 20, 20, 20, 20, 20, 20, 20, 20, 20, 20, 20, 4, 2, 20, 20, 20, 20, 20, 20, 20, 20, 20, 20, 20, 20, 20, 20, 20, 20, 20, 20, 20, 20, 20, 20, 20, 4, 2, 20, 20, 20, 20, 20, 20, 20, 20, 20, 20, 20, 20, 20, 20, 20, 20, 20, 20, 20, 20, 20, 20, 20, 4, 2, 20, 20, 20, 20, 20, 20, 20, 20, 20, 20, 20, 20, 20, 20, 20, 20, 20, 20, 20, 20, 20, 20, 20, 4, 2, 20, 20, 20, 20, 20, 20, 20, 20, 20, 20, 20, 20, 20, 20, 20, 20, 20, 20, 20, 20, 20, 20, 20, 4, 2, 20, 20, 20, 20, 20, 20, 20, 20, 20, 20, 20, 20, 20, 20, 20, 20, 20, 20, 20, 20, 20, 20, 20, 4, 2, 20, 20, 20, 20, 20, 20, 20, 20, 20, 20, 20, 20, 20, 20, 20, 20, 20, 20, 20, 20, 20, 20, 20, 4, 2, 20, 20, 20, 20, 20, 20, 20, 20, 20, 20, 20, 20, 20, 20, 20, 20, 20, 20, 20, 20, 20, 20, 20, 9, 20, 20, 7, 20, 11, 20, 20, 20, 20, 20, 20, 20, 20, 20, 20, 20, 20, 20, 20, 20, 20, 20, 20, 20, 23, 24]
def hz_lnL : List Nat := [0, 0, 500, 0, 0, 4, 4, 4, 4, 4, 4, 4, 4, 4, 20, 20, 0, 0, 4, 4, 4, 4, 4, 4, 4, 4, 4, 20, 20, 0, 0, 4, 4, 24, 24, 24, 24, 24, 24, 24, 24, 8, 8, 4, 4, 4, 4, 4, 4, 4, 4, 4, 4, 16, 0, 0, 4, 4, 24, 24, 24, 24, 24, 24, 24, 24, 8, 8, 4, 4, 4, 4, 4, 4, 4, 4, 4, 4, 16, 0, 10, 0, 0, 4, 4, 24, 24, 24, 24, 24, 24, 24, 24, 8, 8, 4, 4, 4, 4, 4, 4, 4, 4, 4, 4, 16, 0, 0, 4, 4, 24, 24, 24, 24, 24, 24, 24, 24, 8, 8, 4, 4, 4, 4, 4, 4, 4, 4, 4, 4, 16, 0, 0, 4, 4, 24, 24, 24, 24, 24, 24, 24, 24, 8, 8, 4, 4, 4, 4, 4, 4, 4, 4, 4, 4, 16, 0, 0, 4, 4, 24, 24, 24, 24, 24, 24, 24, 24, 8, 8, 4, 4, 4, 4, 4, 4, 4, 4, 4, 4, 16, 0, 0, 4, 4, 24, 24, 24, 24, 24, 24, 24, 24, 8, 8, 4, 4, 4, 4, 4, 4, 4, 4, 4, 4, 16, 0, 0, 4, 4, 24, 24, 24, 24, 24, 24, 24, 24, 8, 8, 4, 4, 4, 4, 4, 4, 4, 4, 4, 4, 16, 0, 0, 4, 4, 24, 24, 24, 24, 24, 24, 24, 24, 8, 8, 4, 4, 4, 4, 4, 4, 4, 4, 4, 4, 16, 0, 0, 4, 4, 24, 24, 24, 24, 24, 24, 24, 24, 8, 8, 4, 4, 4, 4, 4, 4, 4, 4, 4, 4, 16, 0, 0, 4, 4, 24, 24, 24, 24, 24, 24, 24, 24, 8, 8, 4, 4, 4, 4, 4, 4, 4, 4, 4, 4, 16, 0, 0, 4, 4, 24, 24, 24, 24, 24, 24, 24, 24, 8, 8, 4, 4, 4, 4, 4, 4, 4, 4, 4, 4, 16, 0, 24, 24, 0, 501, 0, 287, 2870, 4, 4, 4, 4, 4, 4, 4, 20, 20, 500, 36, 40, 287, 501, 501, 24, 24, 1, 1]
def hz_nfL : List Nat := [2, 3, 15, 13, 15, 2, 5, 1, 4, 3, 10, 38]
def hz_ptL : List (List Bool) := [[true, false], [false, false, true], [false, false, false, true, true, true, true, true, true, true, true, true, true, true, true], [false, false, true, true, true, true, true, true, true, true, true, true, true], [true, true, false, false, true, true, true, true, true, true, true, true, true, true, true], [true, false], [true, false, false, true, false], [true], [true, false, false, false], [false, true, true], [true, true, true, true, true, true, true, true, false, false], [true, true, false, false, false, false, true, true, true, true, true, true, true, true, true, true, false, false, false, false, false, false, false, false, false, false, true, true, true, false, false, false, false, true, true, true, true, false]]
def hz_sh (a : Nat) : Nat := hz_shL.getD a 99
def hz_ln (a : Nat) : Nat := hz_lnL.getD a 0
def hz_nf (c : Nat) : Nat := hz_nfL.getD c 0
def hz_isP (c k : Nat) : Bool := (hz_ptL.getD c []).getD k false
def hz_g (n a c : Nat) : Bool := decide (a < n) && (hz_sh a == c)
theorem hz_g_lt {n a c : Nat} (h : hz_g n a c = true) : a < n := by
  simp only [hz_g, Bool.and_eq_true, decide_eq_true_eq] at h
  exact h.1
theorem hz_g_sh {n a c : Nat} (h : hz_g n a c = true) : hz_sh a = c := by
  simp only [hz_g, Bool.and_eq_true, beq_iff_eq] at h
  exact h.2
def hz_fv (B : Bt) (w : MW) (a c k : Nat) : Value := bif hz_isP c k then va_rf ((w.2.1 a k).map (B.1 + ·)) else .int (w.1 a k)
def hz_el (B : Bt) (w : MW) (a : Nat) : va_E :=
  if hz_sh a = 20 then .inl (B.2.2.1 0, hz_ln a, .inl (w.1 a)) else
  if hz_sh a = 21 then .inl (B.2.2.1 1, hz_ln a, .inl (w.1 a)) else
  if hz_sh a = 22 then .inl (B.2.2.1 2, hz_ln a, .inr (.inr (.inr (.inr (fun j => (w.2.1 a j).map (B.1 + ·)))))) else
  if hz_sh a = 23 then .inl (B.2.2.1 3, hz_ln a, .inr (.inl (vp_updL (fun _ => 0) 0 w.2.2.1))) else
  if hz_sh a = 24 then .inl (B.2.2.1 4, hz_ln a, .inr (.inr (.inr (.inl (vf_upd (fun _ => 0) 0 w.2.2.2))))) else
  .inr (hz_sh a, (List.range (hz_nf (hz_sh a))).map (hz_fv B w a (hz_sh a)))
def hz_wl (B : Bt) (n : Nat) (w : MW) : va_W := (List.range n).map (fun a => (B.1 + a, hz_el B w a))
def hz_A (B : Bt) : Nat → Prop := fun q => B.1 ≤ q
def hz_tys (B : Bt) : List (ClassId × FieldType) := [(B.2.2.1 0, .int), (B.2.2.1 1, .byte), (B.2.2.1 2, .object RX3), (B.2.2.1 3, .long), (B.2.2.1 4, .double)]
theorem hz_wl_at {B : Bt} {n : Nat} {w : MW} {a : Nat} (h : a < n) : (hz_wl B n w)[a]? = some (B.1 + a, hz_el B w a) := by
  simp [hz_wl, h]
theorem hz_wl_set {B : Bt} {n : Nat} {w w' : MW} {a : Nat} {E : va_E} (he : hz_el B w' a = E) (ho : ∀ b, b ≠ a → hz_el B w' b = hz_el B w b) : (hz_wl B n w).set a (B.1 + a, E) = hz_wl B n w' := by
  apply List.ext_getElem?
  intro i
  rw [List.getElem?_set]
  by_cases hi : a = i
  · subst hi
    by_cases ha : a < n
    · simp [hz_wl, ha, he]
    · simp [hz_wl, ha]
  · rw [if_neg hi]
    by_cases ha : i < n
    · simp [hz_wl, ha, ho i (fun q => hi q.symm)]
    · simp [hz_wl, ha]
theorem hz_wl_add {B : Bt} {n : Nat} {w : MW} : hz_wl B n w ++ [(B.1 + n, hz_el B w n)] = hz_wl B (n + 1) w := by
  simp [hz_wl, List.range_succ]
theorem hz_wlD {B : Bt} {n : Nat} {w : MW} : va_D (hz_A B) (hz_wl B n w) := by
  refine ⟨fun i j p q hi hj h => ?_, fun k q hk => ?_⟩
  · simp only [hz_wl, List.getElem?_map, Option.map_eq_some_iff] at hi hj
    obtain ⟨x, hx, rfl⟩ := hi
    obtain ⟨y, hy, rfl⟩ := hj
    obtain ⟨h1, h1'⟩ := List.getElem?_eq_some_iff.mp hx
    obtain ⟨h2, h2'⟩ := List.getElem?_eq_some_iff.mp hy
    simp only [List.getElem_range] at h1' h2'
    dsimp only at h
    omega
  · simp only [hz_wl, List.getElem?_map, Option.map_eq_some_iff] at hk
    obtain ⟨x, -, rfl⟩ := hk
    exact Nat.le_add_right _ _
/-- the heap holds the memory -/
def hz_Hd (B : Bt) (n : Nat) (w : MW) (H : Heap) : Prop := B.1 + n ≤ H.size ∧ va_P B.2.1 vwCl (hz_wl B n w) H
theorem hz_Hd.of {B : Bt} {n : Nat} {w : MW} {A : Nat → Prop} {H0 H : Heap} {locs : List Loc} (hP : va_P B.2.1 vwCl (hz_wl B n w) H) (hS : va_S A H0 H locs) (h0 : B.1 ≤ H0.size) : hz_Hd B n w H := by
  refine ⟨?_, hP⟩
  cases n with
  | zero => exact Nat.le_trans h0 hS.1
  | succ n =>
    have := (hP n _ (hz_wl_at (Nat.lt_succ_self n))).lt
    dsimp only at this
    omega
theorem hz_Hd.kept {B : Bt} {n : Nat} {w : MW} {H H1 : Heap} (h : hz_Hd B n w H) (hz : H.size ≤ H1.size) (hq : ∀ q : Nat, q < H.size → H1[q]? = H[q]?) : hz_Hd B n w H1 :=
  ⟨Nat.le_trans h.1 hz, h.2.kept (fun k q hk => hq q.1 (h.2 k q hk).lt)⟩
-- elements
theorem hz_el_i {B : Bt} {w : MW} {a : Nat} (h : hz_sh a = 20) : hz_el B w a = .inl (B.2.2.1 0, hz_ln a, .inl (w.1 a)) := by simp [hz_el, h]
theorem hz_el_b {B : Bt} {w : MW} {a : Nat} (h : hz_sh a = 21) : hz_el B w a = .inl (B.2.2.1 1, hz_ln a, .inl (w.1 a)) := by simp [hz_el, h]
theorem hz_el_r {B : Bt} {w : MW} {a : Nat} (h : hz_sh a = 22) : hz_el B w a = .inl (B.2.2.1 2, hz_ln a, .inr (.inr (.inr (.inr (fun j => (w.2.1 a j).map (B.1 + ·)))))) := by simp [hz_el, h]
theorem hz_el_l {B : Bt} {w : MW} {a : Nat} (h : hz_sh a = 23) : hz_el B w a = .inl (B.2.2.1 3, hz_ln a, .inr (.inl (vp_updL (fun _ => 0) 0 w.2.2.1))) := by simp [hz_el, h]
theorem hz_el_d {B : Bt} {w : MW} {a : Nat} (h : hz_sh a = 24) : hz_el B w a = .inl (B.2.2.1 4, hz_ln a, .inr (.inr (.inr (.inl (vf_upd (fun _ => 0) 0 w.2.2.2))))) := by simp [hz_el, h]
theorem hz_el_o {B : Bt} {w : MW} {a c : Nat} (h : hz_sh a = c) (hc : c < 20) : hz_el B w a = .inr (c, (List.range (hz_nf c)).map (hz_fv B w a c)) := by
  subst h
  simp only [hz_el]
  rw [if_neg (by omega), if_neg (by omega), if_neg (by omega), if_neg (by omega), if_neg (by omega)]
-- writes
def hz_pn (w : MW) (a k : Nat) (x : Int32) : MW := (va_up w.1 a (upd (w.1 a) k x), w.2)
def hz_pp (w : MW) (a k : Nat) (x : Option Nat) : MW := (w.1, va_up w.2.1 a (va_up (w.2.1 a) k x), w.2.2)
def hz_pa (w : MW) (a : Nat) (f : Nat → Int32) : MW := (va_up w.1 a f, w.2)
def hz_po (w : MW) (x : Int64) : MW := (w.1, w.2.1, x, w.2.2.2)
def hz_pd (w : MW) (x : UInt64) : MW := (w.1, w.2.1, w.2.2.1, x)
theorem hz_el_ne {B : Bt} {w w' : MW} {b : Nat} (h1 : w'.1 b = w.1 b) (h2 : w'.2.1 b = w.2.1 b) (h3 : w'.2.2 = w.2.2) : hz_el B w' b = hz_el B w b := by
  have e : hz_fv B w' b (hz_sh b) = hz_fv B w b (hz_sh b) := by
    funext k
    simp only [hz_fv, h1, h2]
  simp only [hz_el, h1, h2, h3, e]
theorem hz_el_pn {B : Bt} {w : MW} {a k b : Nat} {x : Int32} (h : b ≠ a) : hz_el B (hz_pn w a k x) b = hz_el B w b :=
  hz_el_ne (by simp [hz_pn, va_up, h]) rfl rfl
theorem hz_el_pa {B : Bt} {w : MW} {a b : Nat} {f : Nat → Int32} (h : b ≠ a) : hz_el B (hz_pa w a f) b = hz_el B w b :=
  hz_el_ne (by simp [hz_pa, va_up, h]) rfl rfl
theorem hz_el_pp {B : Bt} {w : MW} {a k b : Nat} {x : Option Nat} (h : b ≠ a) : hz_el B (hz_pp w a k x) b = hz_el B w b :=
  hz_el_ne rfl (by simp [hz_pp, va_up, h]) rfl
theorem hz_23 {b : Nat} (h : hz_sh b = 23) : b = 356 := by
  by_cases hl : b < hz_shL.length
  · exact (by decide +kernel : ∀ b, b < hz_shL.length → hz_sh b = 23 → b = 356) b hl h
  · exact absurd h (by simp [hz_sh, List.getD, List.getElem?_eq_none (Nat.le_of_not_lt hl)])
theorem hz_24 {b : Nat} (h : hz_sh b = 24) : b = 357 := by
  by_cases hl : b < hz_shL.length
  · exact (by decide +kernel : ∀ b, b < hz_shL.length → hz_sh b = 24 → b = 357) b hl h
  · exact absurd h (by simp [hz_sh, List.getD, List.getElem?_eq_none (Nat.le_of_not_lt hl)])
theorem hz_el_po {B : Bt} {w : MW} {b : Nat} {x : Int64} (h : b ≠ 356) : hz_el B (hz_po w x) b = hz_el B w b := by
  have h1 : ¬ hz_sh b = 23 := fun q => h (hz_23 q)
  have e : hz_fv B (hz_po w x) b (hz_sh b) = hz_fv B w b (hz_sh b) := rfl
  simp only [hz_el, if_neg h1, e]
  rfl
theorem hz_el_pd {B : Bt} {w : MW} {b : Nat} {x : UInt64} (h : b ≠ 357) : hz_el B (hz_pd w x) b = hz_el B w b := by
  have h1 : ¬ hz_sh b = 24 := fun q => h (hz_24 q)
  have e : hz_fv B (hz_pd w x) b (hz_sh b) = hz_fv B w b (hz_sh b) := rfl
  simp only [hz_el, if_neg h1, e]
  rfl
theorem hz_fs_at {B : Bt} {w : MW} {a c k : Nat} (hk : k < hz_nf c) : ((List.range (hz_nf c)).map (hz_fv B w a c))[k]? = some (hz_fv B w a c k) := by
  simp [hk]
theorem hz_map_set {α : Type} {n k : Nat} {f g : Nat → α} {v : α} (hk : g k = v) (ho : ∀ j, j ≠ k → g j = f j) : ((List.range n).map f).set k v = (List.range n).map g := by
  apply List.ext_getElem?
  intro i
  rw [List.getElem?_set]
  by_cases hi : k = i
  · subst hi
    by_cases ha : k < n
    · simp [ha, hk]
    · simp [ha]
  · rw [if_neg hi]
    by_cases ha : i < n
    · simp [ha, ho i (fun q => hi q.symm)]
    · simp [ha]
theorem hz_fs_pn {B : Bt} {w : MW} {a c k : Nat} {x : Int32} (hp : hz_isP c k = false) : ((List.range (hz_nf c)).map (hz_fv B w a c)).set k (.int x) = (List.range (hz_nf c)).map (hz_fv B (hz_pn w a k x) a c) := by
  refine hz_map_set ?_ (fun j hj => ?_)
  · simp [hz_fv, hp, hz_pn, va_up, upd]
  · simp [hz_fv, hz_pn, va_up, upd, hj]
theorem hz_fs_pp {B : Bt} {w : MW} {a c k b : Nat} (hp : hz_isP c k = true) : ((List.range (hz_nf c)).map (hz_fv B w a c)).set k (.ref (B.1 + b)) = (List.range (hz_nf c)).map (hz_fv B (hz_pp w a k (some b)) a c) := by
  refine hz_map_set ?_ (fun j hj => ?_)
  · simp [hz_fv, hp, hz_pp, va_up, va_rf]
  · simp [hz_fv, hz_pp, va_up, hj]
