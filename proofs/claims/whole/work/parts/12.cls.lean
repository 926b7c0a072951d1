set_option maxRecDepth 100000
def zFk : FieldType → Nat
  | .int => 0
  | .boolean => 1
  | .object _ => 2
  | .array _ => 2
  | _ => 9
def zClOk (ci : Nat) (q : vw_C) : Prop := (∀ w ∈ u_ws q.1 q.2.1 q.2.2, w ∈ zZW) ∧ (∀ a, a < q.2.2 → ∀ b, b < q.2.2 → a ≠ b → (q.2.1 a).2.1 ≠ (q.2.1 b).2.1) ∧ zFn ci = q.2.2 ∧ q.1 = zOn ci ∧ ∃ ty : Nat → FieldType, (∀ k, k < q.2.2 → parseFieldDescriptor (q.2.1 k).2.2.1 = some (ty k)) ∧ ∀ k, k < q.2.2 → zFd ci k = some (zFk (ty k), (q.2.1 k).2.2.2) ∧ (q.2.1 k).1 = q.1
theorem zqa_0 : zFn 0 = 6 ∧ RX0 = zOn 0 := by decide +kernel
theorem zqb_0 : ∀ k, k < 6 → zFd 0 k = some (zFk (tyX0 k), (TX0 k).2.2.2) ∧ (TX0 k).1 = RX0 := by decide +kernel
theorem zqg_0 : ∀ w ∈ u_ws RX0 TX0 6, goodWord w = true := by decide +kernel
theorem zql_0 : zClOk 0 (RX0, TX0, 6) := ⟨fun w hw => zZW_of (zu_0 w hw) (zqg_0 w hw), nmX0, zqa_0.1, zqa_0.2, tyX0, tyX0_ok, zqb_0⟩
theorem zqa_1 : zFn 1 = 8 ∧ RX1 = zOn 1 := by decide +kernel
theorem zqb_1 : ∀ k, k < 8 → zFd 1 k = some (zFk (tyX1 k), (TX1 k).2.2.2) ∧ (TX1 k).1 = RX1 := by decide +kernel
theorem zqg_1 : ∀ w ∈ u_ws RX1 TX1 8, goodWord w = true := by decide +kernel
theorem zql_1 : zClOk 1 (RX1, TX1, 8) := ⟨fun w hw => zZW_of (zu_1 w hw) (zqg_1 w hw), nmX1, zqa_1.1, zqa_1.2, tyX1, tyX1_ok, zqb_1⟩
theorem zqa_2 : zFn 2 = 1 ∧ RX2 = zOn 2 := by decide +kernel
theorem zqb_2 : ∀ k, k < 1 → zFd 2 k = some (zFk (tyX2 k), (TX2 k).2.2.2) ∧ (TX2 k).1 = RX2 := by decide +kernel
theorem zqg_2 : ∀ w ∈ u_ws RX2 TX2 1, goodWord w = true := by decide +kernel
theorem zql_2 : zClOk 2 (RX2, TX2, 1) := ⟨fun w hw => zZW_of (zu_2 w hw) (zqg_2 w hw), nmX2, zqa_2.1, zqa_2.2, tyX2, tyX2_ok, zqb_2⟩
theorem zqa_3 : zFn 3 = 2 ∧ RX3 = zOn 3 := by decide +kernel
theorem zqb_3 : ∀ k, k < 2 → zFd 3 k = some (zFk (tyX3 k), (TX3 k).2.2.2) ∧ (TX3 k).1 = RX3 := by decide +kernel
theorem zqg_3 : ∀ w ∈ u_ws RX3 TX3 2, goodWord w = true := by decide +kernel
theorem zql_3 : zClOk 3 (RX3, TX3, 2) := ⟨fun w hw => zZW_of (zu_3 w hw) (zqg_3 w hw), nmX3, zqa_3.1, zqa_3.2, tyX3, tyX3_ok, zqb_3⟩
theorem zqa_4 : zFn 4 = 4 ∧ RX4 = zOn 4 := by decide +kernel
theorem zqb_4 : ∀ k, k < 4 → zFd 4 k = some (zFk (tyX4 k), (TX4 k).2.2.2) ∧ (TX4 k).1 = RX4 := by decide +kernel
theorem zqg_4 : ∀ w ∈ u_ws RX4 TX4 4, goodWord w = true := by decide +kernel
theorem zql_4 : zClOk 4 (RX4, TX4, 4) := ⟨fun w hw => zZW_of (zu_4 w hw) (zqg_4 w hw), nmX4, zqa_4.1, zqa_4.2, tyX4, tyX4_ok, zqb_4⟩
theorem zqa_5 : zFn 5 = 1 ∧ RX5 = zOn 5 := by decide +kernel
theorem zqb_5 : ∀ k, k < 1 → zFd 5 k = some (zFk (tyX5 k), (TX5 k).2.2.2) ∧ (TX5 k).1 = RX5 := by decide +kernel
theorem zqg_5 : ∀ w ∈ u_ws RX5 TX5 1, goodWord w = true := by decide +kernel
theorem zql_5 : zClOk 5 (RX5, TX5, 1) := ⟨fun w hw => zZW_of (zu_5 w hw) (zqg_5 w hw), nmX5, zqa_5.1, zqa_5.2, tyX5, tyX5_ok, zqb_5⟩
theorem zqa_6 : zFn 6 = 5 ∧ RX6 = zOn 6 := by decide +kernel
theorem zqb_6 : ∀ k, k < 5 → zFd 6 k = some (zFk (tyX6 k), (TX6 k).2.2.2) ∧ (TX6 k).1 = RX6 := by decide +kernel
theorem zqg_6 : ∀ w ∈ u_ws RX6 TX6 5, goodWord w = true := by decide +kernel
theorem zql_6 : zClOk 6 (RX6, TX6, 5) := ⟨fun w hw => zZW_of (zu_6 w hw) (zqg_6 w hw), nmX6, zqa_6.1, zqa_6.2, tyX6, tyX6_ok, zqb_6⟩
theorem zqa_7 : zFn 7 = 1 ∧ RX7 = zOn 7 := by decide +kernel
theorem zqb_7 : ∀ k, k < 1 → zFd 7 k = some (zFk (tyX7 k), (TX7 k).2.2.2) ∧ (TX7 k).1 = RX7 := by decide +kernel
theorem zqg_7 : ∀ w ∈ u_ws RX7 TX7 1, goodWord w = true := by decide +kernel
theorem zql_7 : zClOk 7 (RX7, TX7, 1) := ⟨fun w hw => zZW_of (zu_7 w hw) (zqg_7 w hw), nmX7, zqa_7.1, zqa_7.2, tyX7, tyX7_ok, zqb_7⟩
theorem zqa_8 : zFn 8 = 2 ∧ RX8 = zOn 8 := by decide +kernel
theorem zqb_8 : ∀ k, k < 2 → zFd 8 k = some (zFk (tyX8 k), (TX8 k).2.2.2) ∧ (TX8 k).1 = RX8 := by decide +kernel
theorem zqg_8 : ∀ w ∈ u_ws RX8 TX8 2, goodWord w = true := by decide +kernel
theorem zql_8 : zClOk 8 (RX8, TX8, 2) := ⟨fun w hw => zZW_of (zu_8 w hw) (zqg_8 w hw), nmX8, zqa_8.1, zqa_8.2, tyX8, tyX8_ok, zqb_8⟩
theorem zqa_9 : zFn 9 = 11 ∧ RX9 = zOn 9 := by decide +kernel
theorem zqb_9 : ∀ k, k < 11 → zFd 9 k = some (zFk (tyX9 k), (TX9 k).2.2.2) ∧ (TX9 k).1 = RX9 := by decide +kernel
theorem zqg_9 : ∀ w ∈ u_ws RX9 TX9 11, goodWord w = true := by decide +kernel
theorem zql_9 : zClOk 9 (RX9, TX9, 11) := ⟨fun w hw => zZW_of (zu_9 w hw) (zqg_9 w hw), nmX9, zqa_9.1, zqa_9.2, tyX9, tyX9_ok, zqb_9⟩
theorem zqa_10 : zFn 10 = 32 ∧ RX10 = zOn 10 := by decide +kernel
theorem zqb_10 : ∀ k, k < 32 → zFd 10 k = some (zFk (tyX10 k), (TX10 k).2.2.2) ∧ (TX10 k).1 = RX10 := by decide +kernel
theorem zqg_10 : ∀ w ∈ u_ws RX10 TX10 32, goodWord w = true := by decide +kernel
theorem zql_10 : zClOk 10 (RX10, TX10, 32) := ⟨fun w hw => zZW_of (zu_10 w hw) (zqg_10 w hw), nmX10, zqa_10.1, zqa_10.2, tyX10, tyX10_ok, zqb_10⟩
theorem zql {ci : Nat} {q : vw_C} (h : zcls[ci]? = some q) : zClOk ci q := by
  match ci, h with
  | 0, h => cases h; exact zql_0
  | 1, h => cases h; exact zql_1
  | 2, h => cases h; exact zql_2
  | 3, h => cases h; exact zql_3
  | 4, h => cases h; exact zql_4
  | 5, h => cases h; exact zql_5
  | 6, h => cases h; exact zql_6
  | 7, h => cases h; exact zql_7
  | 8, h => cases h; exact zql_8
  | 9, h => cases h; exact zql_9
  | 10, h => cases h; exact zql_10
  | n + 11, h => cases h
theorem zFd_lt {ci k : Nat} {x : Nat × Bool} (h : zFd ci k = some x) : k < zFn ci := by
  unfold zFd at h
  unfold zFn
  cases hz : zfd[ci]? with
  | none => rw [hz] at h; cases h
  | some l =>
    rw [hz] at h
    have h1 : l[k]? = some x := h
    have h2 : zfd.getD ci [] = l := by simp [List.getD, hz]
    rw [h2]
    exact (List.getElem?_eq_some_iff.mp h1).1
theorem zFv_at {b : Nat} {σ : List Nat} {h : zH} {a ci k : Nat} (hk : k < zFn ci) : ((List.range (zFn ci)).map fun j => zFv b σ h a ci j)[k]? = some (zFv b σ h a ci k) := by
  rw [List.getElem?_map, List.getElem?_range hk]
  rfl
theorem zCell_off {cI cZ : ClassId} {b : Nat} {σ : List Nat} {h h' : zH} {k : Nat} {sh : Nat × Nat × Nat} (e1 : zRg h'.2.1 (k + 1) = zRg h.2.1 (k + 1)) (e2 : h'.2.2 (k + 1) = h.2.2 (k + 1)) : zCell cI cZ b σ h' k sh = zCell cI cZ b σ h k sh := by
  obtain ⟨a, ci, n⟩ := sh
  cases a with
  | zero => simp only [zCell, zFv, e1, e2]
  | succ a => cases ci <;> simp only [zCell, e2]
theorem zUp_at {α : Type} {f : Nat → Nat → α} {a i j : Nat} {v : α} : zUp f a i v a j = if j = i then v else f a j := by
  unfold zUp
  rw [if_pos rfl]
theorem zUp_off {α : Type} {f : Nat → Nat → α} {a b i : Nat} {v : α} (h : b ≠ a) : zUp f a i v b = f b := by
  funext j
  unfold zUp
  rw [if_neg h]
theorem zRow_at {α : Type} {f : Nat → Nat → α} {a : Nat} {g : Nat → α} : zRow f a g a = g := by
  unfold zRow
  rw [if_pos rfl]
theorem zRow_off {α : Type} {f : Nat → Nat → α} {a b : Nat} {g : Nat → α} (h : b ≠ a) : zRow f a g b = f b := by
  unfold zRow
  rw [if_neg h]
/-- an int field is put -/
theorem zWl_putI {cI cZ : ClassId} {b : Nat} {σ : List Nat} {h : zH} {a ci n k kd : Nat} {fin : Bool} {x : Int32} (hk : h.1[a]? = some (0, ci, n)) (hf : zFd ci k = some (kd, fin)) (hn : kd ≠ 2) :
    zWl cI cZ b σ (h.1, h.2.1, zUp h.2.2 (a + 1) k x) = (zWl cI cZ b σ h).set a (σ.getD a 0, .inr (ci, ((List.range (zFn ci)).map fun j => zFv b σ h a ci j).set k (.int x))) := by
  rw [zWl_set (h := h) (h' := (h.1, h.2.1, zUp h.2.2 (a + 1) k x)) rfl hk (fun j hj sj _ => zCell_off rfl (zUp_off (by omega)))]
  congr 2
  show Sum.inr _ = _
  congr 2
  apply List.ext_getElem?
  intro j
  rw [List.getElem?_set]
  by_cases hj : k = j
  · subst hj
    have hl := zFd_lt hf
    rw [if_pos rfl, if_pos (by simpa using hl), List.getElem?_map, List.getElem?_range hl]
    show some (zFv b σ (h.1, h.2.1, zUp h.2.2 (a + 1) k x) a ci k) = _
    congr 1
    unfold zFv
    rw [hf]
    split
    · rename_i q
      cases q
      exact absurd rfl hn
    · show Value.int (zUp h.2.2 (a + 1) k x (a + 1) k) = _
      rw [zUp_at, if_pos rfl]
  · rw [if_neg hj]
    by_cases hl : j < zFn ci
    · rw [List.getElem?_map, List.getElem?_map, List.getElem?_range hl]
      show some _ = some _
      congr 1
      unfold zFv
      show (match zFd ci j with | some (2, _) => _ | _ => Value.int (zUp h.2.2 (a + 1) k x (a + 1) j)) = _
      rw [zUp_at, if_neg (fun q => hj q.symm)]
      rfl
    · rw [List.getElem?_eq_none (by simpa using hl), List.getElem?_eq_none (by simpa using hl)]
/-- a reference is put -/
theorem zWl_putR {cI cZ : ClassId} {b : Nat} {σ : List Nat} {h : zH} {a ci n k x : Nat} {fin : Bool} (hk : h.1[a]? = some (0, ci, n)) (hf : zFd ci k = some (2, fin)) :
    zWl cI cZ b σ (h.1, (a + 1, k, x) :: h.2.1, h.2.2) = (zWl cI cZ b σ h).set a (σ.getD a 0, .inr (ci, ((List.range (zFn ci)).map fun j => zFv b σ h a ci j).set k (zVal b σ (zRv x)))) := by
  rw [zWl_set (h := h) (h' := (h.1, (a + 1, k, x) :: h.2.1, h.2.2)) rfl hk (fun j hj sj _ => zCell_off (by rw [zRg_put]; exact zUp_off (by omega)) rfl)]
  congr 2
  show Sum.inr _ = _
  congr 2
  apply List.ext_getElem?
  intro j
  rw [List.getElem?_set]
  by_cases hj : k = j
  · subst hj
    have hl := zFd_lt hf
    rw [if_pos rfl, if_pos (by simpa using hl), List.getElem?_map, List.getElem?_range hl]
    show some (zFv b σ (h.1, (a + 1, k, x) :: h.2.1, h.2.2) a ci k) = _
    congr 1
    unfold zFv
    rw [hf]
    show zVal b σ (zRv (zRg ((a + 1, k, x) :: h.2.1) (a + 1) k)) = _
    rw [zRg_put, zUp_at, if_pos rfl]
  · rw [if_neg hj]
    by_cases hl : j < zFn ci
    · rw [List.getElem?_map, List.getElem?_map, List.getElem?_range hl]
      show some _ = some _
      congr 1
      unfold zFv
      show (match zFd ci j with | some (2, _) => zVal b σ (zRv (zRg ((a + 1, k, x) :: h.2.1) (a + 1) j)) | _ => _) = _
      rw [zRg_put, zUp_at, if_neg (fun q => hj q.symm)]
      rfl
    · rw [List.getElem?_eq_none (by simpa using hl), List.getElem?_eq_none (by simpa using hl)]
/-- a row is written -/
theorem zWl_row {cI cZ : ClassId} {b : Nat} {σ : List Nat} {h : zH} {a t n : Nat} {G : Nat → Nat → Int32} (hk : h.1[a]? = some (1, t, n)) (hG : ∀ j, j ≠ a + 1 → G j = h.2.2 j) :
    zWl cI cZ b σ (h.1, h.2.1, G) = (zWl cI cZ b σ h).set a (σ.getD a 0, .inl (if t = 0 then cI else cZ, n, .inl (G (a + 1)))) := by
  rw [zWl_set (h := h) (h' := (h.1, h.2.1, G)) rfl hk (fun j hj sj _ => zCell_off rfl (hG (j + 1) (by omega)))]
  congr 2
  cases t <;> rfl
theorem zWl_arr {cI cZ : ClassId} {b : Nat} {σ : List Nat} {h : zH} {a t n : Nat} (hk : h.1[a]? = some (1, t, n)) : (zWl cI cZ b σ h)[a]? = some (σ.getD a 0, .inl (if t = 0 then cI else cZ, n, .inl (h.2.2 (a + 1)))) := by
  rw [zWl_at hk]
  cases t <;> rfl
theorem zUp_upd {f : Nat → Nat → Int32} {a i : Nat} {v : Int32} : zUp f a i v a = upd (f a) i v := by
  funext j
  rw [zUp_at]
  rfl
def zF0 (ci j : Nat) : Value := match zFd ci j with
  | some (2, _) => .null
  | _ => .int 0
theorem zCell_new {cI cZ : ClassId} {b : Nat} {σ : List Nat} {h : zH} {ci n a : Nat} (e1 : zRg h.2.1 (a + 1) = fun _ => 0) (e2 : h.2.2 (a + 1) = fun _ => 0) : zCell cI cZ b σ h a (0, ci, n) = .inr (ci, (List.range (zFn ci)).map (zF0 ci)) := by
  unfold zCell
  simp only
  congr 2
  apply List.map_congr_left
  intro j _
  unfold zFv zF0
  rw [e1, e2]
  generalize zFd ci j = z
  match z with
  | none => rfl
  | some (0, _) => rfl
  | some (1, _) => rfl
  | some (2, _) => rfl
  | some (n + 3, _) => rfl
theorem zF0_def {ci j : Nat} {ty : FieldType} {fin : Bool} (h : zFd ci j = some (zFk ty, fin)) (hk : zFk ty ≠ 9) : defaultValue ty = zF0 ci j := by
  unfold zF0
  rw [h]
  cases ty <;> first | rfl | exact absurd rfl hk

