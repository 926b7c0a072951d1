/-! what the interpreter's heap is on the machine -/
def zVal (b : Nat) (σ : List Nat) : Value → Value
  | .ref 0 => .ref b
  | .ref (k + 1) => .ref (σ.getD k 0)
  | v => v
theorem znb {a b : Nat} (h : a ≠ b) : Nat.beq a b = false := by
  cases hb : Nat.beq a b with
  | false => rfl
  | true => exact absurd (Nat.eq_of_beq_eq_true hb) h
theorem zRg_put {R : zRl} {a j v : Nat} : zRg ((a, j, v) :: R) = zUp (zRg R) a j v := by
  funext b i
  unfold zUp
  show (bif Nat.beq a b && Nat.beq j i then v else zRg R b i) = _
  by_cases h1 : b = a
  · subst h1
    rw [if_pos rfl, Nat.beq_refl, Bool.true_and]
    by_cases h2 : i = j
    · subst h2
      rw [if_pos rfl, Nat.beq_refl]
      rfl
    · rw [if_neg h2, znb (fun q => h2 q.symm)]
      rfl
  · rw [if_neg h1, znb (fun q => h1 q.symm)]
    rfl
theorem zRg_new {R : zRl} {a : Nat} : zRg (zRw R a) = zRow (zRg R) a (fun _ => 0) := by
  funext b i
  unfold zRow
  induction R with
  | nil =>
    show (0 : Nat) = _
    split <;> rfl
  | cons q t ih =>
    obtain ⟨a1, j1, v1⟩ := q
    unfold zRw at *
    by_cases h1 : a1 = a
    · subst h1
      rw [List.filter_cons_of_neg (by rw [Nat.beq_refl]; decide), ih]
      by_cases h2 : b = a1
      · rw [if_pos h2, if_pos h2]
      · rw [if_neg h2, if_neg h2]
        show _ = (bif Nat.beq a1 b && Nat.beq j1 i then v1 else zRg t b i)
        rw [znb (fun q => h2 q.symm)]
        rfl
    · have hb : Nat.beq a1 a = false := znb h1
      rw [List.filter_cons_of_pos (by rw [hb]; rfl)]
      show (bif Nat.beq a1 b && Nat.beq j1 i then v1 else zRg (List.filter _ t) b i) = _
      rw [ih]
      by_cases h2 : b = a
      · subst h2
        rw [if_pos rfl, if_pos rfl, hb]
        rfl
      · rw [if_neg h2, if_neg h2]
        rfl
theorem zVal_cat (b : Nat) (σ : List Nat) (v : Value) : (zVal b σ v).category = v.category := by
  unfold zVal
  split <;> rfl
def zFv (b : Nat) (σ : List Nat) (h : zH) (k ci j : Nat) : Value := match zFd ci j with
  | some (2, _) => zVal b σ (zRv (zRg h.2.1 (k + 1) j))
  | _ => .int (h.2.2 (k + 1) j)
def zCell (cI cZ : ClassId) (b : Nat) (σ : List Nat) (h : zH) (k : Nat) (sh : Nat × Nat × Nat) : va_E := match sh with
  | (0, ci, _) => .inr (ci, (List.range (zFn ci)).map fun j => zFv b σ h k ci j)
  | (_, 0, n) => .inl (cI, n, .inl (h.2.2 (k + 1)))
  | (_, _, n) => .inl (cZ, n, .inl (h.2.2 (k + 1)))
def zWl (cI cZ : ClassId) (b : Nat) (σ : List Nat) (h : zH) : va_W := h.1.mapIdx fun k sh => (σ.getD k 0, zCell cI cZ b σ h k sh)
theorem zWl_at {cI cZ : ClassId} {b : Nat} {σ : List Nat} {h : zH} {k : Nat} {sh : Nat × Nat × Nat} (hk : h.1[k]? = some sh) : (zWl cI cZ b σ h)[k]? = some (σ.getD k 0, zCell cI cZ b σ h k sh) := by
  unfold zWl
  rw [List.getElem?_mapIdx, hk]
  rfl
/-- cells that are the same are the same on the machine -/
theorem zWl_set {cI cZ : ClassId} {b : Nat} {σ : List Nat} {h h' : zH} {k : Nat} {sh : Nat × Nat × Nat} (h1 : h'.1 = h.1) (hk : h.1[k]? = some sh) (ho : ∀ j, j ≠ k → ∀ sj, h.1[j]? = some sj → zCell cI cZ b σ h' j sj = zCell cI cZ b σ h j sj) :
    zWl cI cZ b σ h' = (zWl cI cZ b σ h).set k (σ.getD k 0, zCell cI cZ b σ h' k sh) := by
  apply List.ext_getElem?
  intro j
  have e1 : (zWl cI cZ b σ h')[j]? = (h.1[j]?).map fun sj => (σ.getD j 0, zCell cI cZ b σ h' j sj) := by
    unfold zWl
    rw [List.getElem?_mapIdx, h1]
  have e2 : (zWl cI cZ b σ h)[j]? = (h.1[j]?).map fun sj => (σ.getD j 0, zCell cI cZ b σ h j sj) := by
    unfold zWl
    rw [List.getElem?_mapIdx]
  rw [e1, List.getElem?_set]
  by_cases hj : k = j
  · subst hj
    have hl : k < (zWl cI cZ b σ h).length := by
      unfold zWl
      rw [List.length_mapIdx]
      exact (List.getElem?_eq_some_iff.mp hk).1
    rw [if_pos rfl, if_pos hl, hk]
    rfl
  · rw [if_neg hj, e2]
    cases hs : h.1[j]? with
    | none => rfl
    | some sj => rw [Option.map_some, Option.map_some, ho j (fun q => hj q.symm) sj hs]
theorem zgD {l t : List Nat} {k d : Nat} (h : k < l.length) : (l ++ t).getD k d = l.getD k d := by
  simp [List.getD, List.getElem?_append_left h]
theorem zVal_ext {b : Nat} {σ : List Nat} {q : Nat} {v : Value} (h : zVk σ.length v = true) : zVal b (σ ++ [q]) v = zVal b σ v := by
  unfold zVal
  split
  · rfl
  · rename_i k
    have hk : k < σ.length := by simpa [zVk] using h
    rw [zgD hk]
  · rfl
theorem zVal_pre {b : Nat} {σ σ' : List Nat} {v : Value} (hp : σ <+: σ') (h : zVk σ.length v = true) : zVal b σ' v = zVal b σ v := by
  obtain ⟨t, rfl⟩ := hp
  unfold zVal
  split
  · rfl
  · rename_i k
    have hk : k < σ.length := by simpa [zVk] using h
    rw [zgD hk]
  · rfl
theorem zCell_ext {cI cZ : ClassId} {b : Nat} {σ : List Nat} {q : Nat} {h h' : zH} {k : Nat} {sh : Nat × Nat × Nat} (hσ : σ.length = h.1.length) (hok : zHok h = true) (hk : h.1[k]? = some sh) (e1 : zRg h'.2.1 (k + 1) = zRg h.2.1 (k + 1)) (e2 : h'.2.2 (k + 1) = h.2.2 (k + 1)) :
    zCell cI cZ b (σ ++ [q]) h' k sh = zCell cI cZ b σ h k sh := by
  have hl := (List.getElem?_eq_some_iff.mp hk).1
  have h1 := List.all_eq_true.mp hok k (List.mem_range.mpr hl)
  rw [hk] at h1
  obtain ⟨a, ci, n⟩ := sh
  cases a with
  | zero =>
    simp only [List.all_eq_true, List.mem_range, decide_eq_true_eq] at h1
    unfold zCell
    simp only
    congr 2
    apply List.map_congr_left
    intro j hj
    have h2 := h1 j (List.mem_range.mp hj)
    unfold zFv
    rw [e1, e2]
    split
    · apply zVal_ext
      cases hr : zRg h.2.1 (k + 1) j with
      | zero => rfl
      | succ m =>
        rw [hr] at h2
        show decide (m < σ.length) = true
        rw [hσ]
        exact decide_eq_true (by omega)
    · rfl
  | succ a =>
    cases ci <;> simp only [zCell, e2]
/-- a new cell -/
theorem zWl_push {cI cZ : ClassId} {b : Nat} {σ : List Nat} {q : Nat} {h : zH} {sh : Nat × Nat × Nat} {F : zRl} {G : Nat → Nat → Int32} (hσ : σ.length = h.1.length) (hok : zHok h = true) (hF : ∀ k, k < h.1.length → zRg F (k + 1) = zRg h.2.1 (k + 1)) (hG : ∀ k, k < h.1.length → G (k + 1) = h.2.2 (k + 1)) :
    zWl cI cZ b (σ ++ [q]) (h.1 ++ [sh], F, G) = zWl cI cZ b σ h ++ [(q, zCell cI cZ b (σ ++ [q]) (h.1 ++ [sh], F, G) h.1.length sh)] := by
  apply List.ext_getElem?
  intro j
  have e1 : (zWl cI cZ b (σ ++ [q]) (h.1 ++ [sh], F, G))[j]? = ((h.1 ++ [sh])[j]?).map fun sj => ((σ ++ [q]).getD j 0, zCell cI cZ b (σ ++ [q]) (h.1 ++ [sh], F, G) j sj) := by
    unfold zWl
    rw [List.getElem?_mapIdx]
  have e2 : (zWl cI cZ b σ h)[j]? = (h.1[j]?).map fun sj => (σ.getD j 0, zCell cI cZ b σ h j sj) := by
    unfold zWl
    rw [List.getElem?_mapIdx]
  have el : (zWl cI cZ b σ h).length = h.1.length := by
    unfold zWl
    rw [List.length_mapIdx]
  rw [e1]
  by_cases hj : j < h.1.length
  · rw [List.getElem?_append_left hj, List.getElem?_append_left (by rw [el]; exact hj), e2]
    cases hs : h.1[j]? with
    | none => rfl
    | some sj =>
      rw [Option.map_some, Option.map_some, zgD (by rw [hσ]; exact hj), zCell_ext hσ hok hs (hF j hj) (hG j hj)]
  · by_cases hj2 : j = h.1.length
    · subst hj2
      rw [List.getElem?_append_right (Nat.le_refl _), List.getElem?_append_right (by rw [el]; exact Nat.le_refl _), el, Nat.sub_self]
      simp only [List.getElem?_cons_zero, Option.map_some]
      rw [← hσ]
      simp
    · rw [List.getElem?_eq_none (by simp; omega), List.getElem?_eq_none (by simp [el]; omega)]
      rfl
