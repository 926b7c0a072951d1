/-! what the constructors leave -/
theorem zRo_ne {f : Nat → Nat → Int32} {a b : Nat} {g : Nat → Int32} (h : b ≠ a) : zRow f a g b = f b := if_neg h
theorem zRo_eq (f : Nat → Nat → Int32) (a : Nat) (g : Nat → Int32) : zRow f a g a = g := if_pos rfl
def zOs (m : Nat) : Nat := if m < 8 then m else 100
theorem zpb_5 {k : Nat} (v : Int32) (I : zI) (h : k < 8) : Rw_put_5 (zN k) v I = some (zUp I 6 k v) := by
  unfold Rw_put_5
  refine (zat_g (n := 8) (by decide)).trans ?_
  rw [zN_tn (by omega), if_pos ⟨(zN_le (by decide) (by omega)).mpr (by omega), (zN_lt (by omega) (by decide)).mpr h⟩]
theorem zpb_7 {k : Nat} (v : Int32) (I : zI) (h : k < 12) : Rw_put_7 (zN k) v I = some (zUp I 8 k v) := by
  unfold Rw_put_7
  refine (zat_g (n := 12) (by decide)).trans ?_
  rw [zN_tn (by omega), if_pos ⟨(zN_le (by decide) (by omega)).mpr (by omega), (zN_lt (by omega) (by decide)).mpr h⟩]
theorem zga_2 : ∀ (j k n : Nat) (I : zI), k + j = 8 → j < n → (∀ i, i < k → I 6 i = zN i) → ∃ I', ziGa_2_L71 n (zN k) I = some I' ∧ (∀ b, b ≠ 6 → I' b = I b) ∧ ∀ i, i < 8 → I' 6 i = zN i := by
  intro j
  induction j with
  | zero =>
    intro k n I hk hn h
    obtain ⟨n, rfl⟩ : ∃ e, n = e + 1 := ⟨n - 1, by omega⟩
    have : k = 8 := by omega
    subst this
    rw [ziGa_2_L71, if_pos (by decide)]
    exact ⟨I, rfl, fun _ _ => rfl, h⟩
  | succ j ih =>
    intro k n I hk hn h
    obtain ⟨n, rfl⟩ : ∃ e, n = e + 1 := ⟨n - 1, by omega⟩
    rw [ziGa_2_L71, if_neg (by rw [zl_8, zN_le (by decide) (by omega)]; omega), zpb_5 _ I (by omega), Option.bind_some, zl_1, zN_add]
    obtain ⟨I', e1, e2, e3⟩ := ih (k + 1) n (zUp I 6 k (zN k)) (by omega) (by omega) (fun i hi => by
      rw [zUp_at]
      by_cases q : i = k
      · rw [if_pos q, q]
      · rw [if_neg q]
        exact h i (by omega))
    exact ⟨I', e1, fun b hb => by rw [e2 b hb, zUp_ne hb], e3⟩
theorem zgb_2 : ∀ (j k n : Nat) (I : zI), k + j = 12 → j < n → (∀ i, i < k → I 8 i = zE (zOs i)) → ∃ I', ziGa_2_L94 n (zN k) I = some I' ∧ (∀ b, b ≠ 8 → I' b = I b) ∧ ∀ i, i < 12 → I' 8 i = zE (zOs i) := by
  intro j
  induction j with
  | zero =>
    intro k n I hk hn h
    obtain ⟨n, rfl⟩ : ∃ e, n = e + 1 := ⟨n - 1, by omega⟩
    have : k = 12 := by omega
    subst this
    rw [ziGa_2_L94, if_pos (by decide)]
    exact ⟨I, rfl, fun _ _ => rfl, h⟩
  | succ j ih =>
    intro k n I hk hn h
    obtain ⟨n, rfl⟩ : ∃ e, n = e + 1 := ⟨n - 1, by omega⟩
    have e : (if zB (decide (0 ≤ k ∧ k ≤ 7)) = (0 : Int32) then some (-6 : Int32) else some (zN k)) = some (zE (zOs k)) := by
      unfold zOs
      by_cases q : k < 8
      · rw [decide_eq_true (by omega), if_neg (by decide), if_pos q, zE_lt (by omega)]
      · rw [decide_eq_false (by omega), if_pos (by decide), if_neg q]
        rfl
    rw [ziGa_2_L94, if_neg (by rw [zl_12, zN_le (by decide) (by omega)]; omega), zbOne, zW_N (by decide) (by decide) (by omega), Option.bind_some, e, Option.bind_some, zpb_7 _ I (by omega), Option.bind_some, zl_1, zN_add]
    obtain ⟨I', e1, e2, e3⟩ := ih (k + 1) n (zUp I 8 k (zE (zOs k))) (by omega) (by omega) (fun i hi => by
      rw [zUp_at]
      by_cases q : i = k
      · rw [if_pos q, q]
      · rw [if_neg q]
        exact h i (by omega))
    exact ⟨I', e1, fun b hb => by rw [e2 b hb, zUp_ne hb], e3⟩
theorem zgi_2 (I : zI) {n : Nat} (hn : 30 < n) : ∃ I', ziGa_2 n I = some I' ∧ (∀ b, b < 3 ∨ 12 < b → I' b = I b) ∧ (∀ i, I' 4 i = 0) ∧ (∀ i, i < 8 → I' 6 i = zN i) ∧ (∀ i, i < 12 → I' 8 i = zE (zOs i)) ∧ (∀ i, I' 10 i = 0) ∧ ∀ i, I' 12 i = 0 := by
  obtain ⟨I1, a1, a2, a3⟩ := zga_2 8 0 n (zRow (zRow (zRow (zRow (zRow (zRow (zRow (zRow (zRow (zRow I 3 (fun _ => 0)) 4 (fun _ => 0)) 5 (fun _ => 0)) 6 (fun _ => 0)) 7 (fun _ => 0)) 8 (fun _ => 0)) 9 (fun _ => 0)) 10 (fun _ => 0)) 11 (fun _ => 0)) 12 (fun _ => 0)) rfl (by omega) (fun i hi => by omega)
  obtain ⟨I2, b1, b2, b3⟩ := zgb_2 12 0 n I1 rfl (by omega) (fun i hi => by omega)
  refine ⟨I2, ?_, fun b hb => ?_, fun i => ?_, fun i hi => ?_, b3, fun i => ?_, fun i => ?_⟩
  · unfold ziGa_2
    rw [ziRw_3, Option.bind_some, ziRw_5, Option.bind_some, ziRw_7, Option.bind_some, ziRw_9, Option.bind_some, ziRw_11, Option.bind_some, show ziGa_2_L71 n 0 _ = _ from a1, Option.bind_some, show ziGa_2_L94 n 0 I1 = _ from b1, Option.bind_some]
  · rw [b2 b (by omega), a2 b (by omega), zRo_ne (by omega), zRo_ne (by omega), zRo_ne (by omega), zRo_ne (by omega), zRo_ne (by omega), zRo_ne (by omega), zRo_ne (by omega), zRo_ne (by omega), zRo_ne (by omega), zRo_ne (by omega)]
  · rw [b2 4 (by decide), a2 4 (by decide), zRo_ne (by decide), zRo_ne (by decide), zRo_ne (by decide), zRo_ne (by decide), zRo_ne (by decide), zRo_ne (by decide), zRo_ne (by decide), zRo_ne (by decide), zRo_eq]
  · rw [b2 6 (by decide)]
    exact a3 i hi
  · rw [b2 10 (by decide), a2 10 (by decide), zRo_ne (by decide), zRo_ne (by decide), zRo_eq]
  · rw [b2 12 (by decide), a2 12 (by decide), zRo_eq]
theorem zpb_16 {k : Nat} (v : Int32) (I : zI) (h : k < 8) : Rw_put_16 (zN k) v I = some (zUp I 17 k v) := by
  unfold Rw_put_16
  refine (zat_g (n := 8) (by decide)).trans ?_
  rw [zN_tn (by omega), if_pos ⟨(zN_le (by decide) (by omega)).mpr (by omega), (zN_lt (by omega) (by decide)).mpr h⟩]
theorem zpb_18 {k : Nat} (v : Int32) (I : zI) (h : k < 12) : Rw_put_18 (zN k) v I = some (zUp I 19 k v) := by
  unfold Rw_put_18
  refine (zat_g (n := 12) (by decide)).trans ?_
  rw [zN_tn (by omega), if_pos ⟨(zN_le (by decide) (by omega)).mpr (by omega), (zN_lt (by omega) (by decide)).mpr h⟩]
theorem zga_13 : ∀ (j k n : Nat) (I : zI), k + j = 8 → j < n → (∀ i, i < k → I 17 i = zN i) → ∃ I', ziGa_13_L71 n (zN k) I = some I' ∧ (∀ b, b ≠ 17 → I' b = I b) ∧ ∀ i, i < 8 → I' 17 i = zN i := by
  intro j
  induction j with
  | zero =>
    intro k n I hk hn h
    obtain ⟨n, rfl⟩ : ∃ e, n = e + 1 := ⟨n - 1, by omega⟩
    have : k = 8 := by omega
    subst this
    rw [ziGa_13_L71, if_pos (by decide)]
    exact ⟨I, rfl, fun _ _ => rfl, h⟩
  | succ j ih =>
    intro k n I hk hn h
    obtain ⟨n, rfl⟩ : ∃ e, n = e + 1 := ⟨n - 1, by omega⟩
    rw [ziGa_13_L71, if_neg (by rw [zl_8, zN_le (by decide) (by omega)]; omega), zpb_16 _ I (by omega), Option.bind_some, zl_1, zN_add]
    obtain ⟨I', e1, e2, e3⟩ := ih (k + 1) n (zUp I 17 k (zN k)) (by omega) (by omega) (fun i hi => by
      rw [zUp_at]
      by_cases q : i = k
      · rw [if_pos q, q]
      · rw [if_neg q]
        exact h i (by omega))
    exact ⟨I', e1, fun b hb => by rw [e2 b hb, zUp_ne hb], e3⟩
theorem zgb_13 : ∀ (j k n : Nat) (I : zI), k + j = 12 → j < n → (∀ i, i < k → I 19 i = zE (zOs i)) → ∃ I', ziGa_13_L94 n (zN k) I = some I' ∧ (∀ b, b ≠ 19 → I' b = I b) ∧ ∀ i, i < 12 → I' 19 i = zE (zOs i) := by
  intro j
  induction j with
  | zero =>
    intro k n I hk hn h
    obtain ⟨n, rfl⟩ : ∃ e, n = e + 1 := ⟨n - 1, by omega⟩
    have : k = 12 := by omega
    subst this
    rw [ziGa_13_L94, if_pos (by decide)]
    exact ⟨I, rfl, fun _ _ => rfl, h⟩
  | succ j ih =>
    intro k n I hk hn h
    obtain ⟨n, rfl⟩ : ∃ e, n = e + 1 := ⟨n - 1, by omega⟩
    have e : (if zB (decide (0 ≤ k ∧ k ≤ 7)) = (0 : Int32) then some (-6 : Int32) else some (zN k)) = some (zE (zOs k)) := by
      unfold zOs
      by_cases q : k < 8
      · rw [decide_eq_true (by omega), if_neg (by decide), if_pos q, zE_lt (by omega)]
      · rw [decide_eq_false (by omega), if_pos (by decide), if_neg q]
        rfl
    rw [ziGa_13_L94, if_neg (by rw [zl_12, zN_le (by decide) (by omega)]; omega), zbOne, zW_N (by decide) (by decide) (by omega), Option.bind_some, e, Option.bind_some, zpb_18 _ I (by omega), Option.bind_some, zl_1, zN_add]
    obtain ⟨I', e1, e2, e3⟩ := ih (k + 1) n (zUp I 19 k (zE (zOs k))) (by omega) (by omega) (fun i hi => by
      rw [zUp_at]
      by_cases q : i = k
      · rw [if_pos q, q]
      · rw [if_neg q]
        exact h i (by omega))
    exact ⟨I', e1, fun b hb => by rw [e2 b hb, zUp_ne hb], e3⟩
theorem zgi_13 (I : zI) {n : Nat} (hn : 30 < n) : ∃ I', ziGa_13 n I = some I' ∧ (∀ b, b < 14 ∨ 23 < b → I' b = I b) ∧ (∀ i, I' 15 i = 0) ∧ (∀ i, i < 8 → I' 17 i = zN i) ∧ (∀ i, i < 12 → I' 19 i = zE (zOs i)) ∧ (∀ i, I' 21 i = 0) ∧ ∀ i, I' 23 i = 0 := by
  obtain ⟨I1, a1, a2, a3⟩ := zga_13 8 0 n (zRow (zRow (zRow (zRow (zRow (zRow (zRow (zRow (zRow (zRow I 14 (fun _ => 0)) 15 (fun _ => 0)) 16 (fun _ => 0)) 17 (fun _ => 0)) 18 (fun _ => 0)) 19 (fun _ => 0)) 20 (fun _ => 0)) 21 (fun _ => 0)) 22 (fun _ => 0)) 23 (fun _ => 0)) rfl (by omega) (fun i hi => by omega)
  obtain ⟨I2, b1, b2, b3⟩ := zgb_13 12 0 n I1 rfl (by omega) (fun i hi => by omega)
  refine ⟨I2, ?_, fun b hb => ?_, fun i => ?_, fun i hi => ?_, b3, fun i => ?_, fun i => ?_⟩
  · unfold ziGa_13
    rw [ziRw_14, Option.bind_some, ziRw_16, Option.bind_some, ziRw_18, Option.bind_some, ziRw_20, Option.bind_some, ziRw_22, Option.bind_some, show ziGa_13_L71 n 0 _ = _ from a1, Option.bind_some, show ziGa_13_L94 n 0 I1 = _ from b1, Option.bind_some]
  · rw [b2 b (by omega), a2 b (by omega), zRo_ne (by omega), zRo_ne (by omega), zRo_ne (by omega), zRo_ne (by omega), zRo_ne (by omega), zRo_ne (by omega), zRo_ne (by omega), zRo_ne (by omega), zRo_ne (by omega), zRo_ne (by omega)]
  · rw [b2 15 (by decide), a2 15 (by decide), zRo_ne (by decide), zRo_ne (by decide), zRo_ne (by decide), zRo_ne (by decide), zRo_ne (by decide), zRo_ne (by decide), zRo_ne (by decide), zRo_ne (by decide), zRo_eq]
  · rw [b2 17 (by decide)]
    exact a3 i hi
  · rw [b2 21 (by decide), a2 21 (by decide), zRo_ne (by decide), zRo_ne (by decide), zRo_eq]
  · rw [b2 23 (by decide), a2 23 (by decide), zRo_eq]
theorem zpb_27 {k : Nat} (v : Int32) (I : zI) (h : k < 8) : Rw_put_27 (zN k) v I = some (zUp I 28 k v) := by
  unfold Rw_put_27
  refine (zat_g (n := 8) (by decide)).trans ?_
  rw [zN_tn (by omega), if_pos ⟨(zN_le (by decide) (by omega)).mpr (by omega), (zN_lt (by omega) (by decide)).mpr h⟩]
theorem zpb_29 {k : Nat} (v : Int32) (I : zI) (h : k < 12) : Rw_put_29 (zN k) v I = some (zUp I 30 k v) := by
  unfold Rw_put_29
  refine (zat_g (n := 12) (by decide)).trans ?_
  rw [zN_tn (by omega), if_pos ⟨(zN_le (by decide) (by omega)).mpr (by omega), (zN_lt (by omega) (by decide)).mpr h⟩]
theorem zga_24 : ∀ (j k n : Nat) (I : zI), k + j = 8 → j < n → (∀ i, i < k → I 28 i = zN i) → ∃ I', ziGa_24_L71 n (zN k) I = some I' ∧ (∀ b, b ≠ 28 → I' b = I b) ∧ ∀ i, i < 8 → I' 28 i = zN i := by
  intro j
  induction j with
  | zero =>
    intro k n I hk hn h
    obtain ⟨n, rfl⟩ : ∃ e, n = e + 1 := ⟨n - 1, by omega⟩
    have : k = 8 := by omega
    subst this
    rw [ziGa_24_L71, if_pos (by decide)]
    exact ⟨I, rfl, fun _ _ => rfl, h⟩
  | succ j ih =>
    intro k n I hk hn h
    obtain ⟨n, rfl⟩ : ∃ e, n = e + 1 := ⟨n - 1, by omega⟩
    rw [ziGa_24_L71, if_neg (by rw [zl_8, zN_le (by decide) (by omega)]; omega), zpb_27 _ I (by omega), Option.bind_some, zl_1, zN_add]
    obtain ⟨I', e1, e2, e3⟩ := ih (k + 1) n (zUp I 28 k (zN k)) (by omega) (by omega) (fun i hi => by
      rw [zUp_at]
      by_cases q : i = k
      · rw [if_pos q, q]
      · rw [if_neg q]
        exact h i (by omega))
    exact ⟨I', e1, fun b hb => by rw [e2 b hb, zUp_ne hb], e3⟩
theorem zgb_24 : ∀ (j k n : Nat) (I : zI), k + j = 12 → j < n → (∀ i, i < k → I 30 i = zE (zOs i)) → ∃ I', ziGa_24_L94 n (zN k) I = some I' ∧ (∀ b, b ≠ 30 → I' b = I b) ∧ ∀ i, i < 12 → I' 30 i = zE (zOs i) := by
  intro j
  induction j with
  | zero =>
    intro k n I hk hn h
    obtain ⟨n, rfl⟩ : ∃ e, n = e + 1 := ⟨n - 1, by omega⟩
    have : k = 12 := by omega
    subst this
    rw [ziGa_24_L94, if_pos (by decide)]
    exact ⟨I, rfl, fun _ _ => rfl, h⟩
  | succ j ih =>
    intro k n I hk hn h
    obtain ⟨n, rfl⟩ : ∃ e, n = e + 1 := ⟨n - 1, by omega⟩
    have e : (if zB (decide (0 ≤ k ∧ k ≤ 7)) = (0 : Int32) then some (-6 : Int32) else some (zN k)) = some (zE (zOs k)) := by
      unfold zOs
      by_cases q : k < 8
      · rw [decide_eq_true (by omega), if_neg (by decide), if_pos q, zE_lt (by omega)]
      · rw [decide_eq_false (by omega), if_pos (by decide), if_neg q]
        rfl
    rw [ziGa_24_L94, if_neg (by rw [zl_12, zN_le (by decide) (by omega)]; omega), zbOne, zW_N (by decide) (by decide) (by omega), Option.bind_some, e, Option.bind_some, zpb_29 _ I (by omega), Option.bind_some, zl_1, zN_add]
    obtain ⟨I', e1, e2, e3⟩ := ih (k + 1) n (zUp I 30 k (zE (zOs k))) (by omega) (by omega) (fun i hi => by
      rw [zUp_at]
      by_cases q : i = k
      · rw [if_pos q, q]
      · rw [if_neg q]
        exact h i (by omega))
    exact ⟨I', e1, fun b hb => by rw [e2 b hb, zUp_ne hb], e3⟩
theorem zgi_24 (I : zI) {n : Nat} (hn : 30 < n) : ∃ I', ziGa_24 n I = some I' ∧ (∀ b, b < 25 ∨ 34 < b → I' b = I b) ∧ (∀ i, I' 26 i = 0) ∧ (∀ i, i < 8 → I' 28 i = zN i) ∧ (∀ i, i < 12 → I' 30 i = zE (zOs i)) ∧ (∀ i, I' 32 i = 0) ∧ ∀ i, I' 34 i = 0 := by
  obtain ⟨I1, a1, a2, a3⟩ := zga_24 8 0 n (zRow (zRow (zRow (zRow (zRow (zRow (zRow (zRow (zRow (zRow I 25 (fun _ => 0)) 26 (fun _ => 0)) 27 (fun _ => 0)) 28 (fun _ => 0)) 29 (fun _ => 0)) 30 (fun _ => 0)) 31 (fun _ => 0)) 32 (fun _ => 0)) 33 (fun _ => 0)) 34 (fun _ => 0)) rfl (by omega) (fun i hi => by omega)
  obtain ⟨I2, b1, b2, b3⟩ := zgb_24 12 0 n I1 rfl (by omega) (fun i hi => by omega)
  refine ⟨I2, ?_, fun b hb => ?_, fun i => ?_, fun i hi => ?_, b3, fun i => ?_, fun i => ?_⟩
  · unfold ziGa_24
    rw [ziRw_25, Option.bind_some, ziRw_27, Option.bind_some, ziRw_29, Option.bind_some, ziRw_31, Option.bind_some, ziRw_33, Option.bind_some, show ziGa_24_L71 n 0 _ = _ from a1, Option.bind_some, show ziGa_24_L94 n 0 I1 = _ from b1, Option.bind_some]
  · rw [b2 b (by omega), a2 b (by omega), zRo_ne (by omega), zRo_ne (by omega), zRo_ne (by omega), zRo_ne (by omega), zRo_ne (by omega), zRo_ne (by omega), zRo_ne (by omega), zRo_ne (by omega), zRo_ne (by omega), zRo_ne (by omega)]
  · rw [b2 26 (by decide), a2 26 (by decide), zRo_ne (by decide), zRo_ne (by decide), zRo_ne (by decide), zRo_ne (by decide), zRo_ne (by decide), zRo_ne (by decide), zRo_ne (by decide), zRo_ne (by decide), zRo_eq]
  · rw [b2 28 (by decide)]
    exact a3 i hi
  · rw [b2 32 (by decide), a2 32 (by decide), zRo_ne (by decide), zRo_ne (by decide), zRo_eq]
  · rw [b2 34 (by decide), a2 34 (by decide), zRo_eq]
theorem zpb_42 {k : Nat} (v : Int32) (I : zI) (h : k < 8) : Rw_put_42 (zN k) v I = some (zUp I 43 k v) := by
  unfold Rw_put_42
  refine (zat_g (n := 8) (by decide)).trans ?_
  rw [zN_tn (by omega), if_pos ⟨(zN_le (by decide) (by omega)).mpr (by omega), (zN_lt (by omega) (by decide)).mpr h⟩]
theorem zpb_44 {k : Nat} (v : Int32) (I : zI) (h : k < 12) : Rw_put_44 (zN k) v I = some (zUp I 45 k v) := by
  unfold Rw_put_44
  refine (zat_g (n := 12) (by decide)).trans ?_
  rw [zN_tn (by omega), if_pos ⟨(zN_le (by decide) (by omega)).mpr (by omega), (zN_lt (by omega) (by decide)).mpr h⟩]
theorem zga_39 : ∀ (j k n : Nat) (I : zI), k + j = 8 → j < n → (∀ i, i < k → I 43 i = zN i) → ∃ I', ziGa_39_L71 n (zN k) I = some I' ∧ (∀ b, b ≠ 43 → I' b = I b) ∧ ∀ i, i < 8 → I' 43 i = zN i := by
  intro j
  induction j with
  | zero =>
    intro k n I hk hn h
    obtain ⟨n, rfl⟩ : ∃ e, n = e + 1 := ⟨n - 1, by omega⟩
    have : k = 8 := by omega
    subst this
    rw [ziGa_39_L71, if_pos (by decide)]
    exact ⟨I, rfl, fun _ _ => rfl, h⟩
  | succ j ih =>
    intro k n I hk hn h
    obtain ⟨n, rfl⟩ : ∃ e, n = e + 1 := ⟨n - 1, by omega⟩
    rw [ziGa_39_L71, if_neg (by rw [zl_8, zN_le (by decide) (by omega)]; omega), zpb_42 _ I (by omega), Option.bind_some, zl_1, zN_add]
    obtain ⟨I', e1, e2, e3⟩ := ih (k + 1) n (zUp I 43 k (zN k)) (by omega) (by omega) (fun i hi => by
      rw [zUp_at]
      by_cases q : i = k
      · rw [if_pos q, q]
      · rw [if_neg q]
        exact h i (by omega))
    exact ⟨I', e1, fun b hb => by rw [e2 b hb, zUp_ne hb], e3⟩
theorem zgb_39 : ∀ (j k n : Nat) (I : zI), k + j = 12 → j < n → (∀ i, i < k → I 45 i = zE (zOs i)) → ∃ I', ziGa_39_L94 n (zN k) I = some I' ∧ (∀ b, b ≠ 45 → I' b = I b) ∧ ∀ i, i < 12 → I' 45 i = zE (zOs i) := by
  intro j
  induction j with
  | zero =>
    intro k n I hk hn h
    obtain ⟨n, rfl⟩ : ∃ e, n = e + 1 := ⟨n - 1, by omega⟩
    have : k = 12 := by omega
    subst this
    rw [ziGa_39_L94, if_pos (by decide)]
    exact ⟨I, rfl, fun _ _ => rfl, h⟩
  | succ j ih =>
    intro k n I hk hn h
    obtain ⟨n, rfl⟩ : ∃ e, n = e + 1 := ⟨n - 1, by omega⟩
    have e : (if zB (decide (0 ≤ k ∧ k ≤ 7)) = (0 : Int32) then some (-6 : Int32) else some (zN k)) = some (zE (zOs k)) := by
      unfold zOs
      by_cases q : k < 8
      · rw [decide_eq_true (by omega), if_neg (by decide), if_pos q, zE_lt (by omega)]
      · rw [decide_eq_false (by omega), if_pos (by decide), if_neg q]
        rfl
    rw [ziGa_39_L94, if_neg (by rw [zl_12, zN_le (by decide) (by omega)]; omega), zbOne, zW_N (by decide) (by decide) (by omega), Option.bind_some, e, Option.bind_some, zpb_44 _ I (by omega), Option.bind_some, zl_1, zN_add]
    obtain ⟨I', e1, e2, e3⟩ := ih (k + 1) n (zUp I 45 k (zE (zOs k))) (by omega) (by omega) (fun i hi => by
      rw [zUp_at]
      by_cases q : i = k
      · rw [if_pos q, q]
      · rw [if_neg q]
        exact h i (by omega))
    exact ⟨I', e1, fun b hb => by rw [e2 b hb, zUp_ne hb], e3⟩
theorem zgi_39 (I : zI) {n : Nat} (hn : 30 < n) : ∃ I', ziGa_39 n I = some I' ∧ (∀ b, b < 40 ∨ 49 < b → I' b = I b) ∧ (∀ i, I' 41 i = 0) ∧ (∀ i, i < 8 → I' 43 i = zN i) ∧ (∀ i, i < 12 → I' 45 i = zE (zOs i)) ∧ (∀ i, I' 47 i = 0) ∧ ∀ i, I' 49 i = 0 := by
  obtain ⟨I1, a1, a2, a3⟩ := zga_39 8 0 n (zRow (zRow (zRow (zRow (zRow (zRow (zRow (zRow (zRow (zRow I 40 (fun _ => 0)) 41 (fun _ => 0)) 42 (fun _ => 0)) 43 (fun _ => 0)) 44 (fun _ => 0)) 45 (fun _ => 0)) 46 (fun _ => 0)) 47 (fun _ => 0)) 48 (fun _ => 0)) 49 (fun _ => 0)) rfl (by omega) (fun i hi => by omega)
  obtain ⟨I2, b1, b2, b3⟩ := zgb_39 12 0 n I1 rfl (by omega) (fun i hi => by omega)
  refine ⟨I2, ?_, fun b hb => ?_, fun i => ?_, fun i hi => ?_, b3, fun i => ?_, fun i => ?_⟩
  · unfold ziGa_39
    rw [ziRw_40, Option.bind_some, ziRw_42, Option.bind_some, ziRw_44, Option.bind_some, ziRw_46, Option.bind_some, ziRw_48, Option.bind_some, show ziGa_39_L71 n 0 _ = _ from a1, Option.bind_some, show ziGa_39_L94 n 0 I1 = _ from b1, Option.bind_some]
  · rw [b2 b (by omega), a2 b (by omega), zRo_ne (by omega), zRo_ne (by omega), zRo_ne (by omega), zRo_ne (by omega), zRo_ne (by omega), zRo_ne (by omega), zRo_ne (by omega), zRo_ne (by omega), zRo_ne (by omega), zRo_ne (by omega)]
  · rw [b2 41 (by decide), a2 41 (by decide), zRo_ne (by decide), zRo_ne (by decide), zRo_ne (by decide), zRo_ne (by decide), zRo_ne (by decide), zRo_ne (by decide), zRo_ne (by decide), zRo_ne (by decide), zRo_eq]
  · rw [b2 43 (by decide)]
    exact a3 i hi
  · rw [b2 47 (by decide), a2 47 (by decide), zRo_ne (by decide), zRo_ne (by decide), zRo_eq]
  · rw [b2 49 (by decide), a2 49 (by decide), zRo_eq]
theorem zsi_35 (I : zI) : ∃ I', ziPa_35 I = some I' ∧ ∀ b, b < 36 ∨ 37 < b → I' b = I b := by
  refine ⟨_, rfl, fun b hb => ?_⟩
  rw [zRo_ne (by omega), zRo_ne (by omega)]
theorem zsi_52 (I : zI) : ∃ I', ziRd_52 I = some I' ∧ ∀ b, b < 53 ∨ 58 < b → I' b = I b := by
  refine ⟨_, rfl, fun b hb => ?_⟩
  rw [zRo_ne (by omega), zRo_ne (by omega), zRo_ne (by omega), zRo_ne (by omega), zRo_ne (by omega), zRo_ne (by omega)]
theorem zsi_59 (I : zI) : ∃ I', ziWa_59 I = some I' ∧ ∀ b, b < 60 ∨ 61 < b → I' b = I b := by
  refine ⟨_, rfl, fun b hb => ?_⟩
  rw [zRo_ne (by omega), zRo_ne (by omega)]
theorem zsi_62 (I : zI) : ∃ I', ziOd_62 I = some I' ∧ ∀ b, b < 63 ∨ 64 < b → I' b = I b := by
  refine ⟨_, rfl, fun b hb => ?_⟩
  rw [zRo_ne (by omega), zRo_ne (by omega)]
theorem zsi_65 (I : zI) : ∃ I', ziSu_65 I = some I' ∧ ∀ b, b < 66 ∨ 69 < b → I' b = I b := by
  refine ⟨_, rfl, fun b hb => ?_⟩
  rw [zRo_ne (by omega), zRo_ne (by omega), zRo_ne (by omega), zRo_ne (by omega)]
theorem zsi_38 (I : zI) {n : Nat} (hn : 30 < n) : ∃ I', ziCo_38 n I = some I' ∧ ∀ b, b < 39 ∨ 51 < b → I' b = I b := by
  obtain ⟨I1, a1, a2, -⟩ := zgi_39 (zRow I 39 (fun _ => 0)) hn
  unfold ziCo_38
  rw [a1, Option.bind_some, ziRw_50, Option.bind_some]
  refine ⟨_, rfl, fun b hb => ?_⟩
  rw [zRo_ne (by omega), zRo_ne (by omega), a2 b (by omega), zRo_ne (by omega)]
/-! the worths of free rows -/
def zMt (n : Nat) : Nat → Int64
  | 0 => 0
  | b + 1 => zMt n b ||| zLshl 1 (zN (zWb n b))
theorem zMt_ok : ∀ n, n < 41 → 1 ≤ n → Lo_ntz (zMt n n ^^^ (-1)) (fun _ _ => 0) = some (zN (zWt n)) := by decide +kernel
theorem zLo_I (x : Int64) (I : zI) : Lo_ntz x I = Lo_ntz x (fun _ _ => 0) := rfl
theorem zpb_71 {k : Nat} (v : Int32) (I : zI) (h : k < 41) : Rw_put_71 (zN k) v I = some (zUp I 72 k v) := by
  unfold Rw_put_71
  refine (zat_g (n := 41) (by decide)).trans ?_
  rw [zN_tn (by omega), if_pos ⟨(zN_le (by decide) (by omega)).mpr (by omega), (zN_lt (by omega) (by decide)).mpr h⟩]
theorem ztb {I : zI} {n i : Nat} (h : ∀ k, k < n → I 72 k = zN (zWt k)) (hn : n < 41) (hi : i < n) : Tu_worthBehind (zN n) (zN i) I = some (zN (zWb n i)) := by
  unfold Tu_worthBehind
  rw [zle1 (by omega), zle2 (by omega) (by omega), zat_71 I (by omega), Option.bind_some, zat_71 I (by omega), Option.bind_some, h _ (by omega), h _ (by omega), zN_xor]
  rfl
theorem ztL30 {I : zI} {N : Nat} (h : ∀ k, k < N → I 72 k = zN (zWt k)) (hN : N < 41) : ∀ (j k n : Nat), k + j = N → j < n → ziTu_70_L30 n (zN N) (zMt N k) (zN k) I = some (zMt N N) := by
  intro j
  induction j with
  | zero =>
    intro k n hk hn
    obtain ⟨n, rfl⟩ : ∃ e, n = e + 1 := ⟨n - 1, by omega⟩
    rw [ziTu_70_L30, if_pos ((zN_le (by omega) (by omega)).mpr (by omega)), show k = N by omega]
  | succ j ih =>
    intro k n hk hn
    obtain ⟨n, rfl⟩ : ∃ e, n = e + 1 := ⟨n - 1, by omega⟩
    rw [ziTu_70_L30, if_neg (by rw [zN_le (by omega) (by omega)]; omega), ztb h hN (by omega), Option.bind_some]
    have := ih (k + 1) n (by omega) (by omega)
    rw [show (1 : Int32) = zN 1 from rfl, zN_add]
    exact this
theorem ztL19 : ∀ (j N n : Nat) (I : zI), N + j = 41 → 1 ≤ N → j + 60 < n → (∀ k, k < N → I 72 k = zN (zWt k)) → ∃ I', ziTu_70_L19 n (zN N) I = some I' ∧ (∀ b, b ≠ 72 → I' b = I b) ∧ ∀ k, k < 41 → I' 72 k = zN (zWt k) := by
  intro j
  induction j with
  | zero =>
    intro N n I hN h1 hn h
    obtain ⟨n, rfl⟩ : ∃ e, n = e + 1 := ⟨n - 1, by omega⟩
    have : N = 41 := by omega
    subst this
    rw [ziTu_70_L19, if_pos (by decide)]
    exact ⟨I, rfl, fun _ _ => rfl, h⟩
  | succ j ih =>
    intro N n I hN h1 hn h
    obtain ⟨n, rfl⟩ : ∃ e, n = e + 1 := ⟨n - 1, by omega⟩
    have e := ztL30 h (show N < 41 by omega) N 0 n (by omega) (by omega)
    rw [ziTu_70_L19, if_neg (by rw [zl_40, zN_lt (by decide) (by omega)]; omega), show ziTu_70_L30 n (zN N) 0 0 I = _ from e, Option.bind_some, zLo_I, zMt_ok N (by omega) h1, Option.bind_some, zpb_71 _ I (by omega), Option.bind_some, show (1 : Int32) = zN 1 from rfl, zN_add]
    obtain ⟨I', e1, e2, e3⟩ := ih (N + 1) n (zUp I 72 N (zN (zWt N))) (by omega) (by omega) (by omega) (fun k hk => by
      rw [zUp_at]
      by_cases q : k = N
      · rw [if_pos q, q]
      · rw [if_neg q]
        exact h k (by omega))
    exact ⟨I', e1, fun b hb => by rw [e2 b hb, zUp_ne hb], e3⟩
theorem zsi_70 (I : zI) {n : Nat} (hn : 200 < n) : ∃ I', ziTu_70 n I = some I' ∧ (∀ b, b < 71 ∨ 72 < b → I' b = I b) ∧ ∀ k, k < 41 → I' 72 k = zN (zWt k) := by
  obtain ⟨I', e1, e2, e3⟩ := ztL19 40 1 n (zRow (zRow I 71 (fun _ => 0)) 72 (fun _ => 0)) rfl (Nat.le_refl 1) (by omega) (fun k hk => by
    have : k = 0 := by omega
    subst this
    rw [zRo_eq]
    rfl)
  unfold ziTu_70
  rw [ziRw_71, Option.bind_some, show ziTu_70_L19 n 1 _ = _ from e1, Option.bind_some]
  exact ⟨I', rfl, fun b hb => by rw [e2 b (by omega), zRo_ne (by omega), zRo_ne (by omega)], e3⟩
/-! both objects -/
theorem zbi (I : zI) {n : Nat} (hn : 200 < n) : ∃ I', ziBM_1 n I = some I' ∧ (∀ b, b < 2 ∨ 72 < b → I' b = I b) ∧ (∀ i, I' 2 i = 0) ∧ (∀ i, I' 4 i = 0) ∧ (∀ i, i < 8 → I' 6 i = zN i) ∧ (∀ i, i < 12 → I' 8 i = zE (zOs i)) ∧ (∀ i, I' 10 i = 0) ∧ (∀ i, I' 12 i = 0) ∧ (∀ i, I' 35 i = 0) ∧ ∀ k, k < 41 → I' 72 k = zN (zWt k) := by
  obtain ⟨I1, a1, a2, a3, a4, a5, a6, a7⟩ := zgi_2 (zRow I 2 (fun _ => 0)) (show 30 < n by omega)
  obtain ⟨I2, b1, b2, -⟩ := zgi_13 (zRow I1 13 (fun _ => 0)) (show 30 < n by omega)
  obtain ⟨I3, c1, c2, -⟩ := zgi_24 (zRow I2 24 (fun _ => 0)) (show 30 < n by omega)
  obtain ⟨I4, d1, d2⟩ := zsi_35 (zRow I3 35 (fun _ => 0))
  obtain ⟨I5, e1, e2⟩ := zsi_38 (zRow I4 38 (fun _ => 0)) (show 30 < n by omega)
  obtain ⟨I6, f1, f2⟩ := zsi_52 (zRow I5 52 (fun _ => 0))
  obtain ⟨I7, g1, g2⟩ := zsi_59 (zRow I6 59 (fun _ => 0))
  obtain ⟨I8, h1, h2⟩ := zsi_62 (zRow I7 62 (fun _ => 0))
  obtain ⟨I9, i1, i2⟩ := zsi_65 (zRow I8 65 (fun _ => 0))
  obtain ⟨I', j1, j2, j3⟩ := zsi_70 (zRow I9 70 (fun _ => 0)) hn
  have hA : ∀ b, b < 13 ∨ 72 < b → I' b = I1 b := fun b hb => by
    rw [j2 b (by omega), zRo_ne (by omega), i2 b (by omega), zRo_ne (by omega), h2 b (by omega), zRo_ne (by omega), g2 b (by omega), zRo_ne (by omega), f2 b (by omega), zRo_ne (by omega), e2 b (by omega), zRo_ne (by omega), d2 b (by omega), zRo_ne (by omega), c2 b (by omega), zRo_ne (by omega), b2 b (by omega), zRo_ne (by omega)]
  have hB : I' 35 = fun _ => 0 := by
    rw [j2 35 (by decide), zRo_ne (by decide), i2 35 (by decide), zRo_ne (by decide), h2 35 (by decide), zRo_ne (by decide), g2 35 (by decide), zRo_ne (by decide), f2 35 (by decide), zRo_ne (by decide), e2 35 (by decide), zRo_ne (by decide), d2 35 (by decide), zRo_eq]
  refine ⟨I', ?_, fun b hb => ?_, fun i => ?_, fun i => ?_, fun i hi => ?_, fun i hi => ?_, fun i => ?_, fun i => ?_, fun i => ?_, j3⟩
  · unfold ziBM_1
    rw [a1, Option.bind_some, b1, Option.bind_some, c1, Option.bind_some, d1, Option.bind_some, e1, Option.bind_some, f1, Option.bind_some, g1, Option.bind_some, h1, Option.bind_some, i1, Option.bind_some, j1, Option.bind_some]
  · rw [hA b (by omega), a2 b (by omega), zRo_ne (by omega)]
  · rw [hA 2 (by decide), a2 2 (by decide), zRo_eq]
  · rw [hA 4 (by decide)]
    exact a3 i
  · rw [hA 6 (by decide)]
    exact a4 i hi
  · rw [hA 8 (by decide)]
    exact a5 i hi
  · rw [hA 10 (by decide)]
    exact a6 i
  · rw [hA 12 (by decide)]
    exact a7 i
  · rw [hB]
theorem zmi184 : ∀ (j k n : Nat) (I : zI), k + j = 8 → j < n → (∀ i, i < k → I 75 i = zN i ∧ I 76 i = zN i) → ∃ I', ziMo_73_L184 n (zN k) I = some I' ∧ (∀ b, b ≠ 75 → b ≠ 76 → I' b = I b) ∧ ∀ i, i < 8 → I' 75 i = zN i ∧ I' 76 i = zN i := by
  intro j
  induction j with
  | zero =>
    intro k n I hk hn h
    obtain ⟨n, rfl⟩ : ∃ e, n = e + 1 := ⟨n - 1, by omega⟩
    have : k = 8 := by omega
    subst this
    rw [ziMo_73_L184, if_pos (by decide)]
    exact ⟨I, rfl, fun _ _ _ => rfl, h⟩
  | succ j ih =>
    intro k n I hk hn h
    obtain ⟨n, rfl⟩ : ∃ e, n = e + 1 := ⟨n - 1, by omega⟩
    have hi := (zN_in (show k < 2147483648 by omega) (n := 8)).mpr (by omega)
    rw [ziMo_73_L184, if_neg (by rw [zl_8, zN_le (by decide) (by omega)]; omega), if_pos hi, if_pos hi, zN_tn (by omega), zl_1, zN_add]
    obtain ⟨I', e1, e2, e3⟩ := ih (k + 1) n (zUp (zUp I 75 k (zN k)) 76 k (zN k)) (by omega) (by omega) (fun i hi => by
      by_cases q : i = k
      · rw [q, zUp_eq, zUp_ne (by decide), zUp_eq]
        exact ⟨rfl, rfl⟩
      · rw [zUp_nj q, zUp_ne (by decide), zUp_nj q, zUp_ne (by decide)]
        exact h i (by omega))
    exact ⟨I', e1, fun b h1 h2 => by rw [e2 b h1 h2, zUp_ne h2, zUp_ne h1], e3⟩
theorem zmi212 : ∀ (j k n : Nat) (I : zI), k + j = 10 → j < n → (∀ i, i < k → I 77 i = -(zN 6) ∧ I 78 i = -(zN 6)) → ∃ I', ziMo_73_L212 n (zN k) I = some I' ∧ (∀ b, b ≠ 77 → b ≠ 78 → I' b = I b) ∧ ∀ i, i < 10 → I' 77 i = -(zN 6) ∧ I' 78 i = -(zN 6) := by
  intro j
  induction j with
  | zero =>
    intro k n I hk hn h
    obtain ⟨n, rfl⟩ : ∃ e, n = e + 1 := ⟨n - 1, by omega⟩
    have : k = 10 := by omega
    subst this
    rw [ziMo_73_L212, if_pos (by decide)]
    exact ⟨I, rfl, fun _ _ _ => rfl, h⟩
  | succ j ih =>
    intro k n I hk hn h
    obtain ⟨n, rfl⟩ : ∃ e, n = e + 1 := ⟨n - 1, by omega⟩
    have hi := (zN_in (show k < 2147483648 by omega) (n := 10)).mpr (by omega)
    rw [ziMo_73_L212, if_neg (by rw [zl_10, zN_le (by decide) (by omega)]; omega), if_pos hi, if_pos hi, zN_tn (by omega), zl_1, zN_add, show (-6 : Int32) = -(zN 6) from rfl]
    obtain ⟨I', e1, e2, e3⟩ := ih (k + 1) n (zUp (zUp I 77 k (-(zN 6))) 78 k (-(zN 6))) (by omega) (by omega) (fun i hi => by
      by_cases q : i = k
      · rw [q, zUp_eq, zUp_ne (by decide), zUp_eq]
        exact ⟨rfl, rfl⟩
      · rw [zUp_nj q, zUp_ne (by decide), zUp_nj q, zUp_ne (by decide)]
        exact h i (by omega))
    exact ⟨I', e1, fun b h1 h2 => by rw [e2 b h1 h2, zUp_ne h2, zUp_ne h1], e3⟩
/-- the reference's rows before its loops -/
theorem zmi (I : zI) {n : Nat} (hn : 200 < n) : ∃ I', ziMo_73 n I = some I' ∧ (∀ b, b < 74 → I' b = I b) ∧ (∀ b, b = 74 ∨ b = 79 ∨ b = 80 ∨ b = 81 ∨ b = 95 → ∀ i, I' b i = 0) ∧ (∀ i, i < 8 → I' 75 i = zN i ∧ I' 76 i = zN i) ∧ ∀ i, i < 10 → I' 77 i = -(zN 6) ∧ I' 78 i = -(zN 6) := by
  obtain ⟨I1, a1, a2, a3⟩ := zmi184 8 0 n (zRow (zRow (zRow (zRow (zRow (zRow (zRow (zRow (zRow (zRow (zRow (zRow (zRow (zRow (zRow (zRow (zRow (zRow (zRow (zRow (zRow (zRow I 74 (fun _ => 0)) 75 (fun _ => 0)) 76 (fun _ => 0)) 77 (fun _ => 0)) 78 (fun _ => 0)) 79 (fun _ => 0)) 80 (fun _ => 0)) 81 (fun _ => 0)) 82 (fun _ => 0)) 83 (fun _ => 0)) 84 (fun _ => 0)) 85 (fun _ => 0)) 86 (fun _ => 0)) 87 (fun _ => 0)) 88 (fun _ => 0)) 89 (fun _ => 0)) 90 (fun _ => 0)) 91 (fun _ => 0)) 92 (fun _ => 0)) 93 (fun _ => 0)) 94 (fun _ => 0)) 95 (fun _ => 0)) rfl (by omega) (fun i hi => by omega)
  obtain ⟨I2, b1, b2, b3⟩ := zmi212 10 0 n I1 rfl (by omega) (fun i hi => by omega)
  refine ⟨I2, ?_, fun b hb => ?_, ?_, fun i hi => ?_, b3⟩
  · unfold ziMo_73
    rw [show ziMo_73_L184 n 0 _ = _ from a1, Option.bind_some, show ziMo_73_L212 n 0 I1 = _ from b1, Option.bind_some]
  · rw [b2 b (by omega) (by omega), a2 b (by omega) (by omega), zRo_ne (by omega), zRo_ne (by omega), zRo_ne (by omega), zRo_ne (by omega), zRo_ne (by omega), zRo_ne (by omega), zRo_ne (by omega), zRo_ne (by omega), zRo_ne (by omega), zRo_ne (by omega), zRo_ne (by omega), zRo_ne (by omega), zRo_ne (by omega), zRo_ne (by omega), zRo_ne (by omega), zRo_ne (by omega), zRo_ne (by omega), zRo_ne (by omega), zRo_ne (by omega), zRo_ne (by omega), zRo_ne (by omega), zRo_ne (by omega)]
  · rintro b (rfl | rfl | rfl | rfl | rfl) i
    · rw [b2 74 (by decide) (by decide), a2 74 (by decide) (by decide), zRo_ne (by decide), zRo_ne (by decide), zRo_ne (by decide), zRo_ne (by decide), zRo_ne (by decide), zRo_ne (by decide), zRo_ne (by decide), zRo_ne (by decide), zRo_ne (by decide), zRo_ne (by decide), zRo_ne (by decide), zRo_ne (by decide), zRo_ne (by decide), zRo_ne (by decide), zRo_ne (by decide), zRo_ne (by decide), zRo_ne (by decide), zRo_ne (by decide), zRo_ne (by decide), zRo_ne (by decide), zRo_ne (by decide), zRo_eq]
    · rw [b2 79 (by decide) (by decide), a2 79 (by decide) (by decide), zRo_ne (by decide), zRo_ne (by decide), zRo_ne (by decide), zRo_ne (by decide), zRo_ne (by decide), zRo_ne (by decide), zRo_ne (by decide), zRo_ne (by decide), zRo_ne (by decide), zRo_ne (by decide), zRo_ne (by decide), zRo_ne (by decide), zRo_ne (by decide), zRo_ne (by decide), zRo_ne (by decide), zRo_ne (by decide), zRo_eq]
    · rw [b2 80 (by decide) (by decide), a2 80 (by decide) (by decide), zRo_ne (by decide), zRo_ne (by decide), zRo_ne (by decide), zRo_ne (by decide), zRo_ne (by decide), zRo_ne (by decide), zRo_ne (by decide), zRo_ne (by decide), zRo_ne (by decide), zRo_ne (by decide), zRo_ne (by decide), zRo_ne (by decide), zRo_ne (by decide), zRo_ne (by decide), zRo_ne (by decide), zRo_eq]
    · rw [b2 81 (by decide) (by decide), a2 81 (by decide) (by decide), zRo_ne (by decide), zRo_ne (by decide), zRo_ne (by decide), zRo_ne (by decide), zRo_ne (by decide), zRo_ne (by decide), zRo_ne (by decide), zRo_ne (by decide), zRo_ne (by decide), zRo_ne (by decide), zRo_ne (by decide), zRo_ne (by decide), zRo_ne (by decide), zRo_ne (by decide), zRo_eq]
    · rw [b2 95 (by decide) (by decide), a2 95 (by decide) (by decide), zRo_eq]
  · rw [b2 75 (by decide) (by decide), b2 76 (by decide) (by decide)]
    exact a3 i hi
/-- the state at the start -/
def zS0 : zA := fun k i => if k = 1 then i else if k = 2 ∨ k = 3 then zOs i else 0
theorem zOs_pl : zPl zOs zOs := by
  refine ⟨fun m hm => ?_, fun p hp => ?_, fun m p hm hp => ?_⟩ <;> unfold zOs
  · split <;> omega
  · split <;> omega
  · split <;> split <;> omega
theorem zS0_1 (i : Nat) : zS0 1 i = i := rfl
theorem zS0_2 (i : Nat) : zS0 2 i = zOs i := rfl
theorem zS0_3 (i : Nat) : zS0 3 i = zOs i := rfl
theorem zOs_lo {i : Nat} (h : i < 8) : zOs i = i := if_pos h
theorem zOs_hi {i : Nat} (h : 8 ≤ i) : zOs i = 100 := if_neg (by omega)
theorem zS0_v : VS zS0 := by
  refine ⟨fun b _ => by show (0 : Nat) < 1024; decide, fun a b _ _ => by show (0 : Nat).testBit b = (0 : Nat).testBit a; rw [Nat.zero_testBit, Nat.zero_testBit], fun k hk => by rw [zS0_1]; omega, zOs_pl, fun m hm h1 h2 => ?_, by decide, by decide, by decide, fun i _ => by show (0 : Nat) < 976; decide, fun m _ => by show (0 : Nat) ≤ 9; decide⟩
  rw [zS0_2] at h1 h2
  by_cases q : m < 8
  · rw [zOs_lo q] at h1
    omega
  · rw [zOs_hi (by omega)] at h2
    omega
theorem zboot (I : zI) (hI : ∀ i, I 1 i = 0) {n : Nat} (hn : 200 < n) : ∃ J1 J, ziBM_1 n I = some J1 ∧ ziMo_73 n (zRow J1 73 (fun _ => 0)) = some J ∧ Rel J := by
  obtain ⟨J1, a1, a2, a3, a4, a5, a6, a7, a8, a9, a10⟩ := zbi I hn
  obtain ⟨J, b1, b2, b3, b4, b5⟩ := zmi (zRow J1 73 (fun _ => 0)) hn
  have e : ∀ b, b < 73 → J b = J1 b := fun b hb => by rw [b2 b (by omega), zRo_ne (by omega)]
  have e73 : ∀ i, J 73 i = 0 := fun i => by rw [b2 73 (by decide), zRo_eq]
  refine ⟨J1, J, a1, b1, ⟨zS0, ?_, ?_, zS0_v⟩, ⟨0, fun _ => 0, ?_, ?_, ?_, ?_⟩, ⟨0, ?_, ?_, ?_⟩, ?_⟩
  · refine ⟨fun i hi => ?_, fun i hi => ?_, fun i hi => ?_, fun i hi => ?_, fun i hi => ?_, ?_, ?_, ?_⟩
    · show J 4 i = zN 0
      rw [e 4 (by decide), a4]
      rfl
    · show J 6 i = zN (zS0 1 i)
      rw [e 6 (by decide), a5 i hi, zS0_1]
    · show J 8 i = zE (zS0 2 i)
      rw [e 8 (by decide), a6 i hi, zS0_2]
    · show J 10 i = zN 0
      rw [e 10 (by decide), a7]
      rfl
    · show J 12 i = zN 0
      rw [e 12 (by decide), a8]
      rfl
    · rw [e 2 (by decide), a3]
      rfl
    · rw [e 2 (by decide), a3]
      rfl
    · rw [e 2 (by decide), a3]
      rfl
  · refine ⟨fun i hi => ?_, fun i hi => ?_, fun i hi => ?_, fun i hi => ?_, fun i hi => ?_, fun i hi => ?_, fun i hi => ?_, fun i hi => ?_, ?_, ?_, ?_⟩
    · rw [b3 74 (by decide)]
      rfl
    · rw [(b4 i hi).1, zS0_1]
    · rw [(b4 i hi).2, zS0_3, zOs_lo hi, zE_lt (by omega)]
    · rw [(b5 i hi).1, zS0_3, zOs_hi (by omega), zE_ge (by omega)]
    · rw [(b5 i hi).2, zS0_3, zOs_hi (by omega), if_neg (by decide)]
    · rw [b3 79 (by decide), show zS0 6 i = 0 from rfl]
      rfl
    · rw [b3 80 (by decide), show zS0 6 i = 0 from rfl]
      rfl
    · rw [b3 81 (by decide), show zS0 6 i = 0 from rfl]
      rfl
    · rw [e73]
      rfl
    · rw [e73]
      rfl
    · rw [e73]
      rfl
  · decide
  · rw [e 35 (by decide), a9]
    rfl
  · rw [e73]
    rfl
  · intro i hi
    omega
  · decide
  · rw [e 1 (by decide), a2 1 (by decide), hI]
    rfl
  · intro j hj
    rw [b3 95 (by decide), Nat.zero_testBit]
    exact ⟨rfl, fun z => by cases z⟩
  · intro i hi
    rw [e 72 (by decide), a10 i hi]
    rfl
