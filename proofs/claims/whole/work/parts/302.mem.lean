/-! what is at a place, where a memory is -/
theorem zmemL_2 {I : zI} {c o : Nat → Nat} (h : zPl c o) (hr : ∀ m, m < 12 → I 8 m = zE (c m)) {p : Nat} (hp : p < 20) : ∀ (j k n : Nat), k + j = 12 → j < n → (∀ m, m < k → c m ≠ p) → Ga_memoryAt_2_L2 n (zN p) (zN k) I = some (zE (o p)) := by
  intro j
  induction j with
  | zero =>
    intro k n hk hn hm
    obtain ⟨n, rfl⟩ : ∃ e, n = e + 1 := ⟨n - 1, by omega⟩
    rw [Ga_memoryAt_2_L2, zl_12, zl_6, if_pos ((zN_le (by decide) (by omega)).mpr (by omega))]
    rcases zPl_o h hp with h1 | h1
    · exact absurd ((zPl_i h h1 hp).mpr rfl) (hm _ (by omega))
    · rw [h1]
      rfl
  | succ j ih =>
    intro k n hk hn hm
    obtain ⟨n, rfl⟩ : ∃ e, n = e + 1 := ⟨n - 1, by omega⟩
    rw [Ga_memoryAt_2_L2, zl_12, if_neg (by rw [zN_le (by decide) (by omega)]; omega), zat_7 I (by omega), Option.bind_some, hr k (by omega)]
    by_cases h1 : c k = p
    · rw [if_pos ((zE_eq (by omega)).mpr h1), (zPl_i h (by omega) hp).mp h1, zE_lt (by omega)]
    · rw [if_neg (fun e => h1 ((zE_eq (by omega)).mp e)), zl_1, zN_add]
      refine ih (k + 1) n (by omega) (by omega) (fun m hm1 => ?_)
      by_cases h2 : m = k
      · rw [h2]
        exact h1
      · exact hm m (by omega)
theorem zmem_2 {I : zI} {c o : Nat → Nat} (h : zPl c o) (hr : ∀ m, m < 12 → I 8 m = zE (c m)) {p n : Nat} (hp : p < 20) (hn : 12 < n) : Ga_memoryAt_2 n (zN p) I = some (zE (o p)) := zmemL_2 h hr hp 12 0 n rfl hn (fun m hm => absurd hm (Nat.not_lt_zero m))
theorem zmemL_39 {I : zI} {c o : Nat → Nat} (h : zPl c o) (hr : ∀ m, m < 12 → I 45 m = zE (c m)) {p : Nat} (hp : p < 20) : ∀ (j k n : Nat), k + j = 12 → j < n → (∀ m, m < k → c m ≠ p) → Ga_memoryAt_39_L2 n (zN p) (zN k) I = some (zE (o p)) := by
  intro j
  induction j with
  | zero =>
    intro k n hk hn hm
    obtain ⟨n, rfl⟩ : ∃ e, n = e + 1 := ⟨n - 1, by omega⟩
    rw [Ga_memoryAt_39_L2, zl_12, zl_6, if_pos ((zN_le (by decide) (by omega)).mpr (by omega))]
    rcases zPl_o h hp with h1 | h1
    · exact absurd ((zPl_i h h1 hp).mpr rfl) (hm _ (by omega))
    · rw [h1]
      rfl
  | succ j ih =>
    intro k n hk hn hm
    obtain ⟨n, rfl⟩ : ∃ e, n = e + 1 := ⟨n - 1, by omega⟩
    rw [Ga_memoryAt_39_L2, zl_12, if_neg (by rw [zN_le (by decide) (by omega)]; omega), zat_44 I (by omega), Option.bind_some, hr k (by omega)]
    by_cases h1 : c k = p
    · rw [if_pos ((zE_eq (by omega)).mpr h1), (zPl_i h (by omega) hp).mp h1, zE_lt (by omega)]
    · rw [if_neg (fun e => h1 ((zE_eq (by omega)).mp e)), zl_1, zN_add]
      refine ih (k + 1) n (by omega) (by omega) (fun m hm1 => ?_)
      by_cases h2 : m = k
      · rw [h2]
        exact h1
      · exact hm m (by omega)
theorem zmem_39 {I : zI} {c o : Nat → Nat} (h : zPl c o) (hr : ∀ m, m < 12 → I 45 m = zE (c m)) {p n : Nat} (hp : p < 20) (hn : 12 < n) : Ga_memoryAt_39 n (zN p) I = some (zE (o p)) := zmemL_39 h hr hp 12 0 n rfl hn (fun m hm => absurd hm (Nat.not_lt_zero m))
theorem zwhL5 {I : zI} {c o : Nat → Nat} (h : zPl c o) (hr : ∀ k, k < 8 → I 76 k = zE (o k)) {m : Nat} (hm : m < 12) : ∀ (j k n : Nat) (v : Int32), k + j = 8 → j < n → v = zE (if c m < k then c m else 100) → Mo_whereIs_L5 n (zN m) v (zN k) I = some (zE (if c m < 8 then c m else 100)) := by
  intro j
  induction j with
  | zero =>
    intro k n v hk hn hv
    obtain ⟨n, rfl⟩ : ∃ e, n = e + 1 := ⟨n - 1, by omega⟩
    rw [Mo_whereIs_L5, zl_8, if_pos ((zN_le (by decide) (by omega)).mpr (by omega)), hv, show k = 8 by omega]
  | succ j ih =>
    intro k n v hk hn hv
    obtain ⟨n, rfl⟩ : ∃ e, n = e + 1 := ⟨n - 1, by omega⟩
    rw [Mo_whereIs_L5, zl_8, if_neg (by rw [zN_le (by decide) (by omega)]; omega), if_pos ((zN_in (by omega)).mpr (by omega)), zN_tn (by omega), hr k (by omega), zl_1, zN_add]
    have e := zPl_i h hm (show k < 20 by omega)
    by_cases h1 : o k = m
    · rw [if_pos ((zE_eq (by omega)).mpr h1), Option.bind_some]
      refine ih (k + 1) n _ (by omega) (by omega) ?_
      rw [if_pos (by have := e.mpr h1; omega), e.mpr h1, zE_lt (by omega)]
    · rw [if_neg (fun q => h1 ((zE_eq (by omega)).mp q)), Option.bind_some]
      refine ih (k + 1) n _ (by omega) (by omega) ?_
      rw [hv]
      have h2 : c m ≠ k := fun q => h1 (e.mp q)
      by_cases h3 : c m < k
      · rw [if_pos h3, if_pos (by omega)]
      · rw [if_neg h3, if_neg (by omega)]
theorem zwhL35 {I : zI} {c o : Nat → Nat} (h : zPl c o) (hr : ∀ k, k < 10 → I 77 k = zE (o (10 + k))) {m : Nat} (hm : m < 12) : ∀ (j k n : Nat) (v : Int32), k + j = 10 → j < n → v = zE (if c m < 10 + k then c m else 100) → Mo_whereIs_L35 n (zN m) v (zN k) I = some (zE (c m)) := by
  intro j
  induction j with
  | zero =>
    intro k n v hk hn hv
    obtain ⟨n, rfl⟩ : ∃ e, n = e + 1 := ⟨n - 1, by omega⟩
    rw [Mo_whereIs_L35, zl_10, if_pos ((zN_le (by decide) (by omega)).mpr (by omega)), hv, show k = 10 by omega]
    have := zPl_c h hm
    by_cases h3 : c m < 10 + 10
    · rw [if_pos h3]
    · rw [if_neg h3, show c m = 100 by omega]
  | succ j ih =>
    intro k n v hk hn hv
    obtain ⟨n, rfl⟩ : ∃ e, n = e + 1 := ⟨n - 1, by omega⟩
    rw [Mo_whereIs_L35, zl_10, if_neg (by rw [zN_le (by decide) (by omega)]; omega), if_pos ((zN_in (by omega)).mpr (by omega)), zN_tn (by omega), hr k (by omega), zl_1, zN_add, zN_add]
    have e := zPl_i h hm (show 10 + k < 20 by omega)
    by_cases h1 : o (10 + k) = m
    · rw [if_pos ((zE_eq (by omega)).mpr h1), Option.bind_some]
      refine ih (k + 1) n _ (by omega) (by omega) ?_
      rw [if_pos (by have := e.mpr h1; omega), e.mpr h1, zE_lt (by omega)]
    · rw [if_neg (fun q => h1 ((zE_eq (by omega)).mp q)), Option.bind_some]
      refine ih (k + 1) n _ (by omega) (by omega) ?_
      rw [hv]
      have h2 : c m ≠ 10 + k := fun q => h1 (e.mp q)
      by_cases h3 : c m < 10 + k
      · rw [if_pos h3, if_pos (by omega)]
      · rw [if_neg h3, if_neg (by omega)]
theorem zwhere {I : zI} {c o : Nat → Nat} (h : zPl c o) (hr : ∀ k, k < 8 → I 76 k = zE (o k)) (ht : ∀ k, k < 10 → I 77 k = zE (o (10 + k))) {m n : Nat} (hm : m < 12) (hn : 10 < n) : Mo_whereIs n (zN m) I = some (zE (c m)) := by
  unfold Mo_whereIs
  rw [zl_6, show (0 : Int32) = zN 0 from rfl, zwhL5 h hr hm 8 0 n _ rfl (by omega) (by rw [if_neg (by omega)]; rfl), Option.bind_some, zwhL35 h ht hm 10 0 n _ rfl hn ?_, Option.bind_some]
  have := zPl_c h hm
  by_cases h3 : c m < 8
  · rw [if_pos h3, if_pos (by omega)]
  · rw [if_neg h3, if_neg (by omega)]
/-! parts of a state that change together -/
def yPs (s : zA) (c o f : Nat → Nat) : zA := fun a => if a = 2 then c else if a = 3 then o else if a = 4 then f else s a
theorem yPs_2 (s : zA) (c o f : Nat → Nat) : yPs s c o f 2 = c := rfl
theorem yPs_3 (s : zA) (c o f : Nat → Nat) : yPs s c o f 3 = o := rfl
theorem yPs_4 (s : zA) (c o f : Nat → Nat) : yPs s c o f 4 = f := rfl
theorem GC_ps {a : Nat} {I I' : zI} {s : zA} {c o f : Nat → Nat} (h : GC a I s) (h1 : ∀ b, b ≠ a + 6 → b ≠ a + 8 → I' b = I b) (h2 : ∀ m, m < 12 → I' (a + 6) m = zE (c m)) (h3 : ∀ m, m < 12 → I' (a + 8) m = zN (f m)) : GC a I' (yPs s c o f) := by
  obtain ⟨g0, g1, g2, g4, g6, g5, g7, g8⟩ := h
  refine ⟨fun j hj => ?_, fun j hj => ?_, h2, h3, fun j hj => ?_, ?_, ?_, ?_⟩
  · rw [h1 _ (by omega) (by omega)]
    exact g0 j hj
  · rw [h1 _ (by omega) (by omega)]
    exact g1 j hj
  · rw [h1 _ (by omega) (by omega)]
    exact g6 j hj
  · rw [h1 _ (by omega) (by omega)]
    exact g5
  · rw [h1 _ (by omega) (by omega)]
    exact g7
  · rw [h1 _ (by omega) (by omega)]
    exact g8
theorem GM_ps {I I' : zI} {s : zA} {c o f : Nat → Nat} (h : GM I s) (h1 : ∀ b, b ≠ 76 → b ≠ 77 → b ≠ 78 → I' b = I b) (h2 : ∀ k, k < 8 → I' 76 k = zE (o k)) (h3 : ∀ b, b < 10 → I' 77 b = zE (o (10 + b))) (h4 : ∀ b, b < 10 → I' 78 b = if o (10 + b) < 100 then zN (f (o (10 + b))) else -(zN 6)) : GM I' (yPs s c o f) := by
  obtain ⟨g0, g1, g2, g3, g4, g5, g6, g7, g8, g9, ga⟩ := h
  refine ⟨fun j hj => ?_, fun j hj => ?_, h2, h3, h4, fun j hj => ?_, fun j hj => ?_, fun j hj => ?_, ?_, ?_, ?_⟩
  · rw [h1 _ (by decide) (by decide) (by decide)]
    exact g0 j hj
  · rw [h1 _ (by decide) (by decide) (by decide)]
    exact g1 j hj
  · rw [h1 _ (by decide) (by decide) (by decide)]
    exact g5 j hj
  · rw [h1 _ (by decide) (by decide) (by decide)]
    exact g6 j hj
  · rw [h1 _ (by decide) (by decide) (by decide)]
    exact g7 j hj
  · rw [h1 _ (by decide) (by decide) (by decide)]
    exact g8
  · rw [h1 _ (by decide) (by decide) (by decide)]
    exact g9
  · rw [h1 _ (by decide) (by decide) (by decide)]
    exact ga
theorem VS_ps {s : zA} {c o f : Nat → Nat} (h : VS s) (h1 : zPl c o) (h2 : ∀ m, m < 12 → 10 ≤ c m → c m < 100 → 1 ≤ f m ∧ f m ≤ 9) (h3 : ∀ m, m < 12 → f m ≤ 9) : VS (yPs s c o f) := by
  obtain ⟨g0, g1, g2, g3, g4, g5, g6, g7, g8, g9⟩ := h
  exact ⟨g0, g1, g2, h1, h2, g5, g6, g7, g8, h3⟩
theorem GC_up0 {a : Nat} {I : zI} {s : zA} {i v : Nat} (h : GC a I s) : GC a (zUp I (a + 2) i (zN v)) (zUp s 0 i v) := by
  obtain ⟨g0, g1, g2, g4, g6, g5, g7, g8⟩ := h
  refine ⟨fun j hj => ?_, fun j hj => ?_, fun j hj => ?_, fun j hj => ?_, fun j hj => ?_, ?_, ?_, ?_⟩
  · rw [zUp_at, zUp_at]
    split
    · rfl
    · exact g0 j hj
  · rw [zUp_ne (by omega), zUp_ne (by decide)]
    exact g1 j hj
  · rw [zUp_ne (by omega), zUp_ne (by decide)]
    exact g2 j hj
  · rw [zUp_ne (by omega), zUp_ne (by decide)]
    exact g4 j hj
  · rw [zUp_ne (by omega), zUp_ne (by decide)]
    exact g6 j hj
  · rw [zUp_ne (by omega), zUp_ne (by decide)]
    exact g5
  · rw [zUp_ne (by omega), zUp_ne (by decide)]
    exact g7
  · rw [zUp_ne (by omega), zUp_ne (by decide)]
    exact g8
theorem GC_up1 {a : Nat} {I : zI} {s : zA} {i v : Nat} (h : GC a I s) : GC a (zUp I (a + 4) i (zN v)) (zUp s 1 i v) := by
  obtain ⟨g0, g1, g2, g4, g6, g5, g7, g8⟩ := h
  refine ⟨fun j hj => ?_, fun j hj => ?_, fun j hj => ?_, fun j hj => ?_, fun j hj => ?_, ?_, ?_, ?_⟩
  · rw [zUp_ne (by omega), zUp_ne (by decide)]
    exact g0 j hj
  · rw [zUp_at, zUp_at]
    split
    · rfl
    · exact g1 j hj
  · rw [zUp_ne (by omega), zUp_ne (by decide)]
    exact g2 j hj
  · rw [zUp_ne (by omega), zUp_ne (by decide)]
    exact g4 j hj
  · rw [zUp_ne (by omega), zUp_ne (by decide)]
    exact g6 j hj
  · rw [zUp_ne (by omega), zUp_ne (by decide)]
    exact g5
  · rw [zUp_ne (by omega), zUp_ne (by decide)]
    exact g7
  · rw [zUp_ne (by omega), zUp_ne (by decide)]
    exact g8
theorem GC_up6 {a : Nat} {I : zI} {s : zA} {i v : Nat} (h : GC a I s) : GC a (zUp I (a + 10) i (zN v)) (zUp s 6 i v) := by
  obtain ⟨g0, g1, g2, g4, g6, g5, g7, g8⟩ := h
  refine ⟨fun j hj => ?_, fun j hj => ?_, fun j hj => ?_, fun j hj => ?_, fun j hj => ?_, ?_, ?_, ?_⟩
  · rw [zUp_ne (by omega), zUp_ne (by decide)]
    exact g0 j hj
  · rw [zUp_ne (by omega), zUp_ne (by decide)]
    exact g1 j hj
  · rw [zUp_ne (by omega), zUp_ne (by decide)]
    exact g2 j hj
  · rw [zUp_ne (by omega), zUp_ne (by decide)]
    exact g4 j hj
  · rw [zUp_at, zUp_at]
    split
    · rfl
    · exact g6 j hj
  · rw [zUp_ne (by omega), zUp_ne (by decide)]
    exact g5
  · rw [zUp_ne (by omega), zUp_ne (by decide)]
    exact g7
  · rw [zUp_ne (by omega), zUp_ne (by decide)]
    exact g8
theorem GC_sl5 {a : Nat} {I : zI} {s : zA} {v : Nat} (h : GC a I s) : GC a (zUp I a 5 (zN v)) (zUp s 5 2 v) := by
  obtain ⟨g0, g1, g2, g4, g6, g5, g7, g8⟩ := h
  refine ⟨fun j hj => ?_, fun j hj => ?_, fun j hj => ?_, fun j hj => ?_, fun j hj => ?_, ?_, ?_, ?_⟩
  · rw [zUp_ne (by omega), zUp_ne (by decide)]
    exact g0 j hj
  · rw [zUp_ne (by omega), zUp_ne (by decide)]
    exact g1 j hj
  · rw [zUp_ne (by omega), zUp_ne (by decide)]
    exact g2 j hj
  · rw [zUp_ne (by omega), zUp_ne (by decide)]
    exact g4 j hj
  · rw [zUp_ne (by omega), zUp_ne (by decide)]
    exact g6 j hj
  · rw [zUp_eq, zUp_eq]
  · rw [zUp_nj (by decide), zUp_nj (by decide)]
    exact g7
  · rw [zUp_nj (by decide), zUp_nj (by decide)]
    exact g8
theorem GC_sl6 {a : Nat} {I : zI} {s : zA} {v : Nat} (h : GC a I s) : GC a (zUp I a 6 (zN v)) (zUp s 5 0 v) := by
  obtain ⟨g0, g1, g2, g4, g6, g5, g7, g8⟩ := h
  refine ⟨fun j hj => ?_, fun j hj => ?_, fun j hj => ?_, fun j hj => ?_, fun j hj => ?_, ?_, ?_, ?_⟩
  · rw [zUp_ne (by omega), zUp_ne (by decide)]
    exact g0 j hj
  · rw [zUp_ne (by omega), zUp_ne (by decide)]
    exact g1 j hj
  · rw [zUp_ne (by omega), zUp_ne (by decide)]
    exact g2 j hj
  · rw [zUp_ne (by omega), zUp_ne (by decide)]
    exact g4 j hj
  · rw [zUp_ne (by omega), zUp_ne (by decide)]
    exact g6 j hj
  · rw [zUp_nj (by decide), zUp_nj (by decide)]
    exact g5
  · rw [zUp_eq, zUp_eq]
  · rw [zUp_nj (by decide), zUp_nj (by decide)]
    exact g8
theorem GC_sl7 {a : Nat} {I : zI} {s : zA} {v : Nat} (h : GC a I s) : GC a (zUp I a 7 (zN v)) (zUp s 5 1 v) := by
  obtain ⟨g0, g1, g2, g4, g6, g5, g7, g8⟩ := h
  refine ⟨fun j hj => ?_, fun j hj => ?_, fun j hj => ?_, fun j hj => ?_, fun j hj => ?_, ?_, ?_, ?_⟩
  · rw [zUp_ne (by omega), zUp_ne (by decide)]
    exact g0 j hj
  · rw [zUp_ne (by omega), zUp_ne (by decide)]
    exact g1 j hj
  · rw [zUp_ne (by omega), zUp_ne (by decide)]
    exact g2 j hj
  · rw [zUp_ne (by omega), zUp_ne (by decide)]
    exact g4 j hj
  · rw [zUp_ne (by omega), zUp_ne (by decide)]
    exact g6 j hj
  · rw [zUp_nj (by decide), zUp_nj (by decide)]
    exact g5
  · rw [zUp_nj (by decide), zUp_nj (by decide)]
    exact g7
  · rw [zUp_eq, zUp_eq]
theorem GC_fr {a : Nat} {I I' : zI} {s : zA} (h : GC a I s) (h1 : ∀ b, a ≤ b → b ≤ a + 10 → I' b = I b) : GC a I' s := by
  unfold GC at *
  rw [h1 _ (by omega) (by omega), h1 _ (by omega) (by omega), h1 _ (by omega) (by omega), h1 _ (by omega) (by omega), h1 _ (by omega) (by omega), h1 _ (by omega) (by omega)]
  exact h
theorem GM_fr {I I' : zI} {s : zA} (h : GM I s) (h1 : ∀ b, 74 ≤ b → b ≤ 81 → I' b = I b) (h2 : I' 73 5 = I 73 5) (h3 : I' 73 6 = I 73 6) (h4 : I' 73 10 = I 73 10) : GM I' s := by
  unfold GM at *
  rw [h1 _ (by decide) (by decide), h1 _ (by decide) (by decide), h1 _ (by decide) (by decide), h1 _ (by decide) (by decide), h1 _ (by decide) (by decide), h1 _ (by decide) (by decide), h1 _ (by decide) (by decide), h1 _ (by decide) (by decide), h2, h3, h4]
  exact h
theorem GM_up0 {I : zI} {s : zA} {i v : Nat} (h : GM I s) : GM (zUp I 74 i (zN v)) (zUp s 0 i v) := by
  obtain ⟨g0, g1, g2, g3, g4, g5, g6, g7, g8, g9, ga⟩ := h
  refine ⟨fun j hj => ?_, fun j hj => ?_, fun j hj => ?_, fun j hj => ?_, fun j hj => ?_, fun j hj => ?_, fun j hj => ?_, fun j hj => ?_, ?_, ?_, ?_⟩
  · rw [zUp_at, zUp_at]
    split
    · rfl
    · exact g0 j hj
  · exact g1 j hj
  · exact g2 j hj
  · exact g3 j hj
  · exact g4 j hj
  · exact g5 j hj
  · exact g6 j hj
  · exact g7 j hj
  · exact g8
  · exact g9
  · exact ga
theorem GM_up1 {I : zI} {s : zA} {i v : Nat} (h : GM I s) : GM (zUp I 75 i (zN v)) (zUp s 1 i v) := by
  obtain ⟨g0, g1, g2, g3, g4, g5, g6, g7, g8, g9, ga⟩ := h
  refine ⟨fun j hj => ?_, fun j hj => ?_, fun j hj => ?_, fun j hj => ?_, fun j hj => ?_, fun j hj => ?_, fun j hj => ?_, fun j hj => ?_, ?_, ?_, ?_⟩
  · exact g0 j hj
  · rw [zUp_at, zUp_at]
    split
    · rfl
    · exact g1 j hj
  · exact g2 j hj
  · exact g3 j hj
  · exact g4 j hj
  · exact g5 j hj
  · exact g6 j hj
  · exact g7 j hj
  · exact g8
  · exact g9
  · exact ga
theorem GM_sl5 {I : zI} {s : zA} {v : Nat} (h : GM I s) : GM (zUp I 73 5 (zN v)) (zUp s 5 0 v) := by
  obtain ⟨g0, g1, g2, g3, g4, g5, g6, g7, g8, g9, ga⟩ := h
  refine ⟨fun j hj => ?_, fun j hj => ?_, fun j hj => ?_, fun j hj => ?_, fun j hj => ?_, fun j hj => ?_, fun j hj => ?_, fun j hj => ?_, ?_, ?_, ?_⟩
  · exact g0 j hj
  · exact g1 j hj
  · exact g2 j hj
  · exact g3 j hj
  · exact g4 j hj
  · exact g5 j hj
  · exact g6 j hj
  · exact g7 j hj
  · rw [zUp_eq, zUp_eq]
  · rw [zUp_nj (by decide), zUp_nj (by decide)]
    exact g9
  · rw [zUp_nj (by decide), zUp_nj (by decide)]
    exact ga
theorem GM_sl6 {I : zI} {s : zA} {v : Nat} (h : GM I s) : GM (zUp I 73 6 (zN v)) (zUp s 5 1 v) := by
  obtain ⟨g0, g1, g2, g3, g4, g5, g6, g7, g8, g9, ga⟩ := h
  refine ⟨fun j hj => ?_, fun j hj => ?_, fun j hj => ?_, fun j hj => ?_, fun j hj => ?_, fun j hj => ?_, fun j hj => ?_, fun j hj => ?_, ?_, ?_, ?_⟩
  · exact g0 j hj
  · exact g1 j hj
  · exact g2 j hj
  · exact g3 j hj
  · exact g4 j hj
  · exact g5 j hj
  · exact g6 j hj
  · exact g7 j hj
  · rw [zUp_nj (by decide), zUp_nj (by decide)]
    exact g8
  · rw [zUp_eq, zUp_eq]
  · rw [zUp_nj (by decide), zUp_nj (by decide)]
    exact ga
theorem GM_sl10 {I : zI} {s : zA} {v : Nat} (h : GM I s) : GM (zUp I 73 10 (zN v)) (zUp s 5 2 v) := by
  obtain ⟨g0, g1, g2, g3, g4, g5, g6, g7, g8, g9, ga⟩ := h
  refine ⟨fun j hj => ?_, fun j hj => ?_, fun j hj => ?_, fun j hj => ?_, fun j hj => ?_, fun j hj => ?_, fun j hj => ?_, fun j hj => ?_, ?_, ?_, ?_⟩
  · exact g0 j hj
  · exact g1 j hj
  · exact g2 j hj
  · exact g3 j hj
  · exact g4 j hj
  · exact g5 j hj
  · exact g6 j hj
  · exact g7 j hj
  · rw [zUp_nj (by decide), zUp_nj (by decide)]
    exact g8
  · rw [zUp_nj (by decide), zUp_nj (by decide)]
    exact g9
  · rw [zUp_eq, zUp_eq]
