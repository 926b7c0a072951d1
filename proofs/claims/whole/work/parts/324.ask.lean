/-! whom to ask next -/
def zHb (t k two : Nat) : Bool := zHo (two / 10) (two % 10) t == k
def zHc (l : List Nat) (t k : Nat) : Nat := l.countP (zHb t k)
theorem zHc_app (l m : List Nat) (t k : Nat) : zHc (l ++ m) t k = zHc l t k + zHc m t k := List.countP_append
theorem zHc_le (l : List Nat) (t k : Nat) : zHc l t k ≤ l.length := List.countP_le_length
theorem zHc_one (x t k : Nat) : zHc [x] t k = if zHo (x / 10) (x % 10) t = k then 1 else 0 := by
  unfold zHc zHb
  rw [List.countP_singleton]
  by_cases h : zHo (x / 10) (x % 10) t = k
  · rw [if_pos h, if_pos (beq_iff_eq.mpr h)]
  · rw [if_neg h, if_neg (fun z => h (beq_iff_eq.mp z))]
/-- what fits is a code -/
theorem zFs_mem {s : zA} {t x : Nat} (h : x ∈ zFs s t) : 20 ≤ x ∧ x < 20 + t ∧ x % 10 < x / 10 := by
  unfold zFs at h
  rw [List.mem_filter, List.mem_map] at h
  obtain ⟨⟨i, h1, h2⟩, h3⟩ := h
  rw [List.mem_range] at h1
  unfold zFt at h3
  rw [Bool.and_eq_true, decide_eq_true_eq] at h3
  exact ⟨by omega, by omega, h3.1⟩
theorem zfill69 {v : Int32} : ∀ (j k n : Nat) (I : zI), k + j = 8 → j < n → (∀ m, m < k → I 69 m = v) → ∃ I', Ar_fill_69_L5 n v (zN k) 8 I = some I' ∧ (∀ b, b ≠ 69 → I' b = I b) ∧ ∀ m, m < 8 → I' 69 m = v := by
  intro j
  induction j with
  | zero =>
    intro k n I hk hn h1
    obtain ⟨n, rfl⟩ : ∃ e, n = e + 1 := ⟨n - 1, by omega⟩
    rw [Ar_fill_69_L5, zl_8, if_pos ((zN_le (by decide) (by omega)).mpr (by omega))]
    exact ⟨I, rfl, fun b _ => rfl, fun m hm => h1 m (by omega)⟩
  | succ j ih =>
    intro k n I hk hn h1
    obtain ⟨n, rfl⟩ : ∃ e, n = e + 1 := ⟨n - 1, by omega⟩
    rw [Ar_fill_69_L5, if_neg (by rw [zl_8, zN_le (by decide) (by omega)]; omega), if_pos ((zN_in (by omega)).mpr (by omega)), zN_tn (by omega), zl_1, zN_add]
    obtain ⟨I', e1, e2, e3⟩ := ih (k + 1) n (zUp I 69 k v) (by omega) (by omega) (fun m hm => by
      rw [zUp_at]
      by_cases q : m = k
      · rw [if_pos q]
      · rw [if_neg q]
        exact h1 m (by omega))
    exact ⟨I', e1, fun b b1 => by rw [e2 b b1, zUp_ne b1], e3⟩
theorem zchL {l : List Nat} (hl : l.length ≤ 35) (hm : ∀ x ∈ l, 20 ≤ x ∧ x < 90 ∧ x % 10 < x / 10) {t : Nat} (ht : t < 100) : ∀ (r : List Nat) (d : List Nat) (q : Nat) (I : zI), d ++ r = l → r.length < q → zCd I l → (∀ k, k < 8 → I 69 k = zN (zHc d t k)) → ∃ I', Su_countHolders_L10 q (zN t) (zN d.length) I = some I' ∧ (∀ b, b ≠ 69 → I' b = I b) ∧ ∀ k, k < 8 → I' 69 k = zN (zHc l t k) := by
  intro r
  induction r with
  | nil =>
    intro d q I hd hq hc h1
    obtain ⟨q, rfl⟩ : ∃ e, q = e + 1 := ⟨q - 1, by omega⟩
    rw [List.append_nil] at hd
    subst hd
    rw [Su_countHolders_L10, hc.1, if_pos (Int32.le_refl _)]
    exact ⟨I, rfl, fun _ _ => rfl, h1⟩
  | cons x r ih =>
    intro d q I hd hq hc h1
    obtain ⟨q, rfl⟩ : ∃ e, q = e + 1 := ⟨q - 1, by omega⟩
    rw [List.length_cons] at hq
    have hlen : d.length + (r.length + 1) = l.length := by
      rw [← hd, List.length_append, List.length_cons]
    obtain ⟨m1, m2, m3⟩ := hm x (by rw [← hd]; simp)
    have hx : I 67 d.length = zN x := by
      rw [hc.2 d.length (by omega), ← hd]
      simp
    have hho := zHo_lt (t := t) (show x / 10 < 9 by omega) (show 2 ≤ x / 10 by omega) m3
    have happ : ∀ k, zHc (d ++ [x]) t k = zHc d t k + if zHo (x / 10) (x % 10) t = k then 1 else 0 := fun k => by rw [zHc_app, zHc_one]
    have hlen2 : (d ++ [x]).length = d.length + 1 := by
      rw [List.length_append]
      rfl
    rw [Su_countHolders_L10, hc.1, if_neg (by rw [zN_le (by omega) (by omega)]; omega), zat_66 I (by omega), Option.bind_some, Option.bind_some, hx, zl_10, zN_div (by omega) (by decide), zN_rem (by omega) (by decide), zchold (by omega) (by omega) m3 ht, Option.bind_some]
    have step : ∃ I1, ((Rw_at_68 (zE (zHo (x / 10) (x % 10) t)) I).bind fun y => (Rw_put_68 (zE (zHo (x / 10) (x % 10) t)) (y + 1) I).bind fun J => Su_countHolders_L10 q (zN t) (zN d.length + 1) J) = Su_countHolders_L10 q (zN t) (zN (d ++ [x]).length) I1 ∧ (∀ b, b ≠ 69 → I1 b = I b) ∧ ∀ k, k < 8 → I1 69 k = zN (zHc (d ++ [x]) t k) := by
      rw [hlen2, zl_1, zN_add]
      rcases hho with hho | hho
      · rw [zE_lt (by omega), zat_68 I hho, Option.bind_some, zput_68 _ I hho, Option.bind_some, h1 _ hho, zN_add]
        refine ⟨_, rfl, fun b b1 => zUp_ne b1, fun k hk => ?_⟩
        rw [zUp_at, happ]
        by_cases z : k = zHo (x / 10) (x % 10) t
        · rw [if_pos z, if_pos z.symm, z]
        · rw [if_neg z, if_neg (fun y => z y.symm), h1 k hk, Nat.add_zero]
      · rw [hho, zE_ge (by decide), zatn_68, Option.bind_some, zputn_68, Option.bind_some]
        refine ⟨I, rfl, fun b b1 => rfl, fun k hk => ?_⟩
        rw [happ, if_neg (by omega), h1 k hk, Nat.add_zero]
    obtain ⟨I1, s1, s2, s3⟩ := step
    rw [s1]
    obtain ⟨I', e1, e2, e3⟩ := ih (d ++ [x]) q I1 (by rw [← hd]; simp) (by omega) ⟨by rw [s2 65 (by decide)]; exact hc.1, fun i hi => by rw [s2 67 (by decide)]; exact hc.2 i hi⟩ s3
    exact ⟨I', e1, fun b b1 => (e2 b b1).trans (s2 b b1), e3⟩
theorem zcch {I : zI} {l : List Nat} (hl : l.length ≤ 35) (hm : ∀ x ∈ l, 20 ≤ x ∧ x < 90 ∧ x % 10 < x / 10) {t q : Nat} (ht : t < 100) (hq : 100 < q) (hc : zCd I l) : ∃ I', Su_countHolders q (zN t) I = some I' ∧ (∀ b, b ≠ 69 → I' b = I b) ∧ ∀ k, k < 8 → I' 69 k = zN (zHc l t k) := by
  unfold Su_countHolders Rw_fillWith_68 Ar_fill_69
  obtain ⟨I1, a1, a2, a3⟩ := zfill69 (v := 0) 8 0 q I rfl (by omega) (fun m hm => absurd hm (Nat.not_lt_zero m))
  rw [show Ar_fill_69_L5 q 0 0 8 I = _ from a1, Option.bind_some, Option.bind_some, Option.bind_some]
  obtain ⟨I', e1, e2, e3⟩ := zchL hl hm ht l [] q I1 rfl (by omega) ⟨by rw [a2 65 (by decide)]; exact hc.1, fun i hi => by rw [a2 67 (by decide)]; exact hc.2 i hi⟩ (fun k hk => by rw [a3 k hk]; rfl)
  rw [show Su_countHolders_L10 q (zN t) 0 I1 = _ from e1, Option.bind_some]
  exact ⟨I', rfl, fun b b1 => (e2 b b1).trans (a2 b b1), e3⟩
theorem zmcb2 {w : Int32} : ∀ (j k n : Nat) (I : zI), k + j = 8 → j < n → (∀ m, m < k → I 91 m = zN 0) → ∃ I', Mo_countBy_L2 n w (zN k) I = some I' ∧ (∀ b, b ≠ 91 → I' b = I b) ∧ ∀ m, m < 8 → I' 91 m = zN 0 := by
  intro j
  induction j with
  | zero =>
    intro k n I hk hn h1
    obtain ⟨n, rfl⟩ : ∃ e, n = e + 1 := ⟨n - 1, by omega⟩
    rw [Mo_countBy_L2, zl_8, if_pos ((zN_le (by decide) (by omega)).mpr (by omega))]
    exact ⟨I, rfl, fun b _ => rfl, fun m hm => h1 m (by omega)⟩
  | succ j ih =>
    intro k n I hk hn h1
    obtain ⟨n, rfl⟩ : ∃ e, n = e + 1 := ⟨n - 1, by omega⟩
    rw [Mo_countBy_L2, if_neg (by rw [zl_8, zN_le (by decide) (by omega)]; omega), if_pos ((zN_in (by omega)).mpr (by omega)), zN_tn (by omega), zl_1, zN_add]
    obtain ⟨I', e1, e2, e3⟩ := ih (k + 1) n (zUp I 91 k 0) (by omega) (by omega) (fun m hm => by
      rw [zUp_at]
      by_cases q : m = k
      · rw [if_pos q]
        rfl
      · rw [if_neg q]
        exact h1 m (by omega))
    exact ⟨I', e1, fun b b1 => by rw [e2 b b1, zUp_ne b1], e3⟩
theorem zmcbL {s : zA} (v : VS s) {t : Nat} (ht : t < 61) : ∀ (j u q : Nat) (I : zI), u + j = 70 → j + 600 < q → GM I s → (∀ k, k < 8 → I 91 k = zN (zHc (zFs s u) t k)) → ∃ I', Mo_countBy_L24 q (zN t) (zN (20 + u)) I = some I' ∧ (∀ b, b ≠ 91 → I' b = I b) ∧ ∀ k, k < 8 → I' 91 k = zN (zHc (zFs s 70) t k) := by
  intro j
  induction j with
  | zero =>
    intro u q I hu hq hg h1
    obtain ⟨q, rfl⟩ : ∃ e, q = e + 1 := ⟨q - 1, by omega⟩
    have : u = 70 := by omega
    subst this
    rw [Mo_countBy_L24, if_pos (by decide)]
    exact ⟨I, rfl, fun _ _ => rfl, h1⟩
  | succ j ih =>
    intro u q I hu hq hg h1
    obtain ⟨q, rfl⟩ : ∃ e, q = e + 1 := ⟨q - 1, by omega⟩
    have hfs := zFs_s s u
    rw [Mo_countBy_L24, if_neg (by rw [zl_90, zN_le (by decide) (by omega)]; omega), zmfit hg v (by omega) (by omega) (by omega), Option.bind_some]
    cases hb : zFt s (20 + u)
    · rw [hb, if_neg (by decide), List.append_nil] at hfs
      rw [if_pos (by decide), Option.bind_some, if_pos (by decide), Option.bind_some, zl_1, zN_add, Nat.add_assoc]
      exact ih (u + 1) q I (by omega) (by omega) hg (by rw [hfs]; exact h1)
    · rw [hb, if_pos rfl] at hfs
      have h3 : (20 + u) % 10 < (20 + u) / 10 := by
        unfold zFt at hb
        rw [Bool.and_eq_true, decide_eq_true_eq] at hb
        exact hb.1
      have hho := zHo_lt (t := t) (show (20 + u) / 10 < 9 by omega) (show 2 ≤ (20 + u) / 10 by omega) h3
      have happ : ∀ k, zHc (zFs s (u + 1)) t k = zHc (zFs s u) t k + if zHo ((20 + u) / 10) ((20 + u) % 10) t = k then 1 else 0 := fun k => by rw [hfs, zHc_app, zHc_one]
      rw [if_neg (by decide), zmwho (by omega) (by omega) h3 ht (by omega), Option.bind_some, Option.bind_some]
      rcases hho with hho | hho
      · have ih8 := (zN_in (show zHo ((20 + u) / 10) ((20 + u) % 10) t < 2147483648 by omega) (n := 8)).mpr hho
        rw [zE_lt (by omega), if_neg (by rw [zl_0, zN_lt (by omega) (by decide)]; omega), if_pos ih8, if_pos ih8, zN_tn (by omega), Option.bind_some, h1 _ hho, zl_1, zN_add, zN_add, Nat.add_assoc]
        obtain ⟨I', e1, e2, e3⟩ := ih (u + 1) q (zUp I 91 (zHo ((20 + u) / 10) ((20 + u) % 10) t) (zN (zHc (zFs s u) t (zHo ((20 + u) / 10) ((20 + u) % 10) t) + 1))) (by omega) (by omega) (GM_fr hg (fun b b1 b2 => zUp_ne (by omega)) (by rw [zUp_ne (by decide)]) (by rw [zUp_ne (by decide)]) (by rw [zUp_ne (by decide)])) (fun k hk => by
          rw [zUp_at, happ]
          by_cases z : k = zHo ((20 + u) / 10) ((20 + u) % 10) t
          · rw [if_pos z, if_pos z.symm, z]
          · rw [if_neg z, if_neg (fun y => z y.symm), h1 k hk, Nat.add_zero])
        exact ⟨I', e1, fun b b1 => by rw [e2 b b1, zUp_ne b1], e3⟩
      · rw [hho, zE_ge (by decide), if_pos (by decide), Option.bind_some, zl_1, zN_add, Nat.add_assoc]
        exact ih (u + 1) q I (by omega) (by omega) hg (fun k hk => by rw [happ, if_neg (by omega), h1 k hk, Nat.add_zero])
theorem zmcb {I : zI} {s : zA} (h : GM I s) (v : VS s) {t q : Nat} (ht : t < 61) (hq : 1000 < q) : ∃ I', Mo_countBy q (zN t) I = some I' ∧ (∀ b, b ≠ 91 → I' b = I b) ∧ ∀ k, k < 8 → I' 91 k = zN (zHc (zFs s 70) t k) := by
  unfold Mo_countBy
  obtain ⟨I1, a1, a2, a3⟩ := zmcb2 (w := zN t) 8 0 q I rfl (by omega) (fun m hm => absurd hm (Nat.not_lt_zero m))
  have hg1 : GM I1 s := GM_fr h (fun b b1 b2 => a2 b (by omega)) (by rw [a2 73 (by decide)]) (by rw [a2 73 (by decide)]) (by rw [a2 73 (by decide)])
  obtain ⟨I', e1, e2, e3⟩ := zmcbL v ht 70 0 q I1 rfl (by omega) hg1 (fun k hk => by rw [a3 k hk]; rfl)
  rw [show Mo_countBy_L2 q (zN t) 0 I = _ from a1, Option.bind_some, show Mo_countBy_L24 q (zN t) 20 I1 = _ from e1, Option.bind_some]
  exact ⟨I', rfl, fun b b1 => (e2 b b1).trans (a2 b b1), e3⟩
/-- the fewest left at the most, so far: (whom, how many) -/
def zQl (c h : Nat) : Nat := if h < c - h then c - h else h
def zQ1 (c : Nat) (h : Nat → Nat) (t : Nat) : Nat → Nat → Int32 × Nat → Int32 × Nat
  | 0, _, st => st
  | j + 1, k, st => zQ1 c h t j (k + 1) (if st.2 ≤ zQl c (h k) then st else (zN (10 * t + k), zQl c (h k)))
def zQ2 (c : Nat) (h : Nat → Nat → Nat) : Nat → Nat → Int32 × Nat → Int32 × Nat
  | 0, _, st => st
  | j + 1, t, st => zQ2 c h j (t + 1) (zQ1 c (h t) t 8 0 st)
theorem zQl_le {c h : Nat} (hh : h ≤ c) : zQl c h ≤ c := by
  unfold zQl
  split <;> omega
theorem zQ1_le {c : Nat} {h : Nat → Nat} (hh : ∀ k, h k ≤ c) (t : Nat) : ∀ j k st, (zQ1 c h t j k st).2 ≤ st.2 := by
  intro j
  induction j with
  | zero => exact fun _ _ => Nat.le_refl _
  | succ j ih =>
    intro k st
    unfold zQ1
    have := ih (k + 1) (if st.2 ≤ zQl c (h k) then st else (zN (10 * t + k), zQl c (h k)))
    by_cases q : st.2 ≤ zQl c (h k)
    · rw [if_pos q] at this ⊢
      exact this
    · rw [if_neg q] at this ⊢
      exact Nat.le_trans this (by omega)
theorem zcq1 {c : Nat} {h : Nat → Nat} (hc : c ≤ 35) (hh : ∀ k, h k ≤ c) {t : Nat} (ht : t < 100) : ∀ (j k q : Nat) (I : zI) (st : Int32 × Nat), k + j = 8 → j < q → st.2 ≤ 100 → I 65 2 = zN c → (∀ k, k < 8 → I 69 k = zN (h k)) → I 65 3 = st.1 → I 65 4 = zN st.2 → ∃ I', Su_chooseQuestion_L27 q (zN t) (zN k) I = some I' ∧ (∀ b, b ≠ 65 → I' b = I b) ∧ I' 65 2 = zN c ∧ I' 65 3 = (zQ1 c h t j k st).1 ∧ I' 65 4 = zN (zQ1 c h t j k st).2 := by
  intro j
  induction j with
  | zero =>
    intro k q I st hk hq hs h1 h2 h3 h4
    obtain ⟨q, rfl⟩ : ∃ e, q = e + 1 := ⟨q - 1, by omega⟩
    rw [Su_chooseQuestion_L27, zl_8, if_pos ((zN_le (by decide) (by omega)).mpr (by omega))]
    exact ⟨I, rfl, fun _ _ => rfl, h1, h3, h4⟩
  | succ j ih =>
    intro k q I st hk hq hs h1 h2 h3 h4
    obtain ⟨q, rfl⟩ : ∃ e, q = e + 1 := ⟨q - 1, by omega⟩
    have hk8 := h2 k (by omega)
    have hhk := hh k
    have hql := zQl_le hhk
    have emax : (if zN (h k) < (zN c - zN (h k)) then (zN c - zN (h k)) else zN (h k)) = zN (zQl c (h k)) := by
      rw [zN_sub hhk]
      unfold zQl
      by_cases z : h k < c - h k
      · rw [if_pos ((zN_lt (by omega) (by omega)).mpr z), if_pos z]
      · rw [if_neg (by rw [zN_lt (by omega) (by omega)]; exact z), if_neg z]
    rw [Su_chooseQuestion_L27, if_neg (by rw [zl_8, zN_le (by decide) (by omega)]; omega), zat_68 I (by omega), Option.bind_some, Option.bind_some, hk8, h1, emax, h4, zl_10, zN_mul, zN_add]
    unfold zQ1
    by_cases z : st.2 ≤ zQl c (h k)
    · rw [if_pos ((zN_le (by omega) (by omega)).mpr z), if_pos z, Option.bind_some, zl_1, zN_add]
      exact ih (k + 1) q I st (by omega) (by omega) hs h1 h2 h3 h4
    · rw [if_neg (by rw [zN_le (by omega) (by omega)]; exact z), if_neg z, Option.bind_some, zl_1, zN_add]
      obtain ⟨I', e1, e2, e3, e4, e5⟩ := ih (k + 1) q (zUp (zUp I 65 4 (zN (zQl c (h k)))) 65 3 (zN (10 * t + k))) (zN (10 * t + k), zQl c (h k)) (by omega) (by omega) (by show zQl c (h k) ≤ 100; omega) (by rw [zUp_nj (by decide), zUp_nj (by decide)]; exact h1) (fun i hi => by rw [zUp_ne (by decide), zUp_ne (by decide)]; exact h2 i hi) (by rw [zUp_eq]) (by rw [zUp_nj (by decide), zUp_eq])
      exact ⟨I', e1, fun b b1 => by rw [e2 b b1, zUp_ne b1, zUp_ne b1], e3, e4, e5⟩
theorem zmq1 {I : zI} {w : Int32} {c : Nat} {h : Nat → Nat} (hc : c ≤ 35) (hh : ∀ k, h k ≤ c) {t : Nat} (ht : t < 100) (h2 : ∀ k, k < 8 → I 91 k = zN (h k)) : ∀ (j k q : Nat) (st : Int32 × Nat), k + j = 8 → j < q → st.2 ≤ 100 → Mo_ask_L50 q w (zN c) st.1 (zN st.2) (zN t) (zN k) I = some ((zQ1 c h t j k st).1, zN (zQ1 c h t j k st).2) := by
  intro j
  induction j with
  | zero =>
    intro k q st hk hq hs
    obtain ⟨q, rfl⟩ : ∃ e, q = e + 1 := ⟨q - 1, by omega⟩
    rw [Mo_ask_L50, zl_8, if_pos ((zN_le (by decide) (by omega)).mpr (by omega))]
    rfl
  | succ j ih =>
    intro k q st hk hq hs
    obtain ⟨q, rfl⟩ : ∃ e, q = e + 1 := ⟨q - 1, by omega⟩
    have hk8 := h2 k (by omega)
    have hhk := hh k
    have hql := zQl_le hhk
    have i8 := (zN_in (show k < 2147483648 by omega) (n := 8)).mpr (by omega)
    rw [Mo_ask_L50, if_neg (by rw [zl_8, zN_le (by decide) (by omega)]; omega), if_pos i8, if_pos i8]
    simp only [zN_tn (show k < 2147483648 by omega), hk8]
    have emax : (if zN (h k) ≤ zN c - zN (h k) then (if zIn (zN k) 8 then some (zN c - zN (h k)) else none) else (if zIn (zN k) 8 then some (zN (h k)) else none)) = some (zN (zQl c (h k))) := by
      rw [if_pos i8, if_pos i8, zN_sub hhk]
      unfold zQl
      by_cases z : h k < c - h k
      · rw [if_pos ((zN_le (by omega) (by omega)).mpr (by omega)), if_pos z]
      · rw [if_neg z]
        by_cases z2 : h k ≤ c - h k
        · rw [if_pos ((zN_le (by omega) (by omega)).mpr z2), show c - h k = h k by omega]
        · rw [if_neg (by rw [zN_le (by omega) (by omega)]; exact z2)]
    rw [emax, Option.bind_some, zl_10, zN_mul, zN_add, zl_1, zN_add]
    unfold zQ1
    by_cases z : st.2 ≤ zQl c (h k)
    · rw [if_pos ((zN_le (by omega) (by omega)).mpr z), if_pos ((zN_le (by omega) (by omega)).mpr z), if_pos z, Option.bind_some, Option.bind_some]
      exact ih (k + 1) q st (by omega) (by omega) hs
    · rw [if_neg (by rw [zN_le (by omega) (by omega)]; exact z), if_neg (by rw [zN_le (by omega) (by omega)]; exact z), if_neg z, Option.bind_some, Option.bind_some]
      exact ih (k + 1) q (zN (10 * t + k), zQl c (h k)) (by omega) (by omega) (by show zQl c (h k) ≤ 100; omega)
theorem zcq2 {l : List Nat} (hl : l.length ≤ 35) (hm : ∀ x ∈ l, 20 ≤ x ∧ x < 90 ∧ x % 10 < x / 10) : ∀ (j t q : Nat) (I : zI) (st : Int32 × Nat), t + j = 61 → j + 200 < q → st.2 ≤ 100 → zCd I l → I 65 3 = st.1 → I 65 4 = zN st.2 → ∃ I', Su_chooseQuestion_L14 q (zN t) I = some I' ∧ (∀ b, b ≠ 65 → b ≠ 69 → I' b = I b) ∧ I' 65 3 = (zQ2 l.length (zHc l) j t st).1 ∧ I' 65 4 = zN (zQ2 l.length (zHc l) j t st).2 := by
  intro j
  induction j with
  | zero =>
    intro t q I st ht hq hs hc h3 h4
    obtain ⟨q, rfl⟩ : ∃ e, q = e + 1 := ⟨q - 1, by omega⟩
    rw [Su_chooseQuestion_L14, zl_60, if_pos ((zN_lt (by decide) (by omega)).mpr (by omega))]
    exact ⟨I, rfl, fun _ _ _ => rfl, h3, h4⟩
  | succ j ih =>
    intro t q I st ht hq hs hc h3 h4
    obtain ⟨q, rfl⟩ : ∃ e, q = e + 1 := ⟨q - 1, by omega⟩
    obtain ⟨I1, a1, a2, a3⟩ := zcch hl hm (show t < 100 by omega) (show 100 < q by omega) hc
    obtain ⟨I2, b1, b2, b3, b4, b5⟩ := zcq1 hl (fun k => zHc_le l t k) (show t < 100 by omega) 8 0 q I1 st rfl (by omega) hs (by rw [a2 65 (by decide)]; exact hc.1) a3 (by rw [a2 65 (by decide)]; exact h3) (by rw [a2 65 (by decide)]; exact h4)
    have hle := zQ1_le (fun k => zHc_le l t k) t 8 0 st
    rw [Su_chooseQuestion_L14, if_neg (by rw [zl_60, zN_lt (by decide) (by omega)]; omega), a1, Option.bind_some, show Su_chooseQuestion_L27 q (zN t) 0 I1 = _ from b1, Option.bind_some, zl_1, zN_add]
    obtain ⟨I', e1, e2, e3, e4⟩ := ih (t + 1) q I2 (zQ1 l.length (zHc l t) t 8 0 st) (by omega) (by omega) (Nat.le_trans hle hs) ⟨b3, fun i hi => by rw [b2 67 (by decide), a2 67 (by decide)]; exact hc.2 i hi⟩ b4 b5
    exact ⟨I', e1, fun b c1 c2 => by rw [e2 b c1 c2, b2 b c1, a2 b c2], e3, e4⟩
theorem zmq2 {s : zA} (v : VS s) {w : Int32} (h0 : 0 < (zFs s 70).length) : ∀ (j t q : Nat) (I : zI) (st : Int32 × Nat), t + j = 61 → j + 2000 < q → st.2 ≤ 100 → GM I s → ∃ I', Mo_ask_L30 q w (zN (zFs s 70).length) st.1 (zN st.2) (zN t) I = some ((zQ2 (zFs s 70).length (zHc (zFs s 70)) j t st).1, zN (zQ2 (zFs s 70).length (zHc (zFs s 70)) j t st).2, I') ∧ (∀ b, b ≠ 91 → I' b = I b) := by
  have hl := zFs_len s 70
  rw [zVc_70] at hl
  intro j
  induction j with
  | zero =>
    intro t q I st ht hq hs hg
    obtain ⟨q, rfl⟩ : ∃ e, q = e + 1 := ⟨q - 1, by omega⟩
    rw [Mo_ask_L30, zl_60, if_pos ((zN_lt (by decide) (by omega)).mpr (by omega))]
    exact ⟨I, rfl, fun _ _ => rfl⟩
  | succ j ih =>
    intro t q I st ht hq hs hg
    obtain ⟨q, rfl⟩ : ∃ e, q = e + 1 := ⟨q - 1, by omega⟩
    obtain ⟨I1, a1, a2, a3⟩ := zmcb hg v (show t < 61 by omega) (show 1000 < q by omega)
    have b1 := zmq1 (I := I1) (w := w) hl (fun k => zHc_le (zFs s 70) t k) (show t < 100 by omega) a3 8 0 q st rfl (by omega) hs
    have hle := zQ1_le (fun k => zHc_le (zFs s 70) t k) t 8 0 st
    have hg1 : GM I1 s := GM_fr hg (fun b c1 c2 => a2 b (by omega)) (by rw [a2 73 (by decide)]) (by rw [a2 73 (by decide)]) (by rw [a2 73 (by decide)])
    rw [Mo_ask_L30, if_neg (by rw [zl_60, zN_lt (by decide) (by omega)]; omega), if_neg (by rw [zl_0, zN_le (by omega) (by decide)]; omega), a1, Option.bind_some, show Mo_ask_L50 q w (zN (zFs s 70).length) st.1 (zN st.2) (zN t) 0 I1 = _ from b1, Option.bind_some, zl_1, zN_add]
    obtain ⟨I', e1, e2⟩ := ih (t + 1) q I1 (zQ1 (zFs s 70).length (zHc (zFs s 70) t) t 8 0 st) (by omega) (by omega) (Nat.le_trans hle hs) hg1
    exact ⟨I', e1, fun b c1 => (e2 b c1).trans (a2 b c1)⟩
/-- both begin alike -/
theorem zQ_begin {c : Nat} {h : Nat → Nat → Nat} (hh : ∀ t k, h t k ≤ c) (hc : c ≤ 35) (x : Int32) : zQ2 c h 61 0 (x, 36) = zQ2 c h 61 0 (x, c + 1) := by
  have h0 := zQl_le (hh 0 0)
  have e : zQ1 c (h 0) 0 8 0 (x, 36) = zQ1 c (h 0) 0 8 0 (x, c + 1) := by
    show zQ1 c (h 0) 0 7 1 (if (36 : Nat) ≤ zQl c (h 0 0) then (x, 36) else (zN (10 * 0 + 0), zQl c (h 0 0))) = zQ1 c (h 0) 0 7 1 (if c + 1 ≤ zQl c (h 0 0) then (x, c + 1) else (zN (10 * 0 + 0), zQl c (h 0 0)))
    rw [if_neg (by omega), if_neg (by omega)]
  show zQ2 c h 60 1 (zQ1 c (h 0) 0 8 0 (x, 36)) = zQ2 c h 60 1 (zQ1 c (h 0) 0 8 0 (x, c + 1))
  rw [e]
/-- what is asked is a place and a one -/
theorem zQ1_q {c : Nat} {h : Nat → Nat} {t : Nat} : ∀ j k st, (∃ i, i < 2000 ∧ st.1 = zN i) → t < 100 → k + j ≤ 8 → ∃ i, i < 2000 ∧ (zQ1 c h t j k st).1 = zN i := by
  intro j
  induction j with
  | zero => exact fun _ _ hs _ _ => hs
  | succ j ih =>
    intro k st hs ht hk
    unfold zQ1
    refine ih (k + 1) _ ?_ ht (by omega)
    split
    · exact hs
    · exact ⟨10 * t + k, by omega, rfl⟩
theorem zQ2_q {c : Nat} {h : Nat → Nat → Nat} : ∀ j t st, (∃ i, i < 2000 ∧ st.1 = zN i) → t + j ≤ 100 → ∃ i, i < 2000 ∧ (zQ2 c h j t st).1 = zN i := by
  intro j
  induction j with
  | zero => exact fun _ _ hs _ => hs
  | succ j ih =>
    intro t st hs ht
    exact ih (t + 1) _ (zQ1_q 8 0 st hs (by omega) (by omega)) (by omega)
theorem zQ_end {c : Nat} {h : Nat → Nat → Nat} (hh : ∀ t k, h t k ≤ c) (hc : c ≤ 35) (x : Int32) : ∃ i, i < 2000 ∧ (zQ2 c h 61 0 (x, 36)).1 = zN i := by
  have h0 := zQl_le (hh 0 0)
  show ∃ i, i < 2000 ∧ (zQ2 c h 60 1 (zQ1 c (h 0) 0 7 1 (if (36 : Nat) ≤ zQl c (h 0 0) then (x, 36) else (zN (10 * 0 + 0), zQl c (h 0 0))))).1 = zN i
  rw [if_neg (by omega)]
  exact zQ2_q 60 1 _ (zQ1_q 7 1 _ ⟨0, by omega, rfl⟩ (by omega) (by omega)) (by omega)
theorem c_ask {I : zI} (h : Rel I) {n : Nat} (hn : 5000 < n) (a0 : Int32) : CO (BM_ask n a0 I) (Mo_ask n a0) := by
  rcases zW_c 0 1 a0 (by decide) (by decide) with ⟨w, -, hw, rfl, ea⟩ | ⟨ea, -⟩
  · obtain ⟨⟨s, hc, hm, v⟩, hr⟩ := id h
    obtain ⟨I1, e1, e2, e3⟩ := zsift hc v (q := n) (by omega)
    have hl := zFs_len s 70
    rw [zVc_70] at hl
    have hmem : ∀ x ∈ zFs s 70, 20 ≤ x ∧ x < 90 ∧ x % 10 < x / 10 := fun x hx => by
      have := zFs_mem hx
      omega
    by_cases q0 : (zFs s 70).length = 0
    · have hcf : CF I I1 := fun b hb => e3 b (by omega) (by omega)
      have hm1 : GM I1 s := GM_fr hm (fun b c1 c2 => hcf b (by omega)) (by rw [hcf 73 (by decide)]) (by rw [hcf 73 (by decide)]) (by rw [hcf 73 (by decide)])
      have hf := zmfits hm1 v (x := -1) 70 0 n rfl (by omega) (fun i hi => absurd hi (Nat.not_lt_zero i))
      rw [if_pos rfl, q0] at hf
      refine ⟨-6, I1, I1, ?_, ?_, ⟨⟨s, GC_fr hc (fun b b1 b2 => hcf b (by omega)), hm1, v⟩, RS_kr hr (KR_cf hcf)⟩⟩
      · unfold BM_ask
        rw [zbi_0_1, ea, Option.bind_some, if_neg (by decide), e1, Option.bind_some, e2.1, q0, if_pos (by decide)]
      · unfold Mo_ask Mo_fits
        rw [zmi_0_1, ea, Option.bind_some, if_neg (by decide), show Mo_fits_L5 n (-1) 0 20 I1 = _ from hf, Option.bind_some]
        obtain ⟨n, rfl⟩ : ∃ e, n = e + 1 := ⟨n - 1, by omega⟩
        rw [Mo_ask_L30, if_neg (by decide), if_pos (by decide), Option.bind_some]
        exact if_pos (by decide)
    · obtain ⟨I2, b1, b2, b3, b4⟩ := zcq2 hl hmem 61 0 n (zUp (zUp I1 65 3 (-6)) 65 4 36) (-6, 36) rfl (by omega) (by decide) ⟨by rw [zUp_nj (by decide), zUp_nj (by decide)]; exact e2.1, fun i hi => by rw [zUp_ne (by decide), zUp_ne (by decide)]; exact e2.2 i hi⟩ (by rw [zUp_nj (by decide), zUp_eq]) (by rw [zUp_eq]; rfl)
      have hcf : CF I I2 := fun b hb => by rw [b2 b (by omega) (by omega), zUp_ne (by omega), zUp_ne (by omega), e3 b (by omega) (by omega)]
      have hm2 : GM I2 s := GM_fr hm (fun b c1 c2 => hcf b (by omega)) (by rw [hcf 73 (by decide)]) (by rw [hcf 73 (by decide)]) (by rw [hcf 73 (by decide)])
      have hf := zmfits hm2 v (x := -1) 70 0 n rfl (by omega) (fun i hi => absurd hi (Nat.not_lt_zero i))
      rw [if_pos rfl] at hf
      obtain ⟨J, d1, d2⟩ := zmq2 v (w := zN w) (by omega) 61 0 n I2 (-6, (zFs s 70).length + 1) rfl (by omega) (by show (zFs s 70).length + 1 ≤ 100; omega) hm2
      have hbeg := zQ_begin (fun t k => zHc_le (zFs s 70) t k) hl (-6)
      obtain ⟨i, i1, i2⟩ := zQ_end (fun t k => zHc_le (zFs s 70) t k) hl (-6)
      rw [← hbeg, i2] at d1
      rw [i2] at b3
      have hrf : RF I2 J := ⟨fun b hb => d2 b (by omega), d2 82 (by decide), d2 94 (by decide), d2 95 (by decide), by rw [d2 73 (by decide)]⟩
      have hmJ : GM J s := GM_fr hm2 (fun b c1 c2 => d2 b (by omega)) (by rw [d2 73 (by decide)]) (by rw [d2 73 (by decide)]) (by rw [d2 73 (by decide)])
      refine ⟨if w = 0 then zN i else zN (zQ2 (zFs s 70).length (zHc (zFs s 70)) 61 0 (-6, 36)).2, I2, J, ?_, ?_, Rel_back h hc v hcf hrf hmJ⟩
      · unfold BM_ask Su_chooseQuestion
        rw [zbi_0_1, ea, Option.bind_some, if_neg (by decide), e1, Option.bind_some, e2.1, if_neg (by rw [zl_0, zN_inj (by omega) (by decide)]; exact q0), show Su_chooseQuestion_L14 n 0 (zUp (zUp I1 65 3 (-6)) 65 4 36) = _ from b1, Option.bind_some, Option.bind_some, b3, b4]
        rcases (show w = 0 ∨ w = 1 by omega) with rfl | rfl <;> rfl
      · unfold Mo_ask Mo_fits
        rw [zmi_0_1, ea, Option.bind_some, if_neg (by decide), show Mo_fits_L5 n (-1) 0 20 I2 = _ from hf, Option.bind_some, zl_1, zN_add, show Mo_ask_L30 n (zN w) (zN (zFs s 70).length) (-6) (zN ((zFs s 70).length + 1)) 0 I2 = _ from d1, Option.bind_some]
        show (if zN i < 0 then some (zN i, J) else if zN w = 0 then some (zN i, J) else some (zN (zQ2 (zFs s 70).length (zHc (zFs s 70)) 61 0 (-6, 36)).2, J)) = _
        rw [if_neg (by rw [zl_0, zN_lt (by omega) (by decide)]; omega)]
        rcases (show w = 0 ∨ w = 1 by omega) with rfl | rfl <;> rfl
  · refine CO_bad h (r := -2) ?_ ?_
    · unfold BM_ask
      rw [zbi_0_1, ea, Option.bind_some, if_pos (by decide)]
    · unfold Mo_ask
      rw [zmi_0_1, ea, Option.bind_some, if_pos (by decide)]
