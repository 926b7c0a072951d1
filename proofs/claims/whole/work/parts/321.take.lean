/-! benches by turns -/
def zWt (j : Nat) : Nat := yGr.getD j 0
def zWb (n i : Nat) : Nat := zWt (i - 1) ^^^ zWt (n - i - 2)
theorem zWt_lt : ∀ j, j < 41 → zWt j < 8 := by decide +kernel
theorem zWb_lt {n i : Nat} (hn : n < 41) (hi : i < 41) : zWb n i < 8 := Nat.xor_lt_two_pow (n := 3) (zWt_lt _ (by omega)) (zWt_lt _ (by omega))
theorem zGr1 : ∀ r, r < 41 → ∀ e, e < zWt r → (List.range r).any (fun i => zWb r i == e) = true := by decide +kernel
theorem zGr2 : ∀ r, r < 41 → (List.range r).any (fun i => zWb r i == zWt r) = false := by decide +kernel
/-- the first bench by which he wins, of j more from i on -/
def zWn (n : Nat) : Nat → Nat → Nat
  | 0, _ => 100
  | j + 1, i => if zWb n i = 0 then i else zWn n j (i + 1)
theorem zWn_lt (n : Nat) : ∀ j i, zWn n j i < i + j ∨ zWn n j i = 100 := by
  intro j
  induction j with
  | zero => exact fun i => Or.inr rfl
  | succ j ih =>
    intro i
    unfold zWn
    split
    · left
      omega
    · have := ih (i + 1)
      omega
/-- what is one less, or 0 -/
theorem zle1 {i : Nat} (h : i < 1000) : (if 0 < (zN i - 1) then (zN i - 1) else 0) = zN (i - 1) := by
  rcases i with _ | i
  · rfl
  · rw [zl_1, zN_sub (by omega), zl_0]
    by_cases q : 0 < i + 1 - 1
    · rw [if_pos ((zN_lt (by decide) (by omega)).mpr q)]
    · rw [if_neg (by rw [zN_lt (by decide) (by omega)]; exact q), show i + 1 - 1 = 0 by omega]
theorem zle2 {n i : Nat} (h : i ≤ n) (hn : n < 1000) : (if 0 < ((zN n - zN i) - 2) then ((zN n - zN i) - 2) else 0) = zN (n - i - 2) := by
  rw [zN_sub h]
  by_cases q : 2 ≤ n - i
  · rw [zl_2, zN_sub q, zl_0]
    by_cases q2 : 0 < n - i - 2
    · rw [if_pos ((zN_lt (by decide) (by omega)).mpr q2)]
    · rw [if_neg (by rw [zN_lt (by decide) (by omega)]; exact q2), show n - i - 2 = 0 by omega]
  · rcases (show n - i = 0 ∨ n - i = 1 by omega) with e | e <;> rw [e] <;> rfl
theorem zcwb {I : zI} (h : TW I) {n i : Nat} (hn : n < 41) (hi : i < n) : Tu_worthBehind (zN n) (zN i) I = some (zN (zWb n i)) := by
  unfold Tu_worthBehind
  rw [zle1 (by omega), zle2 (by omega) (by omega), zat_71 I (by omega), Option.bind_some, zat_71 I (by omega), Option.bind_some, h _ (by omega), h _ (by omega), zN_xor]
  rfl
theorem zcwinL {I : zI} (h : TW I) {N : Nat} (hN : N < 41) : ∀ (j i n : Nat), i + j = N → j < n → Tu_winningBench_L2 n (zN N) (zN i) I = some (zE (zWn N j i)) := by
  intro j
  induction j with
  | zero =>
    intro i n hi hn
    obtain ⟨n, rfl⟩ : ∃ e, n = e + 1 := ⟨n - 1, by omega⟩
    rw [Tu_winningBench_L2, if_pos ((zN_le (by omega) (by omega)).mpr (by omega))]
    rfl
  | succ j ih =>
    intro i n hi hn
    obtain ⟨n, rfl⟩ : ∃ e, n = e + 1 := ⟨n - 1, by omega⟩
    have hl := zWb_lt hN (show i < 41 by omega)
    rw [Tu_winningBench_L2, if_neg (by rw [zN_le (by omega) (by omega)]; omega), zcwb h hN (by omega), Option.bind_some]
    unfold zWn
    by_cases q : zWb N i = 0
    · rw [if_pos (by rw [q]; rfl), if_pos q, zE_lt (by omega)]
    · rw [if_neg (by rw [zl_0, zN_inj (by omega) (by decide)]; exact q), if_neg q, zl_1, zN_add]
      exact ih (i + 1) n (by omega) (by omega)
/-- the reference's worths so far -/
def zMw (I : zI) (r : Nat) : Prop := ∀ i, i < r → I 92 i = zN (zWt i)
theorem zmrb {I : zI} {n i r : Nat} (h : zMw I r) (hr : n ≤ r) (h0 : 0 < r) (hn : n < 41) (hi : i < n) : Mo_rowsBy (zN n) (zN i) I = some (zN (zWb n i)) := by
  unfold Mo_rowsBy
  have e1 : (if zN i ≤ (1 : Int32) then some (0 : Int32) else some (zN i - 1)) = some (zN (i - 1)) := by
    rw [zl_1]
    by_cases q : i ≤ 1
    · rw [if_pos ((zN_le (by omega) (by decide)).mpr q), show i - 1 = 0 by omega]
      rfl
    · rw [if_neg (by rw [zN_le (by omega) (by decide)]; exact q), zN_sub (by omega)]
  have e2 : (if (zN n - zN i) ≤ (2 : Int32) then some (0 : Int32) else some ((zN n - zN i) - 2)) = some (zN (n - i - 2)) := by
    rw [zN_sub (by omega), zl_2]
    by_cases q : n - i ≤ 2
    · rw [if_pos ((zN_le (by omega) (by decide)).mpr q), show n - i - 2 = 0 by omega]
      rfl
    · rw [if_neg (by rw [zN_le (by omega) (by decide)]; exact q), zN_sub (by omega)]
  rw [e1, Option.bind_some, e2, Option.bind_some, if_pos ((zN_in (by omega)).mpr (by omega)), if_pos ((zN_in (by omega)).mpr (by omega)), zN_tn (by omega), zN_tn (by omega), h _ (by omega), h _ (by omega), zN_xor]
  rfl
theorem zmclr {v : Int32} : ∀ (j k n : Nat) (I : zI), k + j = 128 → j < n → (∀ e, e < k → I 93 e = zN 0) → ∃ I', Mo_worthOf_L2 n v (zN k) I = some I' ∧ (∀ b, b ≠ 93 → I' b = I b) ∧ ∀ e, e < 128 → I' 93 e = zN 0 := by
  intro j
  induction j with
  | zero =>
    intro k n I hk hn h1
    obtain ⟨n, rfl⟩ : ∃ e, n = e + 1 := ⟨n - 1, by omega⟩
    rw [Mo_worthOf_L2, zl_128, if_pos ((zN_le (by decide) (by omega)).mpr (by omega))]
    exact ⟨I, rfl, fun b _ => rfl, fun m hm => h1 m (by omega)⟩
  | succ j ih =>
    intro k n I hk hn h1
    obtain ⟨n, rfl⟩ : ∃ e, n = e + 1 := ⟨n - 1, by omega⟩
    rw [Mo_worthOf_L2, if_neg (by rw [zl_128, zN_le (by decide) (by omega)]; omega), if_pos ⟨(zN_in (by omega)).mpr (by omega), Or.inl rfl⟩, zN_tn (by omega), zl_1, zN_add]
    obtain ⟨I', e1, e2, e3⟩ := ih (k + 1) n (zUp I 93 k 0) (by omega) (by omega) (fun m hm => by
      rw [zUp_at]
      by_cases q : m = k
      · rw [if_pos q]
        rfl
      · rw [if_neg q]
        exact h1 m (by omega))
    exact ⟨I', e1, fun b b1 => by rw [e2 b b1, zUp_ne b1], e3⟩
theorem zmmark {N : Nat} (hN : N < 41) : ∀ (j k n : Nat) (I : zI), k + j = N → j < n → (0 < N → zMw I N) → (∀ e, e < 128 → I 93 e = zB ((List.range k).any (fun i => zWb N i == e))) → ∃ I', Mo_worthOf_L24 n (zN N) (zN k) I = some I' ∧ (∀ b, b ≠ 93 → I' b = I b) ∧ ∀ e, e < 128 → I' 93 e = zB ((List.range N).any (fun i => zWb N i == e)) := by
  intro j
  induction j with
  | zero =>
    intro k n I hk hn hw h1
    obtain ⟨n, rfl⟩ : ∃ e, n = e + 1 := ⟨n - 1, by omega⟩
    rw [Mo_worthOf_L24, if_pos ((zN_le (by omega) (by omega)).mpr (by omega))]
    refine ⟨I, rfl, fun b _ => rfl, fun m hm => ?_⟩
    rw [h1 m hm, show k = N by omega]
  | succ j ih =>
    intro k n I hk hn hw h1
    obtain ⟨n, rfl⟩ : ∃ e, n = e + 1 := ⟨n - 1, by omega⟩
    have hl := zWb_lt hN (show k < 41 by omega)
    rw [Mo_worthOf_L24, if_neg (by rw [zN_le (by omega) (by omega)]; omega), zmrb (hw (by omega)) (Nat.le_refl N) (by omega) hN (by omega), Option.bind_some, if_pos ⟨(zN_in (by omega)).mpr (by omega), Or.inr rfl⟩, zN_tn (by omega), zl_1, zN_add]
    obtain ⟨I', e1, e2, e3⟩ := ih (k + 1) n (zUp I 93 (zWb N k) (zN 1)) (by omega) (by omega) (fun h0 i hi => by rw [zUp_ne (by decide)]; exact hw h0 i hi) (fun e he => by
      rw [zUp_at, List.range_succ, List.any_append]
      by_cases q : e = zWb N k
      · rw [if_pos q, q]
        simp
        rfl
      · rw [if_neg q, h1 e he]
        have : (zWb N k == e) = false := by
          rw [beq_eq_false_iff_ne]
          exact fun z => q z.symm
        simp [this])
    exact ⟨I', e1, fun b b1 => by rw [e2 b b1, zUp_ne b1], e3⟩
theorem zmmex {I : zI} {N : Nat} (hN : N < 41) (h1 : ∀ e, e < 128 → I 93 e = zB ((List.range N).any (fun i => zWb N i == e))) : ∀ (j k n : Nat), k + j = zWt N → j < n → Mo_worthOf_L49 n (zN k) I = some (zN (zWt N)) := by
  have hw := zWt_lt N hN
  intro j
  induction j with
  | zero =>
    intro k n hk hn
    obtain ⟨n, rfl⟩ : ∃ e, n = e + 1 := ⟨n - 1, by omega⟩
    rw [Mo_worthOf_L49, if_pos ((zN_in (by omega)).mpr (by omega)), zN_tn (by omega), h1 k (by omega), show k = zWt N by omega, zGr2 N hN, if_pos (by decide)]
  | succ j ih =>
    intro k n hk hn
    obtain ⟨n, rfl⟩ : ∃ e, n = e + 1 := ⟨n - 1, by omega⟩
    rw [Mo_worthOf_L49, if_pos ((zN_in (by omega)).mpr (by omega)), zN_tn (by omega), h1 k (by omega), zGr1 N hN k (by omega), if_neg (by decide), zl_1, zN_add]
    exact ih (k + 1) n (by omega) (by omega)
theorem zmworth {I : zI} {N n : Nat} (hN : N < 41) (hw : 0 < N → zMw I N) (hn : 1000 < n) : ∃ I', Mo_worthOf n (zN N) I = some (zN (zWt N), I') ∧ (∀ b, b ≠ 93 → I' b = I b) := by
  unfold Mo_worthOf
  obtain ⟨I1, a1, a2, a3⟩ := zmclr (v := zN N) 128 0 n I rfl (by omega) (fun e he => absurd he (Nat.not_lt_zero e))
  obtain ⟨I2, b1, b2, b3⟩ := zmmark hN N 0 n I1 (by omega) (by omega) (fun h0 i hi => by rw [a2 92 (by decide)]; exact hw h0 i hi) (fun e he => by rw [a3 e he]; rfl)
  have hl := zWt_lt N hN
  rw [show Mo_worthOf_L2 n (zN N) 0 I = _ from a1, Option.bind_some, show Mo_worthOf_L24 n (zN N) 0 I1 = _ from b1, Option.bind_some, show Mo_worthOf_L49 n 0 I2 = _ from zmmex hN b3 (zWt N) 0 n (by omega) (by omega), Option.bind_some]
  exact ⟨I2, rfl, fun b h1 => by rw [b2 b h1, a2 b h1]⟩
theorem zmtkL {N : Nat} {w : Int32} (hN : N < 41) : ∀ (j k n : Nat) (I : zI), k + j = N + 1 → j + 2000 < n → zMw I k → ∃ I', Mo_take_L27 n (zN N) w (zN k) I = some I' ∧ (∀ b, b ≠ 92 → b ≠ 93 → I' b = I b) ∧ zMw I' (N + 1) := by
  intro j
  induction j with
  | zero =>
    intro k n I hk hn h1
    obtain ⟨n, rfl⟩ : ∃ e, n = e + 1 := ⟨n - 1, by omega⟩
    rw [Mo_take_L27, if_pos ((zN_lt (by omega) (by omega)).mpr (by omega))]
    refine ⟨I, rfl, fun b _ _ => rfl, ?_⟩
    rw [show N + 1 = k by omega]
    exact h1
  | succ j ih =>
    intro k n I hk hn h1
    obtain ⟨n, rfl⟩ : ∃ e, n = e + 1 := ⟨n - 1, by omega⟩
    obtain ⟨I1, a1, a2⟩ := zmworth (I := I) (N := k) (n := n) (by omega) (fun _ => h1) (by omega)
    rw [Mo_take_L27, if_neg (by rw [zN_lt (by omega) (by omega)]; omega), a1, Option.bind_some]
    show ∃ I', (if zIn (zN k) 41 then Mo_take_L27 n (zN N) w (zN k + 1) (zUp I1 92 (Int32.toNatClampNeg (zN k)) (zN (zWt k))) else none) = some I' ∧ _
    rw [if_pos ((zN_in (by omega)).mpr (by omega)), zN_tn (by omega), zl_1, zN_add]
    obtain ⟨I', e1, e2, e3⟩ := ih (k + 1) n (zUp I1 92 k (zN (zWt k))) (by omega) (by omega) (fun i hi => by
      rw [zUp_at]
      by_cases q : i = k
      · rw [if_pos q, q]
      · rw [if_neg q, a2 92 (by decide)]
        exact h1 i (by omega))
    exact ⟨I', e1, fun b b1 b2 => by rw [e2 b b1 b2, zUp_ne b1, a2 b b2], e3⟩
theorem zmwinL {I : zI} {N : Nat} {w : Int32} (hN : N < 41) (h : zMw I (N + 1)) : ∀ (k n : Nat), k ≤ N → k < n → Mo_take_L57 n (zN N) w (zE (zWn N (N - k) k)) (zN k - 1) I = some (zE (zWn N N 0)) := by
  intro k
  induction k with
  | zero =>
    intro n hk hn
    obtain ⟨n, rfl⟩ : ∃ e, n = e + 1 := ⟨n - 1, by omega⟩
    rw [Mo_take_L57, if_pos (by decide)]
    rfl
  | succ k ih =>
    intro n hk hn
    obtain ⟨n, rfl⟩ : ∃ e, n = e + 1 := ⟨n - 1, by omega⟩
    have hl := zWb_lt hN (show k < 41 by omega)
    have ek : zN (k + 1) - 1 = zN k := by
      rw [zl_1, zN_sub (by omega)]
      congr 1
    have ek2 : zN k + -1 = zN k - 1 := Int32.add_neg_eq_sub
    rw [Mo_take_L57, ek, if_neg (by rw [zl_0, zN_lt (by omega) (by decide)]; omega), zmrb h (by omega) (by omega) hN (by omega), Option.bind_some, ek2]
    have e : (if zN (zWb N k) = (0 : Int32) then some (zN k) else some (zE (zWn N (N - (k + 1)) (k + 1)))) = some (zE (zWn N (N - k) k)) := by
      rw [show N - k = (N - (k + 1)) + 1 by omega]
      conv => rhs; unfold zWn
      by_cases q : zWb N k = 0
      · rw [if_pos (by rw [q]; rfl), if_pos q, zE_lt (by omega)]
      · rw [if_neg (by rw [zl_0, zN_inj (by omega) (by decide)]; exact q), if_neg q]
    rw [e, Option.bind_some]
    exact ih n (by omega) (by omega)
theorem c_take {I : zI} (h : Rel I) {n : Nat} (hn : 5000 < n) (a0 a1 : Int32) : CP (BM_take n a0 a1 I) (Mo_take n a0 a1 I) := by
  unfold BM_take Mo_take
  rcases zW_c 0 40 a0 (by decide) (by decide) with ⟨N, -, hN, rfl, ea⟩ | ⟨ea, -⟩
  · rcases zW_c 0 1 a1 (by decide) (by decide) with ⟨w, -, hw, rfl, eb⟩ | ⟨eb, -⟩
    · have ht : TW I := h.2.2.2
      obtain ⟨J, j1, j2, j3⟩ := zmtkL (N := N) (w := zN w) (by omega) (N + 1) 0 n I (by omega) (by omega) (fun i hi => absurd hi (Nat.not_lt_zero i))
      have hr := zmwinL (w := zN w) (show N < 41 by omega) j3 N n (Nat.le_refl N) (by omega)
      rw [show N - N = 0 by omega] at hr
      have hc := zcwinL ht (show N < 41 by omega) N 0 n (by omega) (by omega)
      have hl := zWn_lt N N 0
      have hrf : RF I J := ⟨fun b hb => j2 b (by omega) (by omega), j2 82 (by decide) (by decide), j2 94 (by decide) (by decide), j2 95 (by decide) (by decide), by rw [j2 73 (by decide) (by decide)]⟩
      have hrel : Rel J := by
        obtain ⟨⟨s, hc, hm, v⟩, hr⟩ := h
        exact ⟨⟨s, GC_fr hc (fun b b1 b2 => hrf.1 b (by omega)), GM_fr hm (fun b b1 b2 => j2 b (by omega) (by omega)) (by rw [j2 73 (by decide) (by decide)]) (by rw [j2 73 (by decide) (by decide)]) (by rw [j2 73 (by decide) (by decide)]), v⟩, RS_kr hr (KR_rf hrf)⟩
      rw [zbi_0_40, zmi_0_40, ea, Option.bind_some, Option.bind_some, if_neg (by decide), if_neg (by decide), zbi_0_1, zmi_0_1, eb, Option.bind_some, Option.bind_some, if_neg (by decide), if_neg (by decide), show Mo_take_L27 n (zN N) (zN w) 0 I = _ from j1, Option.bind_some]
      unfold Tu_winningBench
      rw [show Tu_winningBench_L2 n (zN N) 0 I = _ from hc, Option.bind_some, show Mo_take_L57 n (zN N) (zN w) (-6) (zN N - 1) J = _ from hr, Option.bind_some, zl_6, zl_0]
      rcases (show w = 0 ∨ w = 1 by omega) with rfl | rfl
      · by_cases q : zWn N N 0 < 100
        · refine ⟨1, J, ?_, ?_, hrel⟩
          · rw [if_neg (show ¬ (zN 0 = 1) by decide), if_neg (by rw [zE_none]; omega)]
          · rw [if_neg (show ¬ (zN 0 = 1) by decide), if_pos ((zE_pos _).mpr q)]
        · refine ⟨0, J, ?_, ?_, hrel⟩
          · rw [if_neg (show ¬ (zN 0 = 1) by decide), if_pos ((zE_none _).mpr (by omega))]
            rfl
          · rw [if_neg (show ¬ (zN 0 = 1) by decide), if_neg (by rw [zE_pos]; exact q)]
            rfl
      · rw [if_pos (by decide), if_pos (by decide)]
        exact ⟨_, J, rfl, rfl, hrel⟩
    · rw [zbi_0_40, zmi_0_40, ea, Option.bind_some, Option.bind_some, if_neg (by decide), if_neg (by decide), zbi_0_1, zmi_0_1, eb, Option.bind_some, Option.bind_some, if_pos (by decide), if_pos (by decide)]
      exact ⟨_, _, rfl, rfl, h⟩
  · rw [zbi_0_40, zmi_0_40, ea, Option.bind_some, Option.bind_some, if_pos (by decide), if_pos (by decide)]
    exact ⟨_, _, rfl, rfl, h⟩
