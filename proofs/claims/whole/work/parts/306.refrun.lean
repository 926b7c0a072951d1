/-! the reference's days: what is kept, what is tried, what is put back -/
def RT (I : zI) (s : zA) : Prop := GM I s ∧ (∀ m, m < 12 → I 86 m = zN (s 7 m)) ∧ I 73 19 = zE (s 8 2) ∧ I 73 20 = zE (s 8 3) ∧ I 73 21 = zN (s 8 1)
/-- an act that stands there -/
def zOkA (x : Nat × Nat × Nat) : Prop := x.1 < 6 ∧ x.2.1 < 8 ∧ zTok x.1 x.2.2
theorem zRun_fail {l : List (Nat × Nat × Nat)} {s : zA} (h : s 8 2 < 100) : zRun l s = s := by
  induction l with
  | nil => rfl
  | cons x l ih =>
    show zRun l (zSt1 s x) = s
    have : zSt1 s x = s := by
      unfold zSt1
      rw [if_pos h]
    rw [this]
    exact ih
theorem zAft_V {s : zA} {a k t : Nat} (v : VS (zDo s a k t)) : VS (zAft s a k t) := v
theorem zBad_V {s : zA} {a k t : Nat} (v : VS s) : VS (zBad s a k t) := v
theorem zSt1_V {s : zA} (v : VS s) {x : Nat × Nat × Nat} (hx : zOkA x) : VS (zSt1 s x) := by
  unfold zSt1
  split
  · exact v
  · split
    · rename_i h
      exact zAft_V (VS_do v hx.1 hx.2.1 hx.2.2 h)
    · exact zBad_V v
theorem zRun_V {l : List (Nat × Nat × Nat)} : ∀ {s : zA}, VS s → (∀ x ∈ l, zOkA x) → VS (zRun l s) := by
  induction l with
  | nil => exact fun v _ => v
  | cons x l ih => exact fun v h => ih (zSt1_V v (h x List.mem_cons_self)) (fun y hy => h y (List.mem_cons_of_mem _ hy))
theorem zSt1_0 (s : zA) (x : Nat × Nat × Nat) : zSt1 s x 0 = s 0 ∧ zSt1 s x 6 = s 6 ∧ zSt1 s x 5 2 = s 5 2 := by
  unfold zSt1
  split
  · exact ⟨rfl, rfl, rfl⟩
  · split
    · exact ⟨zDo_0 _ _ _ _, zDo_6 _ _ _ _, zDo_52 _ _ _ _⟩
    · exact ⟨rfl, rfl, rfl⟩
theorem zRun_0 {l : List (Nat × Nat × Nat)} : ∀ (s : zA), zRun l s 0 = s 0 ∧ zRun l s 6 = s 6 ∧ zRun l s 5 2 = s 5 2 := by
  induction l with
  | nil => exact fun s => ⟨rfl, rfl, rfl⟩
  | cons x l ih =>
    intro s
    obtain ⟨h1, h2, h3⟩ := ih (zSt1 s x)
    obtain ⟨g1, g2, g3⟩ := zSt1_0 s x
    exact ⟨h1.trans g1, h2.trans g2, h3.trans g3⟩
/-- where a run stands: nothing has failed before the act q, or something has -/
def zAtq (s : zA) (q : Nat) : Prop := s 8 2 < 100 ∨ (s 8 2 = 100 ∧ s 8 3 = 100 ∧ s 8 0 = q)
theorem zSt1_q {s : zA} {q : Nat} (h : zAtq s q) (hq : q < 100) (x : Nat × Nat × Nat) : zAtq (zSt1 s x) (q + 1) := by
  unfold zSt1
  rcases h with h | ⟨h1, h2, h3⟩
  · rw [if_pos h]
    exact Or.inl h
  · rw [if_neg (by omega)]
    split
    · right
      refine ⟨?_, ?_, ?_⟩
      · show zDo s _ _ _ 8 2 = 100
        rw [zDo_8, h1]
      · show zDo s _ _ _ 8 3 = 100
        rw [zDo_8, h2]
      · show s 8 0 + 1 = q + 1
        rw [h3]
    · left
      show s 8 0 < 100
      omega
theorem zgoL {l : List (Nat × Nat × Nat)} : ∀ {q n : Nat} {I : zI} {s : zA}, RT I s → VS s → zAtq s q → (∀ x ∈ l, zOkA x) → (∀ i x, l[i]? = some x → I 83 (q + i) = zN x.1 ∧ I 84 (q + i) = zN x.2.1 ∧ (x.1 = 0 ∨ x.1 = 2 ∨ x.1 = 4 → I 85 (q + i) = zN x.2.2)) → I 73 16 = zN (q + l.length) → q + l.length ≤ 60 → l.length + 20 < n → ∃ I', Mo_goDays_L40 n (zN q) I = some I' ∧ RT I' (zRun l s) ∧ (∀ b, b ≠ 73 → b ≠ 75 → b ≠ 76 → b ≠ 77 → b ≠ 78 → b ≠ 86 → I' b = I b) ∧ (∀ i, i ≠ 5 → i ≠ 6 → i ≠ 19 → i ≠ 20 → i ≠ 21 → I' 73 i = I 73 i) := by
  induction l with
  | nil =>
    intro q n I s hR v ha hx hl h16 hq hn
    obtain ⟨n, rfl⟩ : ∃ e, n = e + 1 := ⟨n - 1, by omega⟩
    rw [Mo_goDays_L40, h16, List.length_nil, Nat.add_zero, if_pos (Int32.le_refl _)]
    exact ⟨I, rfl, hR, fun _ _ _ _ _ _ _ => rfl, fun _ _ _ _ _ _ => rfl⟩
  | cons x l ih =>
    intro q n I s hR v ha hx hl h16 hq hn
    obtain ⟨n, rfl⟩ : ∃ e, n = e + 1 := ⟨n - 1, by omega⟩
    have hlen : (x :: l).length = l.length + 1 := rfl
    rw [hlen] at h16 hq hn
    obtain ⟨hG, h86, h19, h20, h21⟩ := id hR
    rw [Mo_goDays_L40, h16, if_neg (by rw [zN_le (by omega) (by omega)]; omega), h19]
    rcases ha with ha | ⟨ha1, ha2, ha3⟩
    · rw [if_pos (show (0 : Int32) ≤ zE (s 8 2) from (zE_pos _).mpr ha)]
      exact ⟨I, rfl, by rw [zRun_fail ha]; exact hR, fun _ _ _ _ _ _ _ => rfl, fun _ _ _ _ _ _ => rfl⟩
    · have hi : zIn (zN q) 60 := (zN_in (by omega)).mpr (by omega)
      have tq := zN_tn (show q < 2147483648 by omega)
      obtain ⟨x1, x2, x3⟩ := hx x List.mem_cons_self
      obtain ⟨l1, l2, l3⟩ := hl 0 x rfl
      rw [Nat.add_zero] at l1 l2 l3
      rw [if_neg (show ¬ ((0 : Int32) ≤ zE (s 8 2)) from fun z => by have := (zE_pos _).mp z; omega), if_pos hi, if_pos hi, if_pos hi]
      simp only [tq, l1, l2]
      rw [zmwhy hG v x1 x2 x3 l3, Option.bind_some]
      have hw6 := zWhy_lt s x.1 x.2.1 x.2.2
      have hz0 : ∀ (c : Nat), (zUp (zUp I 73 19 (-(zN 6))) 73 20 (-(zN 6))) c = if c = 73 then (zUp (zUp I 73 19 (-(zN 6))) 73 20 (-(zN 6))) 73 else I c := by
        intro c
        by_cases z : c = 73
        · rw [if_pos z, z]
        · rw [if_neg z, zUp_ne z, zUp_ne z]
      by_cases hw : zWhy s x.1 x.2.1 x.2.2 = 0
      · have hst : zSt1 s x = zAft s x.1 x.2.1 x.2.2 := by
          unfold zSt1
          rw [if_neg (by omega), if_pos hw]
        rw [hw, if_pos (show zN 0 ≤ (0 : Int32) by decide), if_pos (show zN 0 ≤ (0 : Int32) by decide), Option.bind_some, Option.bind_some, if_pos (show zN 0 = (0 : Int32) from rfl), if_pos hi, if_pos hi, if_pos hi, zUp_ne (by decide), zUp_ne (by decide), zUp_ne (by decide), zUp_ne (by decide), zUp_ne (by decide), zUp_ne (by decide), l1, l2, zl_6]
        have hG2 : GM (zUp (zUp I 73 19 (-(zN 6))) 73 20 (-(zN 6))) s := GM_fr hG (fun b b1 b2 => by rw [zUp_ne (by omega), zUp_ne (by omega)]) (by rw [zUp_nj (by decide), zUp_nj (by decide)]) (by rw [zUp_nj (by decide), zUp_nj (by decide)]) (by rw [zUp_nj (by decide), zUp_nj (by decide)])
        obtain ⟨I3, e1, e2, e3, e4, e5⟩ := zmhap hG2 v (n := n) x1 x2 x3 l3 (by omega) hw
        rw [e1, Option.bind_some, if_pos hi]
        have h83 : I3 83 q = zN x.1 := by
          rw [e3 83 (by decide) (by decide) (by decide) (by decide) (by decide) (by decide), zUp_ne (by decide), zUp_ne (by decide), l1]
        rw [h83]
        have hs : (if zN x.1 = (1 : Int32) then some (1 : Int32) else some 0) = some (zN (if x.1 = 1 then 1 else 0)) := by
          by_cases z : x.1 = 1
          · rw [z]
            rfl
          · rw [if_neg (by rw [zl_1, zN_inj (by omega) (by decide)]; exact z), if_neg z]
            rfl
        rw [hs, Option.bind_some, Option.bind_some, e4 21 (by decide) (by decide), zUp_nj (by decide), zUp_nj (by decide), h21, zN_add, zl_1, zN_add]
        have hR3 : RT (zUp I3 73 21 (zN (s 8 1 + if x.1 = 1 then 1 else 0))) (zSt1 s x) := by
          rw [hst]
          have e8 := zDo_8 s x.1 x.2.1 x.2.2
          refine ⟨GM_fr (s := zAft s x.1 x.2.1 x.2.2) e2 (fun b b1 b2 => zUp_ne (by omega)) (zUp_nj (by decide)) (zUp_nj (by decide)) (zUp_nj (by decide)), fun m hm => ?_, ?_, ?_, ?_⟩
          · rw [zUp_ne (by decide)]
            exact e5 (s 7) (fun m hm => by rw [zUp_ne (by decide), zUp_ne (by decide), h86 m hm]) m hm
          · rw [zUp_nj (by decide), e4 19 (by decide) (by decide), zUp_nj (by decide), zUp_eq]
            show _ = zE (zDo s _ _ _ 8 2)
            rw [e8, ha1]
            rfl
          · rw [zUp_nj (by decide), e4 20 (by decide) (by decide), zUp_eq]
            show _ = zE (zDo s _ _ _ 8 3)
            rw [e8, ha2]
            rfl
          · rw [zUp_eq]
            rfl
        have fr : ∀ b, b ≠ 73 → b ≠ 75 → b ≠ 76 → b ≠ 77 → b ≠ 78 → b ≠ 86 → zUp I3 73 21 (zN (s 8 1 + if x.1 = 1 then 1 else 0)) b = I b := fun b b1 b2 b3 b4 b5 b6 => by rw [zUp_ne b1, e3 b b1 b2 b3 b4 b5 b6, zUp_ne b1, zUp_ne b1]
        have fr2 : ∀ i, i ≠ 5 → i ≠ 6 → i ≠ 19 → i ≠ 20 → i ≠ 21 → zUp I3 73 21 (zN (s 8 1 + if x.1 = 1 then 1 else 0)) 73 i = I 73 i := fun i i1 i2 i3 i4 i5 => by rw [zUp_nj i5, e4 i i1 i2, zUp_nj i4, zUp_nj i3]
        obtain ⟨I', k1, k2, k3, k4⟩ := ih (q := q + 1) (n := n) hR3 (zSt1_V v ⟨x1, x2, x3⟩) (zSt1_q (Or.inr ⟨ha1, ha2, ha3⟩) (by omega) x) (fun y hy => hx y (List.mem_cons_of_mem _ hy)) (fun i y hy => by
          have := hl (i + 1) y (by rw [List.getElem?_cons_succ]; exact hy)
          rw [fr 83 (by decide) (by decide) (by decide) (by decide) (by decide) (by decide), fr 84 (by decide) (by decide) (by decide) (by decide) (by decide) (by decide), fr 85 (by decide) (by decide) (by decide) (by decide) (by decide) (by decide), show q + 1 + i = q + (i + 1) by omega]
          exact this) (by rw [fr2 16 (by decide) (by decide) (by decide) (by decide) (by decide), h16]; congr 1; omega) (by omega) (by omega)
        exact ⟨I', k1, k2, fun b b1 b2 b3 b4 b5 b6 => (k3 b b1 b2 b3 b4 b5 b6).trans (fr b b1 b2 b3 b4 b5 b6), fun i i1 i2 i3 i4 i5 => (k4 i i1 i2 i3 i4 i5).trans (fr2 i i1 i2 i3 i4 i5)⟩
      · have hst : zSt1 s x = zBad s x.1 x.2.1 x.2.2 := by
          unfold zSt1
          rw [if_neg (by omega), if_neg hw]
        have hn0 : ¬ (zN (zWhy s x.1 x.2.1 x.2.2) ≤ (0 : Int32)) := by
          rw [zl_0, zN_le (by omega) (by decide)]
          omega
        have hn1 : ¬ (zN (zWhy s x.1 x.2.1 x.2.2) = (0 : Int32)) := by
          rw [zl_0, zN_inj (by omega) (by decide)]
          omega
        rw [if_neg hn0, if_neg hn0, Option.bind_some, Option.bind_some, if_neg hn1, Option.bind_some, zl_1, zN_add]
        have hR3 : RT (zUp (zUp I 73 19 (zN q)) 73 20 (zN (zWhy s x.1 x.2.1 x.2.2))) (zSt1 s x) := by
          rw [hst]
          refine ⟨GM_fr (s := zBad s x.1 x.2.1 x.2.2) hG (fun b b1 b2 => by rw [zUp_ne (by omega), zUp_ne (by omega)]) (by rw [zUp_nj (by decide), zUp_nj (by decide)]) (by rw [zUp_nj (by decide), zUp_nj (by decide)]) (by rw [zUp_nj (by decide), zUp_nj (by decide)]), fun m hm => ?_, ?_, ?_, ?_⟩
          · rw [zUp_ne (by decide), zUp_ne (by decide)]
            exact h86 m hm
          · rw [zUp_nj (by decide), zUp_eq]
            show _ = zE (s 8 0)
            rw [ha3, zE_lt (by omega)]
          · rw [zUp_eq]
            show _ = zE (zWhy s _ _ _)
            rw [zE_lt (by omega)]
          · rw [zUp_nj (by decide), zUp_nj (by decide), h21]
            rfl
        have fr : ∀ b, b ≠ 73 → zUp (zUp I 73 19 (zN q)) 73 20 (zN (zWhy s x.1 x.2.1 x.2.2)) b = I b := fun b b1 => by rw [zUp_ne b1, zUp_ne b1]
        have fr2 : ∀ i, i ≠ 19 → i ≠ 20 → zUp (zUp I 73 19 (zN q)) 73 20 (zN (zWhy s x.1 x.2.1 x.2.2)) 73 i = I 73 i := fun i i1 i2 => by rw [zUp_nj i2, zUp_nj i1]
        obtain ⟨I', k1, k2, k3, k4⟩ := ih (q := q + 1) (n := n) hR3 (zSt1_V v ⟨x1, x2, x3⟩) (zSt1_q (Or.inr ⟨ha1, ha2, ha3⟩) (by omega) x) (fun y hy => hx y (List.mem_cons_of_mem _ hy)) (fun i y hy => by
          have := hl (i + 1) y (by rw [List.getElem?_cons_succ]; exact hy)
          rw [fr 83 (by decide), fr 84 (by decide), fr 85 (by decide), show q + 1 + i = q + (i + 1) by omega]
          exact this) (by rw [fr2 16 (by decide) (by decide), h16]; congr 1; omega) (by omega) (by omega)
        exact ⟨I', k1, k2, fun b b1 b2 b3 b4 b5 b6 => (k3 b b1 b2 b3 b4 b5 b6).trans (fr b b1), fun i i1 i2 i3 i4 i5 => (k4 i i1 i2 i3 i4 i5).trans (fr2 i i3 i4)⟩
theorem zgo19 : ∀ (j k n : Nat) (I : zI), k + j = 12 → j < n → (∀ m, m < k → I 86 m = zN 0) → ∃ I', Mo_goDays_L19 n (zN k) I = some I' ∧ (∀ b, b ≠ 86 → I' b = I b) ∧ ∀ m, m < 12 → I' 86 m = zN 0 := by
  intro j
  induction j with
  | zero =>
    intro k n I hk hn h1
    obtain ⟨n, rfl⟩ : ∃ e, n = e + 1 := ⟨n - 1, by omega⟩
    rw [Mo_goDays_L19, zl_12, if_pos ((zN_le (by decide) (by omega)).mpr (by omega))]
    exact ⟨I, rfl, fun b _ => rfl, fun m hm => h1 m (by omega)⟩
  | succ j ih =>
    intro k n I hk hn h1
    obtain ⟨n, rfl⟩ : ∃ e, n = e + 1 := ⟨n - 1, by omega⟩
    rw [Mo_goDays_L19, zl_12, if_neg (by rw [zN_le (by decide) (by omega)]; omega), if_pos ((zN_in (by omega)).mpr (by omega)), zN_tn (by omega), zl_1, zN_add]
    obtain ⟨I', e1, e2, e3⟩ := ih (k + 1) n (zUp I 86 k 0) (by omega) (by omega) (fun m hm => by
      rw [zUp_at]
      by_cases q : m = k
      · rw [if_pos q]
        rfl
      · rw [if_neg q]
        exact h1 m (by omega))
    exact ⟨I', e1, fun b b1 => by rw [e2 b b1, zUp_ne b1], e3⟩
/-- a state as a run begins -/
def zBg (s : zA) : zA := zRow (zRow s 7 (fun _ => 0)) 8 (fun i => if i < 2 then 0 else 100)
theorem zgo {I : zI} {s : zA} (h : GM I s) (v : VS s) {l : List (Nat × Nat × Nat)} {n : Nat} (hx : ∀ x ∈ l, zOkA x) (hl : ∀ i x, l[i]? = some x → I 83 i = zN x.1 ∧ I 84 i = zN x.2.1 ∧ (x.1 = 0 ∨ x.1 = 2 ∨ x.1 = 4 → I 85 i = zN x.2.2)) (h16 : I 73 16 = zN l.length) (hq : l.length ≤ 60) (hn : 100 < n) : ∃ I', Mo_goDays n I = some I' ∧ RT I' (zRun l (zBg s)) ∧ (∀ b, b ≠ 73 → b ≠ 75 → b ≠ 76 → b ≠ 77 → b ≠ 78 → b ≠ 86 → I' b = I b) ∧ (∀ i, i ≠ 5 → i ≠ 6 → i ≠ 19 → i ≠ 20 → i ≠ 21 → I' 73 i = I 73 i) := by
  unfold Mo_goDays
  obtain ⟨I1, e1, e2, e3⟩ := zgo19 12 0 n (zUp (zUp (zUp I 73 19 (-6)) 73 20 (-6)) 73 21 0) rfl (by omega) (fun m hm => absurd hm (Nat.not_lt_zero m))
  rw [show (0 : Int32) = zN 0 from rfl] at *
  rw [e1, Option.bind_some]
  have fr : ∀ b, b ≠ 73 → b ≠ 86 → I1 b = I b := fun b b1 b2 => by rw [e2 b b2, zUp_ne b1, zUp_ne b1, zUp_ne b1]
  have fr2 : ∀ i, i ≠ 19 → i ≠ 20 → i ≠ 21 → I1 73 i = I 73 i := fun i i1 i2 i3 => by rw [e2 73 (by decide), zUp_nj i3, zUp_nj i2, zUp_nj i1]
  have hR : RT I1 (zBg s) := by
    refine ⟨GM_fr (s := zBg s) h (fun b b1 b2 => fr b (by omega) (by omega)) (fr2 5 (by decide) (by decide) (by decide)) (fr2 6 (by decide) (by decide) (by decide)) (fr2 10 (by decide) (by decide) (by decide)), e3, ?_, ?_, ?_⟩
    · rw [e2 73 (by decide), zUp_nj (by decide), zUp_nj (by decide), zUp_eq]
      rfl
    · rw [e2 73 (by decide), zUp_nj (by decide), zUp_eq]
      rfl
    · rw [e2 73 (by decide), zUp_eq]
      rfl
  obtain ⟨I', k1, k2, k3, k4⟩ := zgoL (l := l) (q := 0) (n := n) hR (s := zBg s) v (Or.inr ⟨rfl, rfl, rfl⟩) hx (fun i x hi => by
    rw [fr 83 (by decide) (by decide), fr 84 (by decide) (by decide), fr 85 (by decide) (by decide), Nat.zero_add]
    exact hl i x hi) (by rw [fr2 16 (by decide) (by decide) (by decide), h16, Nat.zero_add]) (by omega) (by omega)
  rw [k1, Option.bind_some]
  exact ⟨I', rfl, k2, fun b b1 b2 b3 b4 b5 b6 => (k3 b b1 b2 b3 b4 b5 b6).trans (fr b b1 b6), fun i i1 i2 i3 i4 i5 => (k4 i i1 i2 i3 i4 i5).trans (fr2 i i3 i4 i5)⟩
