/-! the relation that every call keeps -/
/-- worths of free rows -/
def yGr : List Nat := [0, 1, 1, 2, 0, 3, 1, 1, 0, 3, 3, 2, 2, 4, 0, 5, 2, 2, 3, 3, 0, 1, 1, 3, 0, 2, 1, 1, 0, 4, 5, 2, 7, 4, 0, 1, 1, 2, 0, 3, 1]
def TW (I : zI) : Prop := ∀ i, i < 41 → I 72 i = zN (yGr.getD i 0)
def IM (I : zI) : Prop := ∃ w, w < 4 ∧ I 1 10 = zN w ∧ ∀ j, j < 2 → I 95 j = zB (w.testBit j) ∧ (w.testBit j = true → ∃ s, GC (13 + 11 * j) I s ∧ GK j I s ∧ VS s)
def RS (I : zI) : Prop := (∃ cnt sg, PD I cnt sg) ∧ IM I ∧ TW I
def Rel (I : zI) : Prop := (∃ s, GC 2 I s ∧ GM I s ∧ VS s) ∧ RS I
def KR (I I' : zI) : Prop := I' 35 1 = I 35 1 ∧ I' 37 = I 37 ∧ I' 1 10 = I 1 10 ∧ I' 72 = I 72 ∧ (∀ b, 13 ≤ b → b ≤ 34 → I' b = I b) ∧ I' 82 = I 82 ∧ I' 94 = I 94 ∧ I' 95 = I 95 ∧ I' 73 12 = I 73 12
theorem KR.tr {I I1 I2 : zI} (h : KR I I1) (g : KR I1 I2) : KR I I2 := by
  obtain ⟨h1, h2, h3, h4, h5, h6, h7, h8, h9⟩ := h
  obtain ⟨g1, g2, g3, g4, g5, g6, g7, g8, g9⟩ := g
  exact ⟨g1.trans h1, g2.trans h2, g3.trans h3, g4.trans h4, fun b b1 b2 => (g5 b b1 b2).trans (h5 b b1 b2), g6.trans h6, g7.trans h7, g8.trans h8, g9.trans h9⟩
theorem KR_cf {I I' : zI} (h : CF I I') : KR I I' := ⟨by rw [h 35 (by decide)], h 37 (by decide), by rw [h 1 (by decide)], h 72 (by decide), fun b b1 b2 => h b (by omega), h 82 (by decide), h 94 (by decide), h 95 (by decide), by rw [h 73 (by decide)]⟩
theorem KR_rf {I I' : zI} (h : RF I I') : KR I I' := ⟨by rw [h.1 35 (by decide)], h.1 37 (by decide), by rw [h.1 1 (by decide)], h.1 72 (by decide), fun b b1 b2 => h.1 b (by omega), h.2.1, h.2.2.1, h.2.2.2.1, h.2.2.2.2⟩
theorem GK_fr {I I' : zI} {s : zA} {j : Nat} (h : GK j I s) (h1 : I' 94 = I 94) : GK j I' s := by
  unfold GK at *
  rw [h1]
  exact h
theorem IM_kr {I I' : zI} (h : IM I) (k : KR I I') : IM I' := by
  obtain ⟨h1, h2, h3, h4, h5, h6, h7, h8, h9⟩ := k
  obtain ⟨w, w1, w2, w3⟩ := h
  refine ⟨w, w1, h3.trans w2, fun j hj => ?_⟩
  obtain ⟨g1, g2⟩ := w3 j hj
  rw [h8]
  refine ⟨g1, fun z => ?_⟩
  obtain ⟨s, s1, s2, s3⟩ := g2 z
  exact ⟨s, GC_fr s1 (fun b b1 b2 => h5 b (by omega) (by omega)), GK_fr s2 h7, s3⟩
theorem RS_kr {I I' : zI} (h : RS I) (k : KR I I') : RS I' := by
  obtain ⟨⟨cnt, sg, p1, p2, p3, p4⟩, hi, ht⟩ := h
  refine ⟨⟨cnt, sg, p1, k.1.trans p2, k.2.2.2.2.2.2.2.2.trans p3, fun i hi => ?_⟩, IM_kr hi k, fun i hi => ?_⟩
  · rw [k.2.1, k.2.2.2.2.2.1]
    exact p4 i hi
  · rw [k.2.2.2.1]
    exact ht i hi
/-- what a call owes -/
def CO (x : Option (Int32 × zI)) (y : zI → Option (Int32 × zI)) : Prop := ∃ r I1 I2, x = some (r, I1) ∧ y I1 = some (r, I2) ∧ Rel I2
theorem CO_bad {I : zI} (h : Rel I) {r : Int32} {x : Option (Int32 × zI)} {y : zI → Option (Int32 × zI)} (h1 : x = some (r, I)) (h2 : y I = some (r, I)) : CO x y := ⟨r, I, I, h1, h2, h⟩
/-! bits -/
def zPop (w : Nat) : Nat := (List.range 10).countP (fun i => w.testBit i)
theorem zbc0 : ∀ w, w < 1024 → In_bitCount (zN w) (fun _ _ => 0) = some (zN (zPop w)) := by decide +kernel
theorem zbc {w : Nat} (I : zI) (h : w < 1024) : In_bitCount (zN w) I = some (zN (zPop w)) := zbc0 w h
def yOn : Nat → Nat → Nat
  | 0, _ => 0
  | f + 1, x => if x = 0 then 0 else 1 + yOn f (x &&& (x - 1))
theorem yOn_pop : ∀ w, w < 1024 → yOn 1024 w = zPop w := by decide +kernel
theorem zonesL {I : zI} : ∀ (f x n v : Nat), x ≤ f → f < n → x < 1024 → Mo_ones_L4 n (zN v) (zN x) I = some (zN (v + yOn f x)) := by
  intro f
  induction f with
  | zero =>
    intro x n v h1 h2 h3
    obtain ⟨n, rfl⟩ : ∃ e, n = e + 1 := ⟨n - 1, by omega⟩
    have : x = 0 := by omega
    subst this
    rw [Mo_ones_L4, if_pos (by decide)]
    rfl
  | succ f ih =>
    intro x n v h1 h2 h3
    obtain ⟨n, rfl⟩ : ∃ e, n = e + 1 := ⟨n - 1, by omega⟩
    rw [Mo_ones_L4]
    unfold yOn
    by_cases q : x = 0
    · subst q
      rw [if_pos (by decide), if_pos rfl]
      rfl
    · have hle : x &&& (x - 1) ≤ x - 1 := Nat.and_le_right
      rw [if_neg (by rw [zl_0, zN_inj (by omega) (by decide)]; exact q), if_neg q, zl_1, zN_add, zN_sub (by omega), zN_and]
      rw [ih _ n (v + 1) (by omega) (by omega) (by omega), Nat.add_assoc]
theorem zones {w n : Nat} (I : zI) (h : w < 1024) (hn : 2000 < n) : Mo_ones n (zN w) I = some (zN (zPop w)) := by
  unfold Mo_ones
  rw [show (0 : Int32) = zN 0 from rfl, zonesL 1024 w n 0 (by omega) (by omega) h, Option.bind_some, Nat.zero_add, yOn_pop w h]
def zSum (f : Nat → Nat) : Nat → Nat
  | 0 => 0
  | k + 1 => zSum f k + f k
theorem zcwL {I : zI} {w : Nat → Nat} (hw : ∀ b, b < 10 → I 4 b = zN (w b) ∧ w b < 1024) : ∀ (j k n : Nat), k + j = 10 → j < n → Ga_countWays_2_L4 n (zN (zSum (fun b => zPop (w b)) k)) (zN k) I = some (zN (zSum (fun b => zPop (w b)) 10)) := by
  intro j
  induction j with
  | zero =>
    intro k n hk hn
    obtain ⟨n, rfl⟩ : ∃ e, n = e + 1 := ⟨n - 1, by omega⟩
    rw [Ga_countWays_2_L4, zl_10, if_pos ((zN_le (by decide) (by omega)).mpr (by omega)), show k = 10 by omega]
  | succ j ih =>
    intro k n hk hn
    obtain ⟨n, rfl⟩ : ∃ e, n = e + 1 := ⟨n - 1, by omega⟩
    obtain ⟨h1, h2⟩ := hw k (by omega)
    rw [Ga_countWays_2_L4, zl_10, if_neg (by rw [zN_le (by decide) (by omega)]; omega), zat_3 I (by omega), Option.bind_some, h1, zbc I h2, Option.bind_some, zN_add, zl_1, zN_add]
    exact ih (k + 1) n (by omega) (by omega)
theorem zmwL {I : zI} {w : Nat → Nat} (hw : ∀ b, b < 10 → I 74 b = zN (w b) ∧ w b < 1024) : ∀ (j k n : Nat), k + j = 10 → j + 3000 < n → Mo_way_L61 n (zN (zSum (fun b => zPop (w b)) k)) (zN k) I = some (zN (zSum (fun b => zPop (w b)) 10)) := by
  intro j
  induction j with
  | zero =>
    intro k n hk hn
    obtain ⟨n, rfl⟩ : ∃ e, n = e + 1 := ⟨n - 1, by omega⟩
    rw [Mo_way_L61, zl_10, if_pos ((zN_le (by decide) (by omega)).mpr (by omega)), show k = 10 by omega]
  | succ j ih =>
    intro k n hk hn
    obtain ⟨n, rfl⟩ : ∃ e, n = e + 1 := ⟨n - 1, by omega⟩
    obtain ⟨h1, h2⟩ := hw k (by omega)
    rw [Mo_way_L61, zl_10, if_neg (by rw [zN_le (by decide) (by omega)]; omega), if_pos ((zN_in (by omega)).mpr (by omega)), zN_tn (by omega), h1, zones I h2 (by omega), Option.bind_some, zN_add, zl_1, zN_add]
    exact ih (k + 1) n (by omega) (by omega)
/-! ways -/
def zSet (w b : Nat) (is : Bool) : Nat := if is = true then w ||| 1 <<< b else zAn w (1 <<< b)
theorem zSet_bit (w b j : Nat) (is : Bool) : (zSet w b is).testBit j = if j = b then is else w.testBit j := by
  unfold zSet
  cases is
  · rw [if_neg (by decide), zAn_bit, z1_bit]
    by_cases q : j = b
    · rw [if_pos q, decide_eq_true q.symm]
      cases w.testBit j <;> rfl
    · rw [if_neg q, decide_eq_false (fun z => q z.symm)]
      cases w.testBit j <;> rfl
  · rw [if_pos rfl, Nat.testBit_or, z1_bit]
    by_cases q : j = b
    · rw [if_pos q, decide_eq_true q.symm]
      cases w.testBit j <;> rfl
    · rw [if_neg q, decide_eq_false (fun z => q z.symm)]
      cases w.testBit j <;> rfl
theorem zSet_lt {w b : Nat} {is : Bool} (h : w < 1024) (hb : b < 10) : zSet w b is < 1024 := by
  unfold zSet
  split
  · exact Nat.or_lt_two_pow (n := 10) h (z1_lt hb)
  · exact Nat.lt_of_le_of_lt (zAn_le w _) h
theorem zAn_or (w b : Nat) : zAn w b ||| b = w ||| b := Nat.eq_of_testBit_eq (fun i => by
  rw [Nat.testBit_or, Nat.testBit_or, zAn_bit]
  cases w.testBit i <;> cases b.testBit i <;> rfl)
theorem zsetc {w b : Nat} {a2 : Int32} (hb : b < 32) : (if a2 = 0 then some (zN w &&& ((zShl 1 (zN b)) ^^^ (-1))) else some ((zN w &&& ((zShl 1 (zN b)) ^^^ (-1))) ||| (zShl 1 (zN b)))) = some (zN (zSet w b (!decide (a2 = 0)))) := by
  rw [zl_1, zN_shl 1 hb, zN_an, zN_or, zAn_or]
  unfold zSet
  by_cases q : a2 = 0
  · rw [if_pos q, decide_eq_true q]
    rfl
  · rw [if_neg q, decide_eq_false q]
    rfl
theorem zsetm {w b : Nat} {a2 : Int32} (I : zI) (hb : b < 32) : Mo_with (zN w) (zN b) a2 I = some (zN (zSet w b (!decide (a2 = 0)))) := by
  unfold Mo_with
  rw [zl_1, zN_shl 1 hb, zN_an, zN_or]
  unfold zSet
  by_cases q : a2 = 0
  · rw [if_pos q, decide_eq_true q]
    rfl
  · rw [if_neg q, decide_eq_false q]
    rfl
def zWay (s : zA) (a b : Nat) (is : Bool) : zA := zUp (zUp s 0 a (zSet (s 0 a) b is)) 0 b (zSet (s 0 b) a is)
theorem VS_way {s : zA} (v : VS s) {a b : Nat} {is : Bool} (ha : a < 10) (hb : b < 10) (hab : a ≠ b) : VS (zWay s a b is) := by
  obtain ⟨g0, g1, g2, g3, g4, g5, g6, g7, g8, g9⟩ := v
  have e : ∀ x, zWay s a b is 0 x = if x = b then zSet (s 0 b) a is else if x = a then zSet (s 0 a) b is else s 0 x := by
    intro x
    unfold zWay
    rw [zUp_at, zUp_at]
  refine ⟨fun x hx => ?_, fun x y hx hy => ?_, g2, g3, g4, g5, g6, g7, g8, g9⟩
  · rw [e]
    split
    · exact zSet_lt (g0 b hb) ha
    · split
      · exact zSet_lt (g0 a ha) hb
      · exact g0 x hx
  · rw [e, e]
    by_cases x1 : x = b
    · rw [if_pos x1, zSet_bit]
      by_cases y1 : y = b
      · rw [if_pos y1, zSet_bit, if_neg (by omega), if_neg (by omega), x1, y1]
      · rw [if_neg y1]
        by_cases y2 : y = a
        · rw [if_pos y2, if_pos y2, zSet_bit, if_pos x1]
        · rw [if_neg y2, if_neg y2, x1]
          exact g1 b y hb hy
    · rw [if_neg x1]
      by_cases x2 : x = a
      · rw [if_pos x2, zSet_bit]
        by_cases y1 : y = b
        · rw [if_pos y1, if_pos y1, zSet_bit, if_pos x2]
        · rw [if_neg y1, if_neg y1]
          by_cases y2 : y = a
          · rw [if_pos y2, zSet_bit, if_neg (by omega), x2, y2]
          · rw [if_neg y2, x2]
            exact g1 a y ha hy
      · rw [if_neg x2]
        by_cases y1 : y = b
        · rw [if_pos y1, zSet_bit, if_neg x2, y1]
          exact g1 x b hx hb
        · rw [if_neg y1]
          by_cases y2 : y = a
          · rw [if_pos y2, zSet_bit, if_neg (by omega), y2]
            exact g1 x a hx ha
          · rw [if_neg y2]
            exact g1 x y hx hy
theorem zI0 {x : Int32} {b : Bool} (h : x = zB b) : (x = 0) ↔ b = false := by
  rw [h]
  exact zB_0 b
theorem c_way {I : zI} (h : Rel I) {n : Nat} (hn : 5000 < n) (a0 a1 a2 : Int32) : CO (BM_way n a0 a1 a2 I) (Mo_way n a0 a1 a2) := by
  rcases zW_c 0 9 a0 (by decide) (by decide) with ⟨a, -, ha, rfl, ea⟩ | ⟨ea, -⟩
  · rcases zW_c 0 9 a1 (by decide) (by decide) with ⟨b, -, hb, rfl, eb⟩ | ⟨eb, -⟩
    · by_cases hab : a = b
      · refine CO_bad h (r := -1) ?_ ?_
        · unfold BM_way
          rw [zbBench, ea, Option.bind_some, if_neg (by decide), zbBench, eb, Option.bind_some, if_neg (by decide), if_pos (by rw [hab])]
        · unfold Mo_way
          rw [zmBench, ea, Option.bind_some, if_neg (by decide), zmBench, eb, Option.bind_some, if_neg (by decide), if_pos (by rw [hab])]
      · obtain ⟨⟨s, hc, hm, v⟩, hr⟩ := h
        have wa := vs_w v a (by omega)
        have wb := vs_w v b (by omega)
        have hne : ¬ (zN a = zN b) := by
          rw [zN_inj (by omega) (by omega)]
          exact hab
        have v' := VS_way (is := !decide (a2 = 0)) v (show a < 10 by omega) (show b < 10 by omega) hab
        have c1 := GC_up0 (i := b) (v := zSet (s 0 b) a (!decide (a2 = 0))) (GC_up0 (i := a) (v := zSet (s 0 a) b (!decide (a2 = 0))) hc)
        have hI : ∀ (J : zI) (c : Nat), c ≠ 4 → zUp (zUp J 4 a (zN (zSet (s 0 a) b (!decide (a2 = 0))))) 4 b (zN (zSet (s 0 b) a (!decide (a2 = 0)))) c = J c := fun J c h1 => by rw [zUp_ne h1, zUp_ne h1]
        have hm1 : GM (zUp (zUp I 4 a (zN (zSet (s 0 a) b (!decide (a2 = 0))))) 4 b (zN (zSet (s 0 b) a (!decide (a2 = 0))))) s := GM_fr hm (fun c h1 h2 => hI I c (by omega)) (by rw [hI I 73 (by decide)]) (by rw [hI I 73 (by decide)]) (by rw [hI I 73 (by decide)])
        have m1 := GM_up0 (i := b) (v := zSet (s 0 b) a (!decide (a2 = 0))) (GM_up0 (i := a) (v := zSet (s 0 a) b (!decide (a2 = 0))) hm1)
        refine ⟨zN (zSum (fun x => zPop (zWay s a b (!decide (a2 = 0)) 0 x)) 10) / 2, zUp (zUp I 4 a (zN (zSet (s 0 a) b (!decide (a2 = 0))))) 4 b (zN (zSet (s 0 b) a (!decide (a2 = 0)))), zUp (zUp (zUp (zUp I 4 a (zN (zSet (s 0 a) b (!decide (a2 = 0))))) 4 b (zN (zSet (s 0 b) a (!decide (a2 = 0))))) 74 a (zN (zSet (s 0 a) b (!decide (a2 = 0))))) 74 b (zN (zSet (s 0 b) a (!decide (a2 = 0)))), ?_, ?_, ⟨zWay s a b (!decide (a2 = 0)), GC_fr c1 (fun c h1 h2 => ?_), m1, v'⟩, RS_kr hr (KR.tr (I1 := zUp (zUp I 4 a (zN (zSet (s 0 a) b (!decide (a2 = 0))))) 4 b (zN (zSet (s 0 b) a (!decide (a2 = 0))))) ?_ ?_)⟩
        · unfold BM_way
          rw [zbBench, ea, Option.bind_some, if_neg (by decide), zbBench, eb, Option.bind_some, if_neg (by decide), if_neg hne]
          unfold Ga_setWay_2
          rw [zat_3 I (by omega), Option.bind_some, zat_3 I (by omega), Option.bind_some, gc2_0 hc (by omega), gc2_0 hc (by omega), zsetc (by omega), Option.bind_some, zput_3 _ I (by omega), Option.bind_some, zsetc (by omega), Option.bind_some, zput_3 _ _ (by omega), Option.bind_some, Option.bind_some]
          unfold Ga_countWays_2
          have := zcwL (w := zWay s a b (!decide (a2 = 0)) 0) (I := zUp (zUp I 4 a (zN (zSet (s 0 a) b (!decide (a2 = 0))))) 4 b (zN (zSet (s 0 b) a (!decide (a2 = 0))))) (fun x hx => ⟨gc2_0 c1 hx, vs_w v' x hx⟩) 10 0 n rfl (by omega)
          rw [show Ga_countWays_2_L4 n 0 0 _ = _ from this, Option.bind_some, Option.bind_some]
        · unfold Mo_way
          have ia := (zN_in (show a < 2147483648 by omega) (n := 10)).mpr (by omega)
          have ib := (zN_in (show b < 2147483648 by omega) (n := 10)).mpr (by omega)
          rw [zmBench, ea, Option.bind_some, if_neg (by decide), zmBench, eb, Option.bind_some, if_neg (by decide), if_neg hne, if_pos ia]
          simp only [zN_tn (show a < 2147483648 by omega), zN_tn (show b < 2147483648 by omega)]
          rw [gm_w hm1 (by omega), zsetm _ (by omega), Option.bind_some, if_pos ia, if_pos ib, zUp_nj (fun z => hab z.symm), gm_w hm1 (by omega), zsetm _ (by omega), Option.bind_some, if_pos ib]
          have := zmwL (w := zWay s a b (!decide (a2 = 0)) 0) (fun x hx => ⟨gm_w m1 hx, vs_w v' x hx⟩) 10 0 n rfl (by omega)
          rw [show Mo_way_L61 n 0 0 _ = _ from this, Option.bind_some]
        · rw [zUp_ne (by omega), zUp_ne (by omega)]
        · exact ⟨by rw [hI I 35 (by decide)], hI I 37 (by decide), by rw [hI I 1 (by decide)], hI I 72 (by decide), fun c h1 h2 => hI I c (by omega), hI I 82 (by decide), hI I 94 (by decide), hI I 95 (by decide), by rw [hI I 73 (by decide)]⟩
        · exact KR_rf ⟨fun c hc => by rw [zUp_ne (by omega), zUp_ne (by omega)], rfl, rfl, rfl, rfl⟩
    · refine CO_bad h (r := -1) ?_ ?_
      · unfold BM_way
        rw [zbBench, ea, Option.bind_some, if_neg (by decide), zbBench, eb, Option.bind_some, if_pos (by decide)]
      · unfold Mo_way
        rw [zmBench, ea, Option.bind_some, if_neg (by decide), zmBench, eb, Option.bind_some, if_pos (by decide)]
  · refine CO_bad h (r := -1) ?_ ?_
    · unfold BM_way
      rw [zbBench, ea, Option.bind_some, if_pos (by decide)]
    · unfold Mo_way
      rw [zmBench, ea, Option.bind_some, if_pos (by decide)]
