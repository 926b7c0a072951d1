/-! images kept and brought back; what is told -/
theorem zAll_GR {I J : zI} {wr : Bool} {s : zA} {k : Nat} (h : zAllG I J wr (100 * k)) (hs : (wr = true ∧ GM I s) ∨ (wr = false ∧ GK k I s)) : GM J s ∧ GK k J s := by
  obtain ⟨-, -, -, -, -, h5, h6, h10, r1, r2, r3, r4, r5, r6, r7, r8⟩ := h
  have hw : GR (fun i => zWv I wr (I 74 i) (100 * k + 3 + i)) (fun i => zWv I wr (I 75 i) (100 * k + 13 + i)) (fun i => zWv I wr (I 76 i) (100 * k + 21 + i)) (fun i => zWv I wr (I 77 i) (100 * k + 29 + i)) (fun i => zWv I wr (I 78 i) (100 * k + 39 + i)) (fun i => zWv I wr (I 79 i) (100 * k + 49 + i)) (fun i => zWv I wr (I 80 i) (100 * k + 57 + i)) (fun i => zWv I wr (I 81 i) (100 * k + 65 + i)) (zWv I wr (I 73 5) (100 * k)) (zWv I wr (I 73 6) (100 * k + 1)) (zWv I wr (I 73 10) (100 * k + 2)) s := by
    rcases hs with ⟨rfl, hs⟩ | ⟨rfl, hs⟩
    · exact hs
    · exact hs
  obtain ⟨g0, g1, g2, g3, g4, g5, g6, g7, g8, g9, ga⟩ := hw
  exact ⟨⟨fun i hi => (r1 i hi).1.trans (g0 i hi), fun i hi => (r2 i hi).1.trans (g1 i hi), fun i hi => (r3 i hi).1.trans (g2 i hi), fun i hi => (r4 i hi).1.trans (g3 i hi), fun i hi => (r5 i hi).1.trans (g4 i hi), fun i hi => (r6 i hi).1.trans (g5 i hi), fun i hi => (r7 i hi).1.trans (g6 i hi), fun i hi => (r8 i hi).1.trans (g7 i hi), h5.1.trans g8, h6.1.trans g9, h10.1.trans ga⟩, ⟨fun i hi => (r1 i hi).2.trans (g0 i hi), fun i hi => (r2 i hi).2.trans (g1 i hi), fun i hi => (r3 i hi).2.trans (g2 i hi), fun i hi => (r4 i hi).2.trans (g3 i hi), fun i hi => (r5 i hi).2.trans (g4 i hi), fun i hi => (r6 i hi).2.trans (g5 i hi), fun i hi => (r7 i hi).2.trans (g6 i hi), fun i hi => (r8 i hi).2.trans (g7 i hi), h5.2.trans g8, h6.2.trans g9, h10.2.trans ga⟩⟩
theorem GK_pt {I J : zI} {s : zA} {j : Nat} (h : GK j I s) (h1 : ∀ q, 100 * j ≤ q → q < 100 * j + 73 → J 94 q = I 94 q) : GK j J s := by
  obtain ⟨g0, g1, g2, g3, g4, g5, g6, g7, g8, g9, ga⟩ := h
  exact ⟨fun i hi => (h1 _ (by omega) (by omega)).trans (g0 i hi), fun i hi => (h1 _ (by omega) (by omega)).trans (g1 i hi), fun i hi => (h1 _ (by omega) (by omega)).trans (g2 i hi), fun i hi => (h1 _ (by omega) (by omega)).trans (g3 i hi), fun i hi => (h1 _ (by omega) (by omega)).trans (g4 i hi), fun i hi => (h1 _ (by omega) (by omega)).trans (g5 i hi), fun i hi => (h1 _ (by omega) (by omega)).trans (g6 i hi), fun i hi => (h1 _ (by omega) (by omega)).trans (g7 i hi), (h1 _ (by omega) (by omega)).trans g8, (h1 _ (by omega) (by omega)).trans g9, (h1 _ (by omega) (by omega)).trans ga⟩
/-- the class's copies into an image, and out of it -/
theorem zimgC {I : zI} {s : zA} (h : GC 2 I s) {k : Nat} (hk : k < 2) : ∃ I1, (if zN k = (0 : Int32) then Ga_copyFrom_13_2 I else Ga_copyFrom_24_2 I) = some I1 ∧ GC (13 + 11 * k) I1 s ∧ (∀ b, b < 13 + 11 * k ∨ 23 + 11 * k < b → I1 b = I b) := by
  rcases (show k = 0 ∨ k = 1 by omega) with rfl | rfl
  · obtain ⟨I1, e1, e2, e3⟩ := zcopy_13_2 h
    exact ⟨I1, by rw [if_pos (by decide)]; exact e1, e2, fun b hb => e3 b (by omega) (by omega) (by omega) (by omega) (by omega) (by omega)⟩
  · obtain ⟨I1, e1, e2, e3⟩ := zcopy_24_2 h
    exact ⟨I1, by rw [if_neg (by decide)]; exact e1, e2, fun b hb => e3 b (by omega) (by omega) (by omega) (by omega) (by omega) (by omega)⟩
theorem zimgR {I : zI} {s : zA} {k : Nat} (hk : k < 2) (h : GC (13 + 11 * k) I s) : ∃ I1, (if zN k = (0 : Int32) then Ga_copyFrom_2_13 I else Ga_copyFrom_2_24 I) = some I1 ∧ GC 2 I1 s ∧ BFr I I1 := by
  rcases (show k = 0 ∨ k = 1 by omega) with rfl | rfl
  · obtain ⟨I1, e1, e2, e3⟩ := zcopy_2_13 h
    exact ⟨I1, by rw [if_pos (by decide)]; exact e1, e2, fun b hb => e3 b (by omega) (by omega) (by omega) (by omega) (by omega) (by omega)⟩
  · obtain ⟨I1, e1, e2, e3⟩ := zcopy_2_24 h
    exact ⟨I1, by rw [if_neg (by decide)]; exact e1, e2, fun b hb => e3 b (by omega) (by omega) (by omega) (by omega) (by omega) (by omega)⟩
theorem c_image {I : zI} (h : Rel I) {n : Nat} (hn : 5000 < n) (a0 : Int32) : CO (BM_image a0 I) (Mo_image n a0) := by
  rcases zW_c 0 1 a0 (by decide) (by decide) with ⟨k, -, hk, rfl, ea⟩ | ⟨ea, -⟩
  · obtain ⟨⟨s, hc, hm, v⟩, ⟨cnt, sg, hp⟩, ⟨w, w1, w2, w3⟩, ht⟩ := h
    obtain ⟨I1, c1, c2, c3⟩ := zimgC hc (show k < 2 by omega)
    have hw10 : I1 1 10 = zN w := by rw [c3 1 (by omega), w2]
    -- the class, behind
    have fA : ∀ b, b ≠ 1 → zUp I1 1 10 (zN (w ||| 1 <<< k)) b = I1 b := fun b b1 => zUp_ne b1
    have hm1 : GM (zUp I1 1 10 (zN (w ||| 1 <<< k))) s := GM_fr hm (fun b b1 b2 => by rw [fA b (by omega), c3 b (by omega)]) (by rw [fA 73 (by decide), c3 73 (by omega)]) (by rw [fA 73 (by decide), c3 73 (by omega)]) (by rw [fA 73 (by decide), c3 73 (by omega)])
    have h31 : zUp (zUp (zUp I1 1 10 (zN (w ||| 1 <<< k))) 73 30 (zN (100 * k))) 73 31 1 73 31 = zB true := by rw [zUp_eq]; rfl
    have h30 : zUp (zUp (zUp I1 1 10 (zN (w ||| 1 <<< k))) 73 30 (zN (100 * k))) 73 31 1 73 30 = zN (100 * k) := by rw [zUp_nj (by decide), zUp_eq]
    have hm2 : GM (zUp (zUp (zUp I1 1 10 (zN (w ||| 1 <<< k))) 73 30 (zN (100 * k))) 73 31 1) s := GM_fr hm1 (fun b b1 b2 => by rw [zUp_ne (by omega), zUp_ne (by omega)]) (by rw [zUp_nj (by decide), zUp_nj (by decide)]) (by rw [zUp_nj (by decide), zUp_nj (by decide)]) (by rw [zUp_nj (by decide), zUp_nj (by decide)])
    have f2 : ∀ b, b ≠ 73 → b ≠ 1 → zUp (zUp (zUp I1 1 10 (zN (w ||| 1 <<< k))) 73 30 (zN (100 * k))) 73 31 1 b = I1 b := fun b b1 b2 => by rw [zUp_ne b1, zUp_ne b1, zUp_ne b2]
    have f2s : ∀ i, i ≠ 30 → i ≠ 31 → zUp (zUp (zUp I1 1 10 (zN (w ||| 1 <<< k))) 73 30 (zN (100 * k))) 73 31 1 73 i = I1 73 i := fun i i1 i2 => by rw [zUp_nj i2, zUp_nj i1, zUp_ne (by decide)]
    have f21 : zUp (zUp (zUp I1 1 10 (zN (w ||| 1 <<< k))) 73 30 (zN (100 * k))) 73 31 1 1 10 = zN (w ||| 1 <<< k) := by rw [zUp_ne (by decide), zUp_ne (by decide), zUp_eq]
    obtain ⟨J, j1, j2⟩ := zpassAll h31 h30 (show 100 * k + 73 ≤ 200 by omega) (n := n) (by omega)
    obtain ⟨gJ, kJ⟩ := zAll_GR j2 (Or.inl ⟨rfl, hm2⟩)
    obtain ⟨p1, p2, p3, p4, p5, -⟩ := j2
    have hbit : ∀ j, j < 2 → (w ||| 1 <<< k).testBit j = if j = k then true else w.testBit j := by
      intro j hj
      rw [Nat.testBit_or, z1_bit]
      by_cases q : j = k
      · rw [if_pos q, decide_eq_true q.symm]
        cases w.testBit j <;> rfl
      · rw [if_neg q, decide_eq_false (fun z => q z.symm)]
        cases w.testBit j <;> rfl
    refine ⟨1, zUp I1 1 10 (zN (w ||| 1 <<< k)), zUp J 95 k 1, ?_, ?_, ⟨s, GC_fr hc (fun b b1 b2 => by rw [zUp_ne (by omega), p1 b (by omega), f2 b (by omega) (by omega), c3 b (by omega)]), GM_fr gJ (fun b b1 b2 => zUp_ne (by omega)) (by rw [zUp_ne (by decide)]) (by rw [zUp_ne (by decide)]) (by rw [zUp_ne (by decide)]), v⟩, ⟨cnt, sg, hp.1, ?_, ?_, fun i hi => ?_⟩, ⟨w ||| 1 <<< k, Nat.or_lt_two_pow (n := 2) w1 (z1_lt (by omega)), ?_, fun j hj => ⟨?_, fun hb => ?_⟩⟩, fun i hi => ?_⟩
    · unfold BM_image
      rw [zbi_0_1, ea, Option.bind_some, if_neg (by decide)]
      rcases (show k = 0 ∨ k = 1 by omega) with rfl | rfl
      · rw [if_pos (by decide)] at c1 ⊢
        rw [c1, Option.bind_some, hw10, zl_1, zN_shl 1 (by omega), zN_or]
      · rw [if_neg (by decide)] at c1 ⊢
        rw [c1, Option.bind_some, hw10, zl_1, zN_shl 1 (by omega), zN_or]
    · unfold Mo_image
      rw [zmi_0_1, ea, Option.bind_some, if_neg (by decide), zl_100, zN_mul, j1, Option.bind_some, if_pos ⟨(zN_in (by omega)).mpr (by omega), Or.inr rfl⟩, zN_tn (by omega)]
    · rw [zUp_ne (by decide), p1 35 (by decide), f2 35 (by decide) (by decide), c3 35 (by omega)]
      exact hp.2.1
    · rw [zUp_ne (by decide), p4 12 (by decide) (by decide) (by decide) (by decide), f2s 12 (by decide) (by decide), c3 73 (by omega)]
      exact hp.2.2.1
    · rw [zUp_ne (by decide), zUp_ne (by decide), p1 37 (by decide), f2 37 (by decide) (by decide), c3 37 (by omega), p2, f2 82 (by decide) (by decide), c3 82 (by omega)]
      exact hp.2.2.2 i hi
    · rw [zUp_ne (by decide), p1 1 (by decide), f21]
    · rw [zUp_at, hbit j hj]
      by_cases q : j = k
      · rw [if_pos q, if_pos q]
        rfl
      · rw [if_neg q, if_neg q, p3, f2 95 (by decide) (by decide), c3 95 (by omega)]
        exact (w3 j hj).1
    · rw [hbit j hj] at hb
      by_cases q : j = k
      · subst q
        exact ⟨s, GC_fr c2 (fun b b1 b2 => by rw [zUp_ne (by omega), p1 b (by omega), f2 b (by omega) (by omega)]), GK_fr kJ (zUp_ne (by decide)), v⟩
      · rw [if_neg q] at hb
        obtain ⟨t, t1, t2, t3⟩ := (w3 j hj).2 hb
        refine ⟨t, GC_fr t1 (fun b b1 b2 => by rw [zUp_ne (by omega), p1 b (by omega), f2 b (by omega) (by omega), c3 b (by omega)]), GK_fr (GK_pt t2 (fun q q1 q2 => ?_)) (I := J) (zUp_ne (by decide)), t3⟩
        rw [p5 q (by omega), f2 94 (by decide) (by decide), c3 94 (by omega)]
    · rw [zUp_ne (by decide), p1 72 (by decide), f2 72 (by decide) (by decide), c3 72 (by omega)]
      exact ht i hi
  · refine CO_bad h (r := -2) ?_ ?_
    · unfold BM_image
      rw [zbi_0_1, ea, Option.bind_some, if_pos (by decide)]
    · unfold Mo_image
      rw [zmi_0_1, ea, Option.bind_some, if_pos (by decide)]
theorem c_restore {I : zI} (h : Rel I) {n : Nat} (hn : 5000 < n) (a0 : Int32) : CO (BM_restore a0 I) (Mo_restore n a0) := by
  rcases zW_c 0 1 a0 (by decide) (by decide) with ⟨k, -, hk, rfl, ea⟩ | ⟨ea, -⟩
  · obtain ⟨⟨s, hc, hm, v⟩, ⟨cnt, sg, hp⟩, ⟨w, w1, w2, w3⟩, ht⟩ := id h
    obtain ⟨u1, u2⟩ := w3 k (by omega)
    have ik := (zN_in (show k < 2147483648 by omega) (n := 2)).mpr (by omega)
    cases hb : w.testBit k
    · rw [hb] at u1
      refine CO_bad h (r := -3) ?_ ?_
      · unfold BM_restore
        rw [zbi_0_1, ea, Option.bind_some, if_neg (by decide), w2, zbHas I (by omega) (by omega), hb, Option.bind_some, if_pos (by decide)]
      · unfold Mo_restore
        rw [zmi_0_1, ea, Option.bind_some, if_neg (by decide), if_pos ik, zN_tn (by omega), u1, if_pos (by decide)]
    · rw [hb] at u1
      obtain ⟨t, t1, t2, t3⟩ := u2 hb
      obtain ⟨I1, c1, c2, c3⟩ := zimgR (show k < 2 by omega) t1
      have h31 : zUp (zUp I1 73 30 (zN (100 * k))) 73 31 0 73 31 = zB false := by rw [zUp_eq]; rfl
      have h30 : zUp (zUp I1 73 30 (zN (100 * k))) 73 31 0 73 30 = zN (100 * k) := by rw [zUp_nj (by decide), zUp_eq]
      have f2 : ∀ b, b ≠ 73 → zUp (zUp I1 73 30 (zN (100 * k))) 73 31 0 b = I1 b := fun b b1 => by rw [zUp_ne b1, zUp_ne b1]
      have f2s : ∀ i, i ≠ 30 → i ≠ 31 → zUp (zUp I1 73 30 (zN (100 * k))) 73 31 0 73 i = I1 73 i := fun i i1 i2 => by rw [zUp_nj i2, zUp_nj i1]
      have t2' : GK k (zUp (zUp I1 73 30 (zN (100 * k))) 73 31 0) t := GK_fr t2 (by rw [f2 94 (by decide), c3 94 (by omega)])
      obtain ⟨J, j1, j2⟩ := zpassAll h31 h30 (show 100 * k + 73 ≤ 200 by omega) (n := n) (by omega)
      obtain ⟨gJ, kJ⟩ := zAll_GR j2 (Or.inr ⟨rfl, t2'⟩)
      obtain ⟨p1, p2, p3, p4, p5, -⟩ := j2
      refine ⟨1, I1, J, ?_, ?_, ⟨t, GC_fr c2 (fun b b1 b2 => by rw [p1 b (by omega), f2 b (by omega)]), gJ, t3⟩, ⟨cnt, sg, hp.1, ?_, ?_, fun i hi => ?_⟩, ⟨w, w1, ?_, fun j hj => ⟨?_, fun hb2 => ?_⟩⟩, fun i hi => ?_⟩
      · unfold BM_restore
        rw [zbi_0_1, ea, Option.bind_some, if_neg (by decide), w2, zbHas I (by omega) (by omega), hb, Option.bind_some, if_neg (by decide)]
        rcases (show k = 0 ∨ k = 1 by omega) with rfl | rfl
        · rw [if_pos (by decide)] at c1 ⊢
          rw [c1, Option.bind_some]
        · rw [if_neg (by decide)] at c1 ⊢
          rw [c1, Option.bind_some]
      · unfold Mo_restore
        rw [zmi_0_1, ea, Option.bind_some, if_neg (by decide), if_pos ik, zN_tn (by omega), c3 95 (by omega), u1, if_neg (by decide), zl_100, zN_mul, j1, Option.bind_some]
      · rw [p1 35 (by decide), f2 35 (by decide), c3 35 (by omega)]
        exact hp.2.1
      · rw [p4 12 (by decide) (by decide) (by decide) (by decide), f2s 12 (by decide) (by decide), c3 73 (by omega)]
        exact hp.2.2.1
      · rw [p1 37 (by decide), f2 37 (by decide), c3 37 (by omega), p2, f2 82 (by decide), c3 82 (by omega)]
        exact hp.2.2.2 i hi
      · rw [p1 1 (by decide), f2 1 (by decide), c3 1 (by omega), w2]
      · rw [p3, f2 95 (by decide), c3 95 (by omega)]
        exact (w3 j hj).1
      · by_cases q : j = k
        · subst q
          exact ⟨t, GC_fr t1 (fun b b1 b2 => by rw [p1 b (by omega), f2 b (by omega), c3 b (by omega)]), kJ, t3⟩
        · obtain ⟨y, y1, y2, y3⟩ := (w3 j hj).2 hb2
          refine ⟨y, GC_fr y1 (fun b b1 b2 => by rw [p1 b (by omega), f2 b (by omega), c3 b (by omega)]), GK_pt y2 (fun q q1 q2 => ?_), y3⟩
          rw [p5 q (by omega), f2 94 (by decide), c3 94 (by omega)]
      · rw [p1 72 (by decide), f2 72 (by decide), c3 72 (by omega)]
        exact ht i hi
  · refine CO_bad h (r := -2) ?_ ?_
    · unfold BM_restore
      rw [zbi_0_1, ea, Option.bind_some, if_pos (by decide)]
    · unfold Mo_restore
      rw [zmi_0_1, ea, Option.bind_some, if_pos (by decide)]
/-! what is told -/
theorem zB_i0 {α : Type} {c : Prop} [Decidable c] (x y : α) : (if zB (decide c) = (0 : Int32) then x else y) = if c then y else x := by
  by_cases h : c
  · rw [decide_eq_true h, if_neg (by decide), if_pos h]
  · rw [decide_eq_false h, if_pos (by decide), if_neg h]
theorem zW_no {lo hi : Nat} {x : Int32} (hl : lo < 2147483648) (hh : hi < 2147483648) (h : ∀ k, lo ≤ k → k ≤ hi → x ≠ zN k) : zW lo hi x = zB false := by
  rcases zW_c lo hi x hl hh with ⟨k, h1, h2, h3, -⟩ | ⟨h1, -⟩
  · exact absurd h3 (h k h1 h2)
  · exact h1
theorem zW_nosub {hi d : Nat} {x : Int32} (hh : hi < 2147483648) (h : ∀ k, k ≤ hi → x ≠ zN (d + k)) : zW 0 hi (x - zN d) = zB false := by
  refine zW_no (by decide) hh (fun k _ h2 e => h k h2 ?_)
  rw [← zN_add, ← e, Int32.add_comm, Int32.sub_add_cancel]
theorem c_told {I : zI} (h : Rel I) {n : Nat} (hn : 5000 < n) (a0 : Int32) : ∃ r, BM_told n a0 I = some r ∧ Mo_told n a0 I = some r := by
  rcases zW_c 0 111 a0 (by decide) (by decide) with ⟨w, -, hw, rfl, -⟩ | ⟨-, hno⟩
  · obtain ⟨⟨s, hc, hm, v⟩, ⟨cnt, sg, hp⟩, -, -⟩ := h
    have ew : ∀ k : Nat, k < 200 → ((zN w = zN k) ↔ w = k) := fun k hk => zN_inj (by omega) (by omega)
    have tw : zRem (zN w) (zN 10) = zN (w % 10) := zN_rem (by omega) (by decide)
    by_cases h4 : w < 4
    · rcases (show w = 0 ∨ w = 1 ∨ w = 2 ∨ w = 3 by omega) with rfl | rfl | rfl | rfl
      · refine ⟨zN cnt, ?_, ?_⟩
        · unfold BM_told
          rw [if_pos (by decide), hp.2.1]
        · unfold Mo_told Mo_ofAll
          rw [zmi_100_111, zW_N (by decide) (by decide) (by decide), Option.bind_some, if_pos (by decide), zmi_10_39, zW_N (by decide) (by decide) (by decide), Option.bind_some, if_pos (by decide), zmi_40_59, zW_N (by decide) (by decide) (by decide), Option.bind_some, if_pos (by decide), if_pos (by decide), Option.bind_some, hp.2.2.1]
      · refine ⟨zN (s 5 0), ?_, ?_⟩
        · unfold BM_told
          rw [if_neg (by decide), if_pos (by decide), gc2_cu hc]
        · unfold Mo_told Mo_ofAll
          rw [zmi_100_111, zW_N (by decide) (by decide) (by decide), Option.bind_some, if_pos (by decide), zmi_10_39, zW_N (by decide) (by decide) (by decide), Option.bind_some, if_pos (by decide), zmi_40_59, zW_N (by decide) (by decide) (by decide), Option.bind_some, if_pos (by decide), if_neg (by decide), if_pos (by decide), Option.bind_some, gm_cu hm]
      · refine ⟨zN (s 5 1), ?_, ?_⟩
        · unfold BM_told
          rw [if_neg (by decide), if_neg (by decide), if_pos (by decide), gc2_day hc]
        · unfold Mo_told Mo_ofAll
          rw [zmi_100_111, zW_N (by decide) (by decide) (by decide), Option.bind_some, if_pos (by decide), zmi_10_39, zW_N (by decide) (by decide) (by decide), Option.bind_some, if_pos (by decide), zmi_40_59, zW_N (by decide) (by decide) (by decide), Option.bind_some, if_pos (by decide), if_neg (by decide), if_neg (by decide), if_pos (by decide), Option.bind_some, gm_day hm]
      · refine ⟨zN (s 5 2), ?_, ?_⟩
        · unfold BM_told
          rw [if_neg (by decide), if_neg (by decide), if_neg (by decide), if_pos (by decide), gc2_cnt hc]
        · unfold Mo_told Mo_ofAll
          rw [zmi_100_111, zW_N (by decide) (by decide) (by decide), Option.bind_some, if_pos (by decide), zmi_10_39, zW_N (by decide) (by decide) (by decide), Option.bind_some, if_pos (by decide), zmi_40_59, zW_N (by decide) (by decide) (by decide), Option.bind_some, if_pos (by decide), if_neg (by decide), if_neg (by decide), if_neg (by decide), if_pos (by decide), Option.bind_some, gm_cnt hm]
    · by_cases h10 : 10 ≤ w ∧ w ≤ 39
      · have m10 := Nat.mod_lt w (show 0 < 10 by decide)
        have i10 := (zN_in (show w % 10 < 2147483648 by omega) (n := 10)).mpr m10
        by_cases h1 : w ≤ 19
        · have e : w - 10 = w % 10 := by omega
          refine ⟨zN (s 0 (w % 10)), ?_, ?_⟩
          · unfold BM_told BM_toldOfOne
            simp only [zbBench, zbOne, zbMem, Option.bind_some, zl_10, zl_20, zl_30, zl_40, zl_50, zl_100, zl_1, zl_2, zl_3]
            rw [zW_sub (d := 10) (by decide) (by decide) (by omega) (by decide), zW_sub (d := 20) (by decide) (by decide) (by omega) (by decide), zW_sub (d := 30) (by decide) (by decide) (by omega) (by decide), zW_sub (d := 40) (by decide) (by decide) (by omega) (by decide), zW_sub (d := 50) (by decide) (by decide) (by omega) (by decide), zW_sub (d := 100) (by decide) (by decide) (by omega) (by decide)]
            simp only [zB_i0]
            rw [if_neg (show ¬ (zN w = 0) by rw [zl_0, ew 0 (by decide)]; omega), if_neg (show ¬ (zN w = zN 1) by rw [ew 1 (by decide)]; omega), if_neg (show ¬ (zN w = zN 2) by rw [ew 2 (by decide)]; omega), if_neg (show ¬ (zN w = zN 3) by rw [ew 3 (by decide)]; omega)]
            rw [if_pos (show 10 + 0 ≤ w ∧ w ≤ 10 + 9 by omega)]
            unfold Ga_waysFrom_2
            rw [zN_sub (by omega), e, zat_3 I m10, Option.bind_some, Option.bind_some, Option.bind_some, gc2_0 hc m10]
          · unfold Mo_told
            simp only [zmi_100_111, zmi_10_39, zmi_40_59, Option.bind_some]
            rw [zW_N (by decide) (by decide) (by omega), zW_N (by decide) (by decide) (by omega), zW_N (by decide) (by decide) (by omega)]
            simp only [zB_i0]
            rw [if_neg (show ¬ (100 ≤ w ∧ w ≤ 111) by omega), if_pos h10]
            unfold Mo_ofBenches
            simp only [zl_10, zl_20, zl_30, tw, zN_tn (show w % 10 < 2147483648 by omega)]
            rw [if_neg (by rw [zN_le (by decide) (by omega)]; omega), if_pos i10, Option.bind_some, gm_w hm m10]
        · by_cases h2 : w ≤ 29
          · have e : w - 20 = w % 10 := by omega
            refine ⟨zE (s 3 (10 + w % 10)), ?_, ?_⟩
            · unfold BM_told BM_toldOfOne
              simp only [zbBench, zbOne, zbMem, Option.bind_some, zl_10, zl_20, zl_30, zl_40, zl_50, zl_100, zl_1, zl_2, zl_3]
              rw [zW_sub (d := 10) (by decide) (by decide) (by omega) (by decide), zW_sub (d := 20) (by decide) (by decide) (by omega) (by decide), zW_sub (d := 30) (by decide) (by decide) (by omega) (by decide), zW_sub (d := 40) (by decide) (by decide) (by omega) (by decide), zW_sub (d := 50) (by decide) (by decide) (by omega) (by decide), zW_sub (d := 100) (by decide) (by decide) (by omega) (by decide)]
              simp only [zB_i0]
              rw [if_neg (show ¬ (zN w = 0) by rw [zl_0, ew 0 (by decide)]; omega), if_neg (show ¬ (zN w = zN 1) by rw [ew 1 (by decide)]; omega), if_neg (show ¬ (zN w = zN 2) by rw [ew 2 (by decide)]; omega), if_neg (show ¬ (zN w = zN 3) by rw [ew 3 (by decide)]; omega)]
              rw [if_neg (show ¬ (10 + 0 ≤ w ∧ w ≤ 10 + 9) by omega), if_pos (show 20 + 0 ≤ w ∧ w ≤ 20 + 9 by omega)]
              unfold Ga_lyingOn_2
              rw [zN_sub (by omega), e, zl_10, zN_add, zma2 hc v (by omega) (by omega), Option.bind_some, Option.bind_some, Option.bind_some]
            · unfold Mo_told
              simp only [zmi_100_111, zmi_10_39, zmi_40_59, Option.bind_some]
              rw [zW_N (by decide) (by decide) (by omega), zW_N (by decide) (by decide) (by omega), zW_N (by decide) (by decide) (by omega)]
              simp only [zB_i0]
              rw [if_neg (show ¬ (100 ≤ w ∧ w ≤ 111) by omega), if_pos h10]
              unfold Mo_ofBenches
              simp only [zl_10, zl_20, zl_30, tw, zN_tn (show w % 10 < 2147483648 by omega)]
              rw [if_pos ((zN_le (by decide) (by omega)).mpr (by omega)), if_neg (by rw [zN_le (by decide) (by omega)]; omega), if_pos i10, Option.bind_some, gm_t hm m10]
          · have e : w - 30 = w % 10 := by omega
            have ho := zPl_o (vs_pl v) (show 10 + w % 10 < 20 by omega)
            refine ⟨if s 3 (10 + w % 10) < 100 then zN (s 4 (s 3 (10 + w % 10))) else -(zN 6), ?_, ?_⟩
            · unfold BM_told BM_toldOfOne
              simp only [zbBench, zbOne, zbMem, Option.bind_some, zl_10, zl_20, zl_30, zl_40, zl_50, zl_100, zl_1, zl_2, zl_3]
              rw [zW_sub (d := 10) (by decide) (by decide) (by omega) (by decide), zW_sub (d := 20) (by decide) (by decide) (by omega) (by decide), zW_sub (d := 30) (by decide) (by decide) (by omega) (by decide), zW_sub (d := 40) (by decide) (by decide) (by omega) (by decide), zW_sub (d := 50) (by decide) (by decide) (by omega) (by decide), zW_sub (d := 100) (by decide) (by decide) (by omega) (by decide)]
              simp only [zB_i0]
              rw [if_neg (show ¬ (zN w = 0) by rw [zl_0, ew 0 (by decide)]; omega), if_neg (show ¬ (zN w = zN 1) by rw [ew 1 (by decide)]; omega), if_neg (show ¬ (zN w = zN 2) by rw [ew 2 (by decide)]; omega), if_neg (show ¬ (zN w = zN 3) by rw [ew 3 (by decide)]; omega)]
              rw [if_neg (show ¬ (10 + 0 ≤ w ∧ w ≤ 10 + 9) by omega), if_neg (show ¬ (20 + 0 ≤ w ∧ w ≤ 20 + 9) by omega), if_pos (show 30 + 0 ≤ w ∧ w ≤ 30 + 9 by omega)]
              unfold Ga_freshOn_2 Ga_lyingOn_2
              rw [zN_sub (by omega), e, zl_10, zN_add, zma2 hc v (by omega) (by omega), Option.bind_some, Option.bind_some, zl_6]
              by_cases q : s 3 (10 + w % 10) < 100
              · rw [if_neg (by rw [zE_none]; omega), if_pos q, zE_lt q, zat_9 I (by omega), Option.bind_some, gc2_4 hc (by omega)]
                rfl
              · rw [if_pos ((zE_none _).mpr (by omega)), if_neg q]
                rfl
            · unfold Mo_told
              simp only [zmi_100_111, zmi_10_39, zmi_40_59, Option.bind_some]
              rw [zW_N (by decide) (by decide) (by omega), zW_N (by decide) (by decide) (by omega), zW_N (by decide) (by decide) (by omega)]
              simp only [zB_i0]
              rw [if_neg (show ¬ (100 ≤ w ∧ w ≤ 111) by omega), if_pos h10]
              unfold Mo_ofBenches
              simp only [zl_10, zl_20, zl_30, tw, zN_tn (show w % 10 < 2147483648 by omega)]
              rw [if_pos ((zN_le (by decide) (by omega)).mpr (by omega)), if_pos ((zN_le (by decide) (by omega)).mpr (by omega)), if_pos i10, Option.bind_some, gm_f hm m10]
      · by_cases h40 : 40 ≤ w ∧ w ≤ 59
        · have m10 := Nat.mod_lt w (show 0 < 10 by decide)
          by_cases h1 : w ≤ 47
          · have e : w - 40 = w % 10 := by omega
            have i8 := (zN_in (show w % 10 < 2147483648 by omega) (n := 8)).mpr (by omega)
            refine ⟨zN (s 1 (w % 10)), ?_, ?_⟩
            · unfold BM_told BM_toldOfOne
              simp only [zbBench, zbOne, zbMem, Option.bind_some, zl_10, zl_20, zl_30, zl_40, zl_50, zl_100, zl_1, zl_2, zl_3]
              rw [zW_sub (d := 10) (by decide) (by decide) (by omega) (by decide), zW_sub (d := 20) (by decide) (by decide) (by omega) (by decide), zW_sub (d := 30) (by decide) (by decide) (by omega) (by decide), zW_sub (d := 40) (by decide) (by decide) (by omega) (by decide), zW_sub (d := 50) (by decide) (by decide) (by omega) (by decide), zW_sub (d := 100) (by decide) (by decide) (by omega) (by decide)]
              simp only [zB_i0]
              rw [if_neg (show ¬ (zN w = 0) by rw [zl_0, ew 0 (by decide)]; omega), if_neg (show ¬ (zN w = zN 1) by rw [ew 1 (by decide)]; omega), if_neg (show ¬ (zN w = zN 2) by rw [ew 2 (by decide)]; omega), if_neg (show ¬ (zN w = zN 3) by rw [ew 3 (by decide)]; omega)]
              rw [if_neg (show ¬ (10 + 0 ≤ w ∧ w ≤ 10 + 9) by omega), if_neg (show ¬ (20 + 0 ≤ w ∧ w ≤ 20 + 9) by omega), if_neg (show ¬ (30 + 0 ≤ w ∧ w ≤ 30 + 9) by omega), if_pos (show 40 + 0 ≤ w ∧ w ≤ 40 + 7 by omega)]
              rw [zN_sub (by omega), e, zbo2 hc (by omega), Option.bind_some, Option.bind_some]
            · unfold Mo_told
              simp only [zmi_100_111, zmi_10_39, zmi_40_59, Option.bind_some]
              rw [zW_N (by decide) (by decide) (by omega), zW_N (by decide) (by decide) (by omega), zW_N (by decide) (by decide) (by omega)]
              simp only [zB_i0]
              rw [if_neg (show ¬ (100 ≤ w ∧ w ≤ 111) by omega), if_neg (show ¬ (10 ≤ w ∧ w ≤ 39) by omega), if_pos h40]
              unfold Mo_ofOnes
              simp only [zl_10, zl_50, tw, zN_tn (show w % 10 < 2147483648 by omega)]
              rw [zmOne, zW_N (by decide) (by decide) (by omega), Option.bind_some, zB_i0]
              rw [if_pos (show 0 ≤ w % 10 ∧ w % 10 ≤ 7 by omega), if_neg (by rw [zN_le (by decide) (by omega)]; omega), if_pos i8, Option.bind_some, gm_p hm (by omega)]
          · by_cases h2 : 50 ≤ w ∧ w ≤ 57
            · have e : w - 50 = w % 10 := by omega
              have i8 := (zN_in (show w % 10 < 2147483648 by omega) (n := 8)).mpr (by omega)
              refine ⟨zE (s 3 (w % 10)), ?_, ?_⟩
              · unfold BM_told BM_toldOfOne
                simp only [zbBench, zbOne, zbMem, Option.bind_some, zl_10, zl_20, zl_30, zl_40, zl_50, zl_100, zl_1, zl_2, zl_3]
                rw [zW_sub (d := 10) (by decide) (by decide) (by omega) (by decide), zW_sub (d := 20) (by decide) (by decide) (by omega) (by decide), zW_sub (d := 30) (by decide) (by decide) (by omega) (by decide), zW_sub (d := 40) (by decide) (by decide) (by omega) (by decide), zW_sub (d := 50) (by decide) (by decide) (by omega) (by decide), zW_sub (d := 100) (by decide) (by decide) (by omega) (by decide)]
                simp only [zB_i0]
                rw [if_neg (show ¬ (zN w = 0) by rw [zl_0, ew 0 (by decide)]; omega), if_neg (show ¬ (zN w = zN 1) by rw [ew 1 (by decide)]; omega), if_neg (show ¬ (zN w = zN 2) by rw [ew 2 (by decide)]; omega), if_neg (show ¬ (zN w = zN 3) by rw [ew 3 (by decide)]; omega)]
                rw [if_neg (show ¬ (10 + 0 ≤ w ∧ w ≤ 10 + 9) by omega), if_neg (show ¬ (20 + 0 ≤ w ∧ w ≤ 20 + 9) by omega), if_neg (show ¬ (30 + 0 ≤ w ∧ w ≤ 30 + 9) by omega), if_neg (show ¬ (40 + 0 ≤ w ∧ w ≤ 40 + 7) by omega), if_pos (show 50 + 0 ≤ w ∧ w ≤ 50 + 7 by omega)]
                unfold Ga_heldBy_2
                rw [zN_sub (by omega), e, zma2 hc v (by omega) (by omega), Option.bind_some, Option.bind_some, Option.bind_some]
              · unfold Mo_told
                simp only [zmi_100_111, zmi_10_39, zmi_40_59, Option.bind_some]
                rw [zW_N (by decide) (by decide) (by omega), zW_N (by decide) (by decide) (by omega), zW_N (by decide) (by decide) (by omega)]
                simp only [zB_i0]
                rw [if_neg (show ¬ (100 ≤ w ∧ w ≤ 111) by omega), if_neg (show ¬ (10 ≤ w ∧ w ≤ 39) by omega), if_pos h40]
                unfold Mo_ofOnes
                simp only [zl_10, zl_50, tw, zN_tn (show w % 10 < 2147483648 by omega)]
                rw [zmOne, zW_N (by decide) (by decide) (by omega), Option.bind_some, zB_i0]
                rw [if_pos (show 0 ≤ w % 10 ∧ w % 10 ≤ 7 by omega), if_pos ((zN_le (by decide) (by omega)).mpr (by omega)), if_pos i8, Option.bind_some, gm_h hm (by omega)]
            · refine ⟨-2, ?_, ?_⟩
              · unfold BM_told BM_toldOfOne
                simp only [zbBench, zbOne, zbMem, Option.bind_some, zl_10, zl_20, zl_30, zl_40, zl_50, zl_100, zl_1, zl_2, zl_3]
                rw [zW_sub (d := 10) (by decide) (by decide) (by omega) (by decide), zW_sub (d := 20) (by decide) (by decide) (by omega) (by decide), zW_sub (d := 30) (by decide) (by decide) (by omega) (by decide), zW_sub (d := 40) (by decide) (by decide) (by omega) (by decide), zW_sub (d := 50) (by decide) (by decide) (by omega) (by decide), zW_sub (d := 100) (by decide) (by decide) (by omega) (by decide)]
                simp only [zB_i0]
                rw [if_neg (show ¬ (zN w = 0) by rw [zl_0, ew 0 (by decide)]; omega), if_neg (show ¬ (zN w = zN 1) by rw [ew 1 (by decide)]; omega), if_neg (show ¬ (zN w = zN 2) by rw [ew 2 (by decide)]; omega), if_neg (show ¬ (zN w = zN 3) by rw [ew 3 (by decide)]; omega)]
                rw [if_neg (show ¬ (10 + 0 ≤ w ∧ w ≤ 10 + 9) by omega), if_neg (show ¬ (20 + 0 ≤ w ∧ w ≤ 20 + 9) by omega), if_neg (show ¬ (30 + 0 ≤ w ∧ w ≤ 30 + 9) by omega), if_neg (show ¬ (40 + 0 ≤ w ∧ w ≤ 40 + 7) by omega), if_neg (show ¬ (50 + 0 ≤ w ∧ w ≤ 50 + 7) by omega), if_neg (show ¬ (100 + 0 ≤ w ∧ w ≤ 100 + 11) by omega)]
                rfl
              · unfold Mo_told
                simp only [zmi_100_111, zmi_10_39, zmi_40_59, Option.bind_some]
                rw [zW_N (by decide) (by decide) (by omega), zW_N (by decide) (by decide) (by omega), zW_N (by decide) (by decide) (by omega)]
                simp only [zB_i0]
                rw [if_neg (show ¬ (100 ≤ w ∧ w ≤ 111) by omega), if_neg (show ¬ (10 ≤ w ∧ w ≤ 39) by omega), if_pos h40]
                unfold Mo_ofOnes
                simp only [zl_10, zl_50, tw, zN_tn (show w % 10 < 2147483648 by omega)]
                rw [zmOne, zW_N (by decide) (by decide) (by omega), Option.bind_some, zB_i0]
                rw [if_neg (show ¬ (0 ≤ w % 10 ∧ w % 10 ≤ 7) by omega), Option.bind_some]
        · by_cases h100 : 100 ≤ w ∧ w ≤ 111
          · refine ⟨zE (s 2 (w - 100)), ?_, ?_⟩
            · unfold BM_told BM_toldOfOne
              simp only [zbBench, zbOne, zbMem, Option.bind_some, zl_10, zl_20, zl_30, zl_40, zl_50, zl_100, zl_1, zl_2, zl_3]
              rw [zW_sub (d := 10) (by decide) (by decide) (by omega) (by decide), zW_sub (d := 20) (by decide) (by decide) (by omega) (by decide), zW_sub (d := 30) (by decide) (by decide) (by omega) (by decide), zW_sub (d := 40) (by decide) (by decide) (by omega) (by decide), zW_sub (d := 50) (by decide) (by decide) (by omega) (by decide), zW_sub (d := 100) (by decide) (by decide) (by omega) (by decide)]
              simp only [zB_i0]
              rw [if_neg (show ¬ (zN w = 0) by rw [zl_0, ew 0 (by decide)]; omega), if_neg (show ¬ (zN w = zN 1) by rw [ew 1 (by decide)]; omega), if_neg (show ¬ (zN w = zN 2) by rw [ew 2 (by decide)]; omega), if_neg (show ¬ (zN w = zN 3) by rw [ew 3 (by decide)]; omega)]
              rw [if_neg (show ¬ (10 + 0 ≤ w ∧ w ≤ 10 + 9) by omega), if_neg (show ¬ (20 + 0 ≤ w ∧ w ≤ 20 + 9) by omega), if_neg (show ¬ (30 + 0 ≤ w ∧ w ≤ 30 + 9) by omega), if_neg (show ¬ (40 + 0 ≤ w ∧ w ≤ 40 + 7) by omega), if_neg (show ¬ (50 + 0 ≤ w ∧ w ≤ 50 + 7) by omega), if_pos (show 100 + 0 ≤ w ∧ w ≤ 100 + 11 by omega)]
              unfold Ga_placeOf_2
              rw [zN_sub h100.1, zat_7 I (by omega), Option.bind_some, Option.bind_some, Option.bind_some, gc2_2 hc (by omega)]
            · unfold Mo_told
              simp only [zmi_100_111, zmi_10_39, zmi_40_59, Option.bind_some]
              rw [zW_N (by decide) (by decide) (by omega), zW_N (by decide) (by decide) (by omega), zW_N (by decide) (by decide) (by omega)]
              simp only [zB_i0]
              rw [if_pos h100, zl_100, zN_sub h100.1, zwhere (vs_pl v) (fun k hk => gm_h hm hk) (fun k hk => gm_t hm hk) (by omega) (by omega), Option.bind_some]
          · refine ⟨-2, ?_, ?_⟩
            · unfold BM_told BM_toldOfOne
              simp only [zbBench, zbOne, zbMem, Option.bind_some, zl_10, zl_20, zl_30, zl_40, zl_50, zl_100, zl_1, zl_2, zl_3]
              rw [zW_sub (d := 10) (by decide) (by decide) (by omega) (by decide), zW_sub (d := 20) (by decide) (by decide) (by omega) (by decide), zW_sub (d := 30) (by decide) (by decide) (by omega) (by decide), zW_sub (d := 40) (by decide) (by decide) (by omega) (by decide), zW_sub (d := 50) (by decide) (by decide) (by omega) (by decide), zW_sub (d := 100) (by decide) (by decide) (by omega) (by decide)]
              simp only [zB_i0]
              rw [if_neg (show ¬ (zN w = 0) by rw [zl_0, ew 0 (by decide)]; omega), if_neg (show ¬ (zN w = zN 1) by rw [ew 1 (by decide)]; omega), if_neg (show ¬ (zN w = zN 2) by rw [ew 2 (by decide)]; omega), if_neg (show ¬ (zN w = zN 3) by rw [ew 3 (by decide)]; omega)]
              rw [if_neg (show ¬ (10 + 0 ≤ w ∧ w ≤ 10 + 9) by omega), if_neg (show ¬ (20 + 0 ≤ w ∧ w ≤ 20 + 9) by omega), if_neg (show ¬ (30 + 0 ≤ w ∧ w ≤ 30 + 9) by omega), if_neg (show ¬ (40 + 0 ≤ w ∧ w ≤ 40 + 7) by omega), if_neg (show ¬ (50 + 0 ≤ w ∧ w ≤ 50 + 7) by omega), if_neg (show ¬ (100 + 0 ≤ w ∧ w ≤ 100 + 11) by omega)]
              rfl
            · unfold Mo_told
              simp only [zmi_100_111, zmi_10_39, zmi_40_59, Option.bind_some]
              rw [zW_N (by decide) (by decide) (by omega), zW_N (by decide) (by decide) (by omega), zW_N (by decide) (by decide) (by omega)]
              simp only [zB_i0]
              rw [if_neg (show ¬ (100 ≤ w ∧ w ≤ 111) by omega), if_neg (show ¬ (10 ≤ w ∧ w ≤ 39) by omega), if_neg (show ¬ (40 ≤ w ∧ w ≤ 59) by omega)]
              unfold Mo_ofAll
              rw [if_neg (show ¬ (zN w = 0) by rw [zl_0, ew 0 (by decide)]; omega), if_neg (show ¬ (zN w = 1) by rw [zl_1, ew 1 (by decide)]; omega), if_neg (show ¬ (zN w = 2) by rw [zl_2, ew 2 (by decide)]; omega), if_neg (show ¬ (zN w = 3) by rw [zl_3, ew 3 (by decide)]; omega), Option.bind_some]
  · have e : ∀ k : Nat, k < 4 → ¬ (a0 = zN k) := fun k hk => hno k (by omega) (by omega)
    refine ⟨-2, ?_, ?_⟩
    · unfold BM_told BM_toldOfOne
      rw [if_neg (show ¬ (a0 = 0) from e 0 (by decide)), if_neg (show ¬ (a0 = 1) from e 1 (by decide)), if_neg (show ¬ (a0 = 2) from e 2 (by decide)), if_neg (show ¬ (a0 = 3) from e 3 (by decide)), zbBench, zl_10, zW_nosub (by decide) (fun k hk => hno _ (by omega) (by omega)), Option.bind_some, if_pos (by decide), zbBench, zl_20, zW_nosub (by decide) (fun k hk => hno _ (by omega) (by omega)), Option.bind_some, if_pos (by decide), zbBench, zl_30, zW_nosub (by decide) (fun k hk => hno _ (by omega) (by omega)), Option.bind_some, if_pos (by decide), zbOne, zl_40, zW_nosub (by decide) (fun k hk => hno _ (by omega) (by omega)), Option.bind_some, if_pos (by decide), zbOne, zl_50, zW_nosub (by decide) (fun k hk => hno _ (by omega) (by omega)), Option.bind_some, if_pos (by decide), zbMem, zl_100, zW_nosub (by decide) (fun k hk => hno _ (by omega) (by omega)), Option.bind_some, if_pos (by decide), Option.bind_some]
    · unfold Mo_told Mo_ofAll
      rw [zmi_100_111, zW_no (by decide) (by decide) (fun k h1 h2 => hno k (by omega) (by omega)), Option.bind_some, if_pos (by decide), zmi_10_39, zW_no (by decide) (by decide) (fun k h1 h2 => hno k (by omega) (by omega)), Option.bind_some, if_pos (by decide), zmi_40_59, zW_no (by decide) (by decide) (fun k h1 h2 => hno k (by omega) (by omega)), Option.bind_some, if_pos (by decide), if_neg (show ¬ (a0 = 0) from e 0 (by decide)), if_neg (show ¬ (a0 = 1) from e 1 (by decide)), if_neg (show ¬ (a0 = 2) from e 2 (by decide)), if_neg (show ¬ (a0 = 3) from e 3 (by decide)), Option.bind_some]
