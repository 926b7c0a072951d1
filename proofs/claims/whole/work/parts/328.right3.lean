/-! the call -/
theorem Rel_sc {I I1 J : zI} (h : Rel I) (h1 : CF I I1) (h2 : RF I1 J) (h3 : ∀ b, 74 ≤ b → b ≤ 81 → J b = I1 b) (h4 : ∀ i, i = 5 ∨ i = 6 ∨ i = 10 → J 73 i = I1 73 i) : Rel J := by
  obtain ⟨⟨s, hc, hm, v⟩, hr⟩ := id h
  refine Rel_back h hc v h1 h2 (GM_fr hm (fun b b1 b2 => ?_) ?_ ?_ ?_)
  · rw [h3 b b1 b2, h1 b (by omega)]
  · rw [h4 5 (by omega), h1 73 (by decide)]
  · rw [h4 6 (by omega), h1 73 (by decide)]
  · rw [h4 10 (by omega), h1 73 (by decide)]
theorem CF_64 {I I1 : zI} (h : ∀ b, b ≠ 64 → I1 b = I b) : CF I I1 := fun b hb => h b (by omega)
theorem RF_90 {I J : zI} (h : ∀ b, b ≠ 90 → J b = I b) : RF I J := ⟨fun b hb => h b (by omega), h 82 (by decide), h 94 (by decide), h 95 (by decide), by rw [h 73 (by decide)]⟩
theorem c_right {I : zI} (h : Rel I) {n : Nat} (hn : 5000 < n) (a0 a1 : Int32) : CO (BM_right n a0 a1 I) (Mo_right n a0 a1) := by
  by_cases h0 : (0 : Int32) ≤ a0
  · obtain ⟨r, hr, rfl⟩ : ∃ r, r < 2147483648 ∧ a0 = zN r := ⟨a0.toNatClampNeg, Int32.toNatClampNeg_lt a0, (Int32.ofNat_toNatClampNeg a0 h0).symm⟩
    obtain ⟨I1, e1, e2, e3⟩ := zcrdL hr 7 0 n I rfl (by omega) (fun i h1 h2 => by omega)
    rw [Nat.pow_zero, Nat.div_one] at e1
    obtain ⟨J, d1, d2, d3⟩ := zmrdL hr 7 0 n I1 rfl (by omega) (fun i h1 h2 => by omega)
    rw [Nat.pow_zero, Nat.div_one] at d1
    have hd : r / 10 ^ 7 ≤ r := Nat.div_le_self _ _
    have hmk := zMk_lt (zDg_lt r) 7
    have relI1 : Rel I1 := Rel_sc h (CF_64 e2) RF.rf (fun _ _ _ => rfl) (fun _ _ => rfl)
    have relJ : Rel J := Rel_sc h (CF_64 e2) (RF_90 d2) (fun b b1 b2 => d2 b (by omega)) (fun i _ => by rw [d2 73 (by decide)])
    have hread : Od_read n (zN r) I = some (zB (decide (r / 10 ^ 7 = 0 ∧ zMk (zDg r) 7 = 127)), I1) := by
      unfold Od_read
      rw [if_pos h0, show Od_read_L14 n (zN r) 0 6 I = _ from e1, Option.bind_some]
      show (if zN (r / 10 ^ 7) = 0 then (if zN (zMk (zDg r) 7) = 127 then some ((1 : Int32), I1) else some (0, I1)) else some (0, I1)) = _
      by_cases q1 : r / 10 ^ 7 = 0
      · rw [if_pos (by rw [q1]; rfl)]
        by_cases q2 : zMk (zDg r) 7 = 127
        · rw [if_pos (by rw [q2]; rfl), decide_eq_true ⟨q1, q2⟩]
          rfl
        · rw [if_neg (by rw [zl_127, zN_inj (by omega) (by decide)]; exact q2), decide_eq_false (fun z => q2 z.2)]
          rfl
      · rw [if_neg (by rw [zl_0, zN_inj (by omega) (by decide)]; exact q1), decide_eq_false (fun z => q1 z.1)]
        rfl
    have hread2 : Mo_readSeven n (zN r) I1 = some (zB (decide (r / 10 ^ 7 = 0 ∧ zMk (zDg r) 7 = 127)), J) := by
      unfold Mo_readSeven
      rw [show Mo_readSeven_L8 n (zN r) 0 6 I1 = _ from d1, Option.bind_some]
      show (if zN (r / 10 ^ 7) = 0 then (if zN (zMk (zDg r) 7) = 127 then some ((1 : Int32), J) else some (0, J)) else some (0, J)) = _
      by_cases q1 : r / 10 ^ 7 = 0
      · rw [if_pos (by rw [q1]; rfl)]
        by_cases q2 : zMk (zDg r) 7 = 127
        · rw [if_pos (by rw [q2]; rfl), decide_eq_true ⟨q1, q2⟩]
          rfl
        · rw [if_neg (by rw [zl_127, zN_inj (by omega) (by decide)]; exact q2), decide_eq_false (fun z => q2 z.2)]
          rfl
      · rw [if_neg (by rw [zl_0, zN_inj (by omega) (by decide)]; exact q1), decide_eq_false (fun z => q1 z.1)]
        rfl
    by_cases hg : r / 10 ^ 7 = 0 ∧ zMk (zDg r) 7 = 127
    · rw [decide_eq_true hg] at hread hread2
      have hin : zW 0 9999999 (zN r) = zB true := by
        rw [zW_N (by decide) (by decide) hr, decide_eq_true]
        have := hg.1
        rw [Nat.div_eq_zero_iff] at this
        omega
      rcases zW_c 0 1 a1 (by decide) (by decide) with ⟨w, -, hw, rfl, eb⟩ | ⟨eb, -⟩
      · obtain ⟨g1, g2⟩ := zGood hg.2
        have hf : ∀ i, i < 7 → zLf (zTb (zDg r)) i < 7 := fun i hi => by rw [zLt_i _ hi]; exact g2 i hi
        have hc64 : ∀ i, i < 7 → I1 64 i = zN (zLf (zTb (zDg r)) i) := fun i hi => by rw [zLt_i _ hi]; exact e3 i hi
        have hm90 : ∀ i, i < 7 → J 90 i = zN (zLf (zTb (zDg r)) i) := fun i hi => by rw [zLt_i _ hi]; exact d3 i hi
        unfold zPq at g1
        rw [Bool.and_eq_true, List.all_eq_true] at g1
        have hq : ∀ b, 0 < b → b < 7 → zOk (zXf (zLf (zTb (zDg r))) b) 7 0 0 = true ∧ zSn (zLf (zTb (zDg r))) ≤ zSn (zXf (zLf (zTb (zDg r))) b) + 1 := by
          intro b b1 b2
          have := g1.2 (b - 1) (List.mem_range.mpr (by omega))
          rw [Bool.and_eq_true, show b - 1 + 1 = b by omega] at this
          exact ⟨this.1, Nat.le_of_ble_eq_true this.2⟩
        rcases (show w = 0 ∨ w = 1 by omega) with rfl | rfl
        · refine ⟨zN (zSn (zLf (zTb (zDg r)))), I1, J, ?_, ?_, relJ⟩
          · unfold BM_right
            rw [hread, Option.bind_some]
            show (if zB true = 0 then some ((-2 : Int32), I1) else (BM_isWithin (zN 0) 0 1 I1).bind _) = _
            rw [if_neg (by decide), zbi_0_1, eb, Option.bind_some, if_neg (by decide), if_pos (by decide), zcsl hf hc64 (by omega), Option.bind_some]
          · unfold Mo_right
            rw [zmi_0_9999999, hin, Option.bind_some, if_neg (by decide), hread2, Option.bind_some]
            show (if zB true = 0 then some ((-2 : Int32), J) else (Mo_in (Int32.toInt64 (zN 0)) 0 1 J).bind _) = _
            rw [if_neg (by decide), zmi_0_1, eb, Option.bind_some, if_neg (by decide), zmsb hf hm90 (by omega) g1.1, Option.bind_some, if_pos (by decide)]
        · obtain ⟨I2, k1, k2⟩ := zcfb hf 6 1 n I1 rfl (by decide) (by omega) hc64
          -- the reference begins where the class has ended
          obtain ⟨J2, m1, m2, m3⟩ := zmrdL hr 7 0 n I2 rfl (by omega) (fun i h1 h2 => by omega)
          rw [Nat.pow_zero, Nat.div_one] at m1
          have hm90' : ∀ i, i < 7 → J2 90 i = zN (zLf (zTb (zDg r)) i) := fun i hi => by rw [zLt_i _ hi]; exact m3 i hi
          obtain ⟨J3, p1, p2⟩ := zmfb hf hq 6 n J2 (by decide) (by omega) hm90'
          refine ⟨zE (zFb (zLf (zTb (zDg r))) 6 1), I2, J3, ?_, ?_, Rel_sc h (fun b hb => by rw [k2 b (by omega), e2 b (by omega)]) (RF_90 (fun b b1 => (p2 b b1).trans (m2 b b1))) (fun b b1 b2 => by rw [p2 b (by omega), m2 b (by omega)]) (fun i _ => by rw [p2 73 (by decide), m2 73 (by decide)])⟩
          · unfold BM_right
            rw [hread, Option.bind_some]
            show (if zB true = 0 then some ((-2 : Int32), I1) else (BM_isWithin (zN 1) 0 1 I1).bind _) = _
            rw [if_neg (by decide), zbi_0_1, eb, Option.bind_some, if_neg (by decide), if_neg (by decide)]
            unfold Od_firstSitting
            rw [zcsl hf hc64 (by omega), Option.bind_some, show Od_firstSitting_L7 n (zN (zSn (zLf (zTb (zDg r))))) 1 I1 = _ from k1, Option.bind_some]
          · unfold Mo_right Mo_readSeven
            rw [zmi_0_9999999, hin, Option.bind_some, if_neg (by decide), show Mo_readSeven_L8 n (zN r) 0 6 I2 = _ from m1, Option.bind_some]
            show ((if zN (r / 10 ^ 7) = 0 then (if zN (zMk (zDg r) 7) = 127 then some ((1 : Int32), J2) else some (0, J2)) else some (0, J2)).bind _) = _
            rw [hg.1, hg.2, if_pos (by decide), if_pos (by decide), Option.bind_some]
            show (if (1 : Int32) = 0 then some ((-2 : Int32), J2) else (Mo_in (Int32.toInt64 (zN 1)) 0 1 J2).bind _) = _
            rw [if_neg (by decide), zmi_0_1, eb, Option.bind_some, if_neg (by decide), zmsb hf hm90' (by omega) g1.1, Option.bind_some, if_neg (by decide), show Mo_right_L52 n (zN (zSn (zLf (zTb (zDg r))))) (-6) 6 J2 = _ from p1, Option.bind_some]
      · refine ⟨-2, I1, J, ?_, ?_, relJ⟩
        · unfold BM_right
          rw [hread, Option.bind_some]
          show (if zB true = 0 then some ((-2 : Int32), I1) else (BM_isWithin a1 0 1 I1).bind _) = _
          rw [if_neg (by decide), zbi_0_1, eb, Option.bind_some, if_pos (by decide)]
        · unfold Mo_right
          rw [zmi_0_9999999, hin, Option.bind_some, if_neg (by decide), hread2, Option.bind_some]
          show (if zB true = 0 then some ((-2 : Int32), J) else (Mo_in (Int32.toInt64 a1) 0 1 J).bind _) = _
          rw [if_neg (by decide), zmi_0_1, eb, Option.bind_some, if_pos (by decide)]
    · rw [decide_eq_false hg] at hread hread2
      by_cases q : r ≤ 9999999
      · refine ⟨-2, I1, J, ?_, ?_, relJ⟩
        · unfold BM_right
          rw [hread, Option.bind_some]
          exact if_pos (by decide)
        · unfold Mo_right
          rw [zmi_0_9999999, zW_N (by decide) (by decide) hr, decide_eq_true (show 0 ≤ r ∧ r ≤ 9999999 from ⟨Nat.zero_le r, q⟩), Option.bind_some, if_neg (by decide), hread2, Option.bind_some]
          exact if_pos (by decide)
      · refine ⟨-2, I1, I1, ?_, ?_, relI1⟩
        · unfold BM_right
          rw [hread, Option.bind_some]
          exact if_pos (by decide)
        · unfold Mo_right
          rw [zmi_0_9999999, zW_N (by decide) (by decide) hr, decide_eq_false (fun z => q z.2), Option.bind_some, if_pos (by decide)]
  · refine CO_bad h (r := -2) ?_ ?_
    · unfold BM_right Od_read
      rw [if_neg h0, Option.bind_some]
      exact if_pos rfl
    · unfold Mo_right
      rw [zmi_0_9999999, zW_no (by decide) (by decide) (fun k _ hk e => h0 (by rw [e]; exact zN0 (by omega))), Option.bind_some, if_pos (by decide)]
