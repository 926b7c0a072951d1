/-! what days tell: behind, lies, hands, most, done -/
theorem c_behind {I : zI} (h : Rel I) {n : Nat} (hn : 5000 < n) (a0 a1 : Int32) : CO (BM_behind n a0 a1 I) (Mo_behind n a0 a1) := by
  rcases zW_c 0 7 a0 (by decide) (by decide) with ⟨k, -, hk, rfl, ea⟩ | ⟨ea, -⟩
  · rcases zW_c 0 1 a1 (by decide) (by decide) with ⟨w, -, hw, rfl, eb⟩ | ⟨eb, -⟩
    · unfold BM_behind
      rw [zbOne, ea, Option.bind_some, if_neg (by decide), zbi_0_1, eb, Option.bind_some, if_neg (by decide)]
      obtain ⟨s, v, hc, hh | ⟨e, I1, J, len, w1, w2, w3, w4, w5, w6, w7, w8, w9, wa, wb, wc, wd⟩⟩ := zboth h hn
      · obtain ⟨t1, J, t2, t3, t4, t5⟩ := hh
        obtain ⟨J', b1, b2, b3, b4⟩ := zback t4 t3 rfl rfl rfl (n := n) (-5) (by omega)
        refine ⟨-5, I, J', ?_, ?_, Rel_back h hc v CF.rf (t5.tr (RF_back b3 b4)) b2⟩
        · rw [t1, Option.bind_some]
          exact if_neg (by decide)
        · unfold Mo_behind
          rw [zmOne, ea, Option.bind_some, if_neg (by decide), zmi_0_1, eb, Option.bind_some, if_neg (by decide), t2, Option.bind_some]
          show (((if (-5 : Int32) = -6 then _ else some (-5)) : Option Int32).bind _) = _
          rw [if_neg (by decide), Option.bind_some, b1, Option.bind_some]
      · have hrd : ∃ r, ((if zN w = 0 then (Ga_benchOf_39 (zN k) I1).bind fun x => some (x, I1) else (Ga_heldBy_39 n (zN k) I1).bind fun x => some (x, I1)) = some (r, I1)) ∧ ((if zN w = 0 then if zIn (zN k) 8 then some (J 75 (Int32.toNatClampNeg (zN k))) else none else if zIn (zN k) 8 then some (J 76 (Int32.toNatClampNeg (zN k))) else none) = some r) := by
          rcases (show w = 0 ∨ w = 1 by omega) with rfl | rfl
          · have g := zbo39 w3.1 (show k < 8 by omega)
            refine ⟨zN (e 1 k), ?_, ?_⟩
            · rw [if_pos (by decide), g, Option.bind_some]
            · rw [if_pos (by decide), if_pos ((zN_in (by omega)).mpr (by omega)), zN_tn (by omega), gm_p w6.1 (by omega)]
          · have g := zma39 w3.1 w1 (show k < 20 by omega) (n := n) (by omega)
            refine ⟨zE (e 3 k), ?_, ?_⟩
            · rw [if_neg (by decide)]
              unfold Ga_heldBy_39
              rw [g, Option.bind_some, Option.bind_some]
            · rw [if_neg (by decide), if_pos ((zN_in (by omega)).mpr (by omega)), zN_tn (by omega), gm_h w6.1 (by omega)]
        obtain ⟨r, r1, r2⟩ := hrd
        by_cases hq : e 8 2 < 100
        · obtain ⟨J', b1, b2, b3, b4⟩ := zback w7 w6.1 wa wb wc (n := n) (-3) (by omega)
          refine ⟨-3, I1, J', ?_, ?_, Rel_back h hc v w4 (w8.tr (RF_back b3 b4)) b2⟩
          · rw [w2, Option.bind_some, if_pos hq]
            exact if_neg (by decide)
          · unfold Mo_behind
            rw [zmOne, ea, Option.bind_some, if_neg (by decide), zmi_0_1, eb, Option.bind_some, if_neg (by decide), w5, if_pos hq, Option.bind_some]
            show (((if (-3 : Int32) = -6 then _ else some (-3)) : Option Int32).bind _) = _
            rw [if_neg (by decide), Option.bind_some, b1, Option.bind_some]
        · obtain ⟨J', b1, b2, b3, b4⟩ := zback w7 w6.1 wa wb wc (n := n) r (by omega)
          refine ⟨r, I1, J', ?_, ?_, Rel_back h hc v w4 (w8.tr (RF_back b3 b4)) b2⟩
          · rw [w2, Option.bind_some, if_neg hq]
            refine Eq.trans (if_pos rfl) ?_
            exact r1
          · unfold Mo_behind
            rw [zmOne, ea, Option.bind_some, if_neg (by decide), zmi_0_1, eb, Option.bind_some, if_neg (by decide), w5, if_neg hq, Option.bind_some]
            show (((if (-6 : Int32) = -6 then (if zN w = 0 then if zIn (zN k) 8 then some (J 75 (Int32.toNatClampNeg (zN k))) else none else if zIn (zN k) 8 then some (J 76 (Int32.toNatClampNeg (zN k))) else none) else some (-6)) : Option Int32).bind _) = _
            rw [if_pos rfl, r2, Option.bind_some, b1, Option.bind_some]
    · refine CO_bad h (r := -2) ?_ ?_
      · unfold BM_behind
        rw [zbOne, ea, Option.bind_some, if_neg (by decide), zbi_0_1, eb, Option.bind_some, if_pos (by decide)]
      · unfold Mo_behind
        rw [zmOne, ea, Option.bind_some, if_neg (by decide), zmi_0_1, eb, Option.bind_some, if_pos (by decide)]
  · refine CO_bad h (r := -1) ?_ ?_
    · unfold BM_behind
      rw [zbOne, ea, Option.bind_some, if_pos (by decide)]
    · unfold Mo_behind
      rw [zmOne, ea, Option.bind_some, if_pos (by decide)]
theorem c_lies {I : zI} (h : Rel I) {n : Nat} (hn : 5000 < n) (a0 a1 : Int32) : CO (BM_lies n a0 a1 I) (Mo_lies n a0 a1) := by
  rcases zW_c 0 9 a0 (by decide) (by decide) with ⟨k, -, hk, rfl, ea⟩ | ⟨ea, -⟩
  · rcases zW_c 0 1 a1 (by decide) (by decide) with ⟨w, -, hw, rfl, eb⟩ | ⟨eb, -⟩
    · unfold BM_lies
      rw [zbBench, ea, Option.bind_some, if_neg (by decide), zbi_0_1, eb, Option.bind_some, if_neg (by decide)]
      obtain ⟨s, v, hc, hh | ⟨e, I1, J, len, w1, w2, w3, w4, w5, w6, w7, w8, w9, wa, wb, wc, wd⟩⟩ := zboth h hn
      · obtain ⟨t1, J, t2, t3, t4, t5⟩ := hh
        obtain ⟨J', b1, b2, b3, b4⟩ := zback t4 t3 rfl rfl rfl (n := n) (-5) (by omega)
        refine ⟨-5, I, J', ?_, ?_, Rel_back h hc v CF.rf (t5.tr (RF_back b3 b4)) b2⟩
        · rw [t1, Option.bind_some]
          exact if_neg (by decide)
        · unfold Mo_lies
          rw [zmBench, ea, Option.bind_some, if_neg (by decide), zmi_0_1, eb, Option.bind_some, if_neg (by decide), t2, Option.bind_some]
          show (((if (-5 : Int32) = -6 then _ else some (-5)) : Option Int32).bind _) = _
          rw [if_neg (by decide), Option.bind_some, b1, Option.bind_some]
      · have hrd : ∃ r, ((if zN w = 0 then (Ga_lyingOn_39 n (zN k) I1).bind fun x => some (x, I1) else (Ga_freshOn_39 n (zN k) I1).bind fun x => some (x, I1)) = some (r, I1)) ∧ ((if zN w = 0 then if zIn (zN k) 10 then some (J 77 (Int32.toNatClampNeg (zN k))) else none else if zIn (zN k) 10 then some (J 78 (Int32.toNatClampNeg (zN k))) else none) = some r) := by
          rcases (show w = 0 ∨ w = 1 by omega) with rfl | rfl
          · have g := zma39 w3.1 w1 (show 10 + k < 20 by omega) (n := n) (by omega)
            refine ⟨zE (e 3 (10 + k)), ?_, ?_⟩
            · rw [if_pos (by decide)]
              unfold Ga_lyingOn_39
              rw [zl_10, zN_add, g, Option.bind_some, Option.bind_some]
            · rw [if_pos (by decide), if_pos ((zN_in (by omega)).mpr (by omega)), zN_tn (by omega), gm_t w6.1 (by omega)]
          · have g := zma39 w3.1 w1 (show 10 + k < 20 by omega) (n := n) (by omega)
            have ho := zPl_o (vs_pl w1) (show 10 + k < 20 by omega)
            refine ⟨if e 3 (10 + k) < 100 then zN (e 4 (e 3 (10 + k))) else -(zN 6), ?_, ?_⟩
            · rw [if_neg (by decide)]
              unfold Ga_freshOn_39 Ga_lyingOn_39
              rw [zl_10, zN_add, g, Option.bind_some, Option.bind_some, zl_6]
              by_cases q : e 3 (10 + k) < 100
              · rw [if_neg (by rw [zE_none]; omega), if_pos q, zE_lt q, zat_46 I1 (by omega), Option.bind_some, gc39_4 w3.1 (by omega), Option.bind_some]
              · rw [if_pos ((zE_none _).mpr (by omega)), if_neg q, Option.bind_some]
            · rw [if_neg (by decide), if_pos ((zN_in (by omega)).mpr (by omega)), zN_tn (by omega), gm_f w6.1 (by omega)]
        obtain ⟨r, r1, r2⟩ := hrd
        by_cases hq : e 8 2 < 100
        · obtain ⟨J', b1, b2, b3, b4⟩ := zback w7 w6.1 wa wb wc (n := n) (-3) (by omega)
          refine ⟨-3, I1, J', ?_, ?_, Rel_back h hc v w4 (w8.tr (RF_back b3 b4)) b2⟩
          · rw [w2, Option.bind_some, if_pos hq]
            exact if_neg (by decide)
          · unfold Mo_lies
            rw [zmBench, ea, Option.bind_some, if_neg (by decide), zmi_0_1, eb, Option.bind_some, if_neg (by decide), w5, if_pos hq, Option.bind_some]
            show (((if (-3 : Int32) = -6 then _ else some (-3)) : Option Int32).bind _) = _
            rw [if_neg (by decide), Option.bind_some, b1, Option.bind_some]
        · obtain ⟨J', b1, b2, b3, b4⟩ := zback w7 w6.1 wa wb wc (n := n) r (by omega)
          refine ⟨r, I1, J', ?_, ?_, Rel_back h hc v w4 (w8.tr (RF_back b3 b4)) b2⟩
          · rw [w2, Option.bind_some, if_neg hq]
            refine Eq.trans (if_pos rfl) ?_
            exact r1
          · unfold Mo_lies
            rw [zmBench, ea, Option.bind_some, if_neg (by decide), zmi_0_1, eb, Option.bind_some, if_neg (by decide), w5, if_neg hq, Option.bind_some]
            show (((if (-6 : Int32) = -6 then (if zN w = 0 then if zIn (zN k) 10 then some (J 77 (Int32.toNatClampNeg (zN k))) else none else if zIn (zN k) 10 then some (J 78 (Int32.toNatClampNeg (zN k))) else none) else some (-6)) : Option Int32).bind _) = _
            rw [if_pos rfl, r2, Option.bind_some, b1, Option.bind_some]
    · refine CO_bad h (r := -2) ?_ ?_
      · unfold BM_lies
        rw [zbBench, ea, Option.bind_some, if_neg (by decide), zbi_0_1, eb, Option.bind_some, if_pos (by decide)]
      · unfold Mo_lies
        rw [zmBench, ea, Option.bind_some, if_neg (by decide), zmi_0_1, eb, Option.bind_some, if_pos (by decide)]
  · refine CO_bad h (r := -1) ?_ ?_
    · unfold BM_lies
      rw [zbBench, ea, Option.bind_some, if_pos (by decide)]
    · unfold Mo_lies
      rw [zmBench, ea, Option.bind_some, if_pos (by decide)]
theorem c_hands {I : zI} (h : Rel I) {n : Nat} (hn : 5000 < n) (a0 a1 : Int32) : CO (BM_hands n a0 a1 I) (Mo_hands n a0 a1) := by
  rcases zW_c 0 11 a0 (by decide) (by decide) with ⟨k, -, hk, rfl, ea⟩ | ⟨ea, -⟩
  · rcases zW_c 0 1 a1 (by decide) (by decide) with ⟨w, -, hw, rfl, eb⟩ | ⟨eb, -⟩
    · unfold BM_hands
      rw [zbMem, ea, Option.bind_some, if_neg (by decide), zbi_0_1, eb, Option.bind_some, if_neg (by decide)]
      obtain ⟨s, v, hc, hh | ⟨e, I1, J, len, w1, w2, w3, w4, w5, w6, w7, w8, w9, wa, wb, wc, wd⟩⟩ := zboth h hn
      · obtain ⟨t1, J, t2, t3, t4, t5⟩ := hh
        obtain ⟨J', b1, b2, b3, b4⟩ := zback t4 t3 rfl rfl rfl (n := n) (-5) (by omega)
        refine ⟨-5, I, J', ?_, ?_, Rel_back h hc v CF.rf (t5.tr (RF_back b3 b4)) b2⟩
        · rw [t1, Option.bind_some]
          exact if_neg (by decide)
        · unfold Mo_hands
          rw [zmMem, ea, Option.bind_some, if_neg (by decide), zmi_0_1, eb, Option.bind_some, if_neg (by decide), t2, Option.bind_some]
          show ((Mo_whereIs n (zN k) J).bind _) = _
          rw [zwhere (vs_pl v) (fun k hk => gm_h t3 hk) (fun k hk => gm_t t3 hk) (by omega) (by omega), Option.bind_some]
          show (((if (-5 : Int32) = -6 then _ else some (-5)) : Option Int32).bind _) = _
          rw [if_neg (by decide), Option.bind_some, b1, Option.bind_some]
      · have hrd : ∃ r, ((if zN w = 0 then (Rw_at_50 (zN k) I1).bind fun x => some (x, I1) else (Ga_placeOf_39 (zN k) I1).bind fun x => (BM_isOne x I1).bind fun y => if y = 0 then some (-6, I1) else some (x, I1)) = some (r, I1)) ∧ ((if zN w = 0 then if zIn (zN k) 12 then some (J 86 (Int32.toNatClampNeg (zN k))) else none else if zE (e 2 k) < 10 then some (zE (e 2 k)) else some (-6)) = some r) := by
          rcases (show w = 0 ∨ w = 1 by omega) with rfl | rfl
          · refine ⟨zN (e 7 k), ?_, ?_⟩
            · rw [if_pos (by decide), zat_50 I1 (by omega), Option.bind_some, w3.2.1 k (by omega)]
            · rw [if_pos (by decide), if_pos ((zN_in (by omega)).mpr (by omega)), zN_tn (by omega), w6.2.1 k (by omega)]
          · have ho := zPl_c (vs_pl w1) (show k < 12 by omega)
            refine ⟨if e 2 k < 10 then zN (e 2 k) else -(zN 6), ?_, ?_⟩
            · rw [if_neg (by decide)]
              unfold Ga_placeOf_39
              rw [zat_44 I1 (by omega), Option.bind_some, Option.bind_some, zbOne, Option.bind_some, gc39_2 w3.1 (by omega)]
              rcases ho with ho | ho | ho
              · rw [zE_lt (by omega), zW_N (by decide) (by decide) (by omega), decide_eq_true (by omega), if_neg (by decide), if_pos (by omega)]
              · rw [zE_lt (by omega), zW_N (by decide) (by decide) (by omega), decide_eq_false (by omega), if_pos (by decide), if_neg (by omega)]
                rfl
              · rw [ho, if_pos (by decide), if_neg (by decide)]
                rfl
            · rw [if_neg (by decide)]
              rcases ho with ho | ho | ho
              · rw [zE_lt (by omega), if_pos (by rw [zl_10, zN_lt (by omega) (by decide)]; omega), if_pos (by omega)]
              · rw [zE_lt (by omega), if_neg (by rw [zl_10, zN_lt (by omega) (by decide)]; omega), if_neg (by omega)]
                rfl
              · rw [ho, if_pos (by decide), if_neg (by decide)]
                rfl
        obtain ⟨r, r1, r2⟩ := hrd
        by_cases hq : e 8 2 < 100
        · obtain ⟨J', b1, b2, b3, b4⟩ := zback w7 w6.1 wa wb wc (n := n) (-3) (by omega)
          refine ⟨-3, I1, J', ?_, ?_, Rel_back h hc v w4 (w8.tr (RF_back b3 b4)) b2⟩
          · rw [w2, Option.bind_some, if_pos hq]
            exact if_neg (by decide)
          · unfold Mo_hands
            rw [zmMem, ea, Option.bind_some, if_neg (by decide), zmi_0_1, eb, Option.bind_some, if_neg (by decide), w5, if_pos hq, Option.bind_some]
            show ((Mo_whereIs n (zN k) J).bind _) = _
            rw [zwhere (vs_pl w1) (fun k hk => gm_h w6.1 hk) (fun k hk => gm_t w6.1 hk) (by omega) (by omega), Option.bind_some]
            show (((if (-3 : Int32) = -6 then _ else some (-3)) : Option Int32).bind _) = _
            rw [if_neg (by decide), Option.bind_some, b1, Option.bind_some]
        · obtain ⟨J', b1, b2, b3, b4⟩ := zback w7 w6.1 wa wb wc (n := n) r (by omega)
          refine ⟨r, I1, J', ?_, ?_, Rel_back h hc v w4 (w8.tr (RF_back b3 b4)) b2⟩
          · rw [w2, Option.bind_some, if_neg hq]
            refine Eq.trans (if_pos rfl) ?_
            exact r1
          · unfold Mo_hands
            rw [zmMem, ea, Option.bind_some, if_neg (by decide), zmi_0_1, eb, Option.bind_some, if_neg (by decide), w5, if_neg hq, Option.bind_some]
            show ((Mo_whereIs n (zN k) J).bind _) = _
            rw [zwhere (vs_pl w1) (fun k hk => gm_h w6.1 hk) (fun k hk => gm_t w6.1 hk) (by omega) (by omega), Option.bind_some]
            show (((if (-6 : Int32) = -6 then (if zN w = 0 then if zIn (zN k) 12 then some (J 86 (Int32.toNatClampNeg (zN k))) else none else if zE (e 2 k) < 10 then some (zE (e 2 k)) else some (-6)) else some (-6)) : Option Int32).bind _) = _
            rw [if_pos rfl, r2, Option.bind_some, b1, Option.bind_some]
    · refine CO_bad h (r := -2) ?_ ?_
      · unfold BM_hands
        rw [zbMem, ea, Option.bind_some, if_neg (by decide), zbi_0_1, eb, Option.bind_some, if_pos (by decide)]
      · unfold Mo_hands
        rw [zmMem, ea, Option.bind_some, if_neg (by decide), zmi_0_1, eb, Option.bind_some, if_pos (by decide)]
  · refine CO_bad h (r := -1) ?_ ?_
    · unfold BM_hands
      rw [zbMem, ea, Option.bind_some, if_pos (by decide)]
    · unfold Mo_hands
      rw [zmMem, ea, Option.bind_some, if_pos (by decide)]
/-- which went through most hands -/
def zMx (g : Nat → Nat) (b : Nat) : Prop := (b = 100 ∧ ∀ i, i < 12 → g i = 0) ∨ (b < 12 ∧ 0 < g b ∧ (∀ i, i < 12 → g i ≤ g b) ∧ ∀ i, i < b → g i < g b)
theorem zMx_u {g : Nat → Nat} {a b : Nat} (h1 : zMx g a) (h2 : zMx g b) : a = b := by
  rcases h1 with ⟨a1, a2⟩ | ⟨a1, a2, a3, a4⟩
  · rcases h2 with ⟨b1, b2⟩ | ⟨b1, b2, b3, b4⟩
    · omega
    · have := a2 b b1
      omega
  · rcases h2 with ⟨b1, b2⟩ | ⟨b1, b2, b3, b4⟩
    · have := b2 a a1
      omega
    · apply Classical.byContradiction
      intro hne
      rcases Nat.lt_or_gt_of_ne hne with h | h
      · have := b4 a h
        have := a3 b b1
        omega
      · have := a4 b h
        have := b3 a a1
        omega
theorem zcmost {I : zI} {g : Nat → Nat} (hg : ∀ m, m < 12 → I 51 m = zN (g m) ∧ g m < 1000) : ∀ (j k n b c : Nat), k + j = 12 → j < n → ((b = 100 ∧ c = 0 ∧ ∀ i, i < k → g i = 0) ∨ (b < k ∧ c = g b ∧ 0 < c ∧ (∀ i, i < k → g i ≤ c) ∧ ∀ i, i < b → g i < c)) → ∃ r, Co_mostHanded_L7 n (zE b) (zN c) (zN k) I = some (zE r) ∧ zMx g r := by
  intro j
  induction j with
  | zero =>
    intro k n b c hk hn hi
    obtain ⟨n, rfl⟩ : ∃ e, n = e + 1 := ⟨n - 1, by omega⟩
    rw [Co_mostHanded_L7, zl_12, if_pos ((zN_le (by decide) (by omega)).mpr (by omega))]
    refine ⟨b, rfl, ?_⟩
    rcases hi with ⟨h1, h2, h3⟩ | ⟨h1, h2, h3, h4, h5⟩
    · exact Or.inl ⟨h1, fun i hi => h3 i (by omega)⟩
    · exact Or.inr ⟨by omega, by omega, fun i hi => by rw [← h2]; exact h4 i (by omega), fun i hi => by rw [← h2]; exact h5 i hi⟩
  | succ j ih =>
    intro k n b c hk hn hi
    obtain ⟨n, rfl⟩ : ∃ e, n = e + 1 := ⟨n - 1, by omega⟩
    obtain ⟨g1, g2⟩ := hg k (by omega)
    have hc : c < 1000 := by
      rcases hi with ⟨h1, h2, h3⟩ | ⟨h1, h2, h3, h4, h5⟩
      · omega
      · have := (hg b (by omega)).2
        omega
    rw [Co_mostHanded_L7, zl_12, if_neg (by rw [zN_le (by decide) (by omega)]; omega), zat_50 I (by omega), Option.bind_some, g1, Option.bind_some]
    by_cases q : g k ≤ c
    · rw [if_pos ((zN_le (by omega) (by omega)).mpr q), Option.bind_some, zl_1, zN_add]
      refine ih (k + 1) n b c (by omega) (by omega) ?_
      rcases hi with ⟨h1, h2, h3⟩ | ⟨h1, h2, h3, h4, h5⟩
      · refine Or.inl ⟨h1, h2, fun i hi => ?_⟩
        by_cases z : i = k
        · rw [z]
          omega
        · exact h3 i (by omega)
      · refine Or.inr ⟨by omega, h2, h3, fun i hi => ?_, h5⟩
        by_cases z : i = k
        · rw [z]
          exact q
        · exact h4 i (by omega)
    · rw [if_neg (by rw [zN_le (by omega) (by omega)]; exact q), Option.bind_some, zl_1, zN_add, ← zE_lt (show k < 100 by omega)]
      refine ih (k + 1) n k (g k) (by omega) (by omega) (Or.inr ⟨by omega, rfl, by omega, fun i hi => ?_, fun i hi => ?_⟩)
      · by_cases z : i = k
        · rw [z]
          exact Nat.le_refl _
        · rcases hi' : hi with _
          rcases ‹(b = 100 ∧ c = 0 ∧ ∀ i, i < k → g i = 0) ∨ (b < k ∧ c = g b ∧ 0 < c ∧ (∀ i, i < k → g i ≤ c) ∧ ∀ i, i < b → g i < c)› with ⟨h1, h2, h3⟩ | ⟨h1, h2, h3, h4, h5⟩
          · have := h3 i (by omega)
            omega
          · have := h4 i (by omega)
            omega
      · rcases ‹(b = 100 ∧ c = 0 ∧ ∀ i, i < k → g i = 0) ∨ (b < k ∧ c = g b ∧ 0 < c ∧ (∀ i, i < k → g i ≤ c) ∧ ∀ i, i < b → g i < c)› with ⟨h1, h2, h3⟩ | ⟨h1, h2, h3, h4, h5⟩
        · have := h3 i hi
          omega
        · have := h4 i hi
          omega
theorem zmmost {I : zI} {g : Nat → Nat} (hg : ∀ m, m < 12 → I 86 m = zN (g m) ∧ g m < 1000) : ∀ (k n b : Nat), k ≤ 12 → k < n → ((b = 100 ∧ ∀ i, k ≤ i → i < 12 → g i = 0) ∨ (k ≤ b ∧ b < 12 ∧ 0 < g b ∧ (∀ i, k ≤ i → i < 12 → g i ≤ g b) ∧ ∀ i, k ≤ i → i < b → g i < g b)) → ∃ r, Mo_most_L23 n (zE b) (zN k - 1) I = some (zE r) ∧ zMx g r := by
  intro k
  induction k with
  | zero =>
    intro n b hk hn hi
    obtain ⟨n, rfl⟩ : ∃ e, n = e + 1 := ⟨n - 1, by omega⟩
    rw [Mo_most_L23, if_pos (by decide)]
    refine ⟨b, rfl, ?_⟩
    rcases hi with ⟨h1, h2⟩ | ⟨h1, h2, h3, h4, h5⟩
    · exact Or.inl ⟨h1, fun i hi => h2 i (Nat.zero_le i) hi⟩
    · exact Or.inr ⟨h2, h3, fun i hi => h4 i (Nat.zero_le i) hi, fun i hi => h5 i (Nat.zero_le i) hi⟩
  | succ k ih =>
    intro n b hk hn hi
    obtain ⟨n, rfl⟩ : ∃ e, n = e + 1 := ⟨n - 1, by omega⟩
    obtain ⟨g1, g2⟩ := hg k (by omega)
    have ek : zN (k + 1) - 1 = zN k := by
      rw [zl_1, zN_sub (by omega)]
      congr 1
    have ek2 : zN k + -1 = zN k - 1 := Int32.add_neg_eq_sub
    have ik := (zN_in (show k < 2147483648 by omega) (n := 12)).mpr (by omega)
    rw [Mo_most_L23, ek, if_neg (by rw [zl_0, zN_lt (by omega) (by decide)]; omega), if_pos ik]
    simp only [zN_tn (show k < 2147483648 by omega), g1, ek2]
    by_cases q0 : g k = 0
    · rw [if_pos (by rw [zl_0, zN_le (by omega) (by decide)]; omega), Option.bind_some]
      refine ih n b (by omega) (by omega) ?_
      rcases hi with ⟨h1, h2⟩ | ⟨h1, h2, h3, h4, h5⟩
      · refine Or.inl ⟨h1, fun i i1 i2 => ?_⟩
        by_cases z : i = k
        · rw [z]
          exact q0
        · exact h2 i (by omega) i2
      · refine Or.inr ⟨by omega, h2, h3, fun i i1 i2 => ?_, fun i i1 i2 => ?_⟩
        · by_cases z : i = k
          · rw [z]
            omega
          · exact h4 i (by omega) i2
        · by_cases z : i = k
          · rw [z]
            omega
          · exact h5 i (by omega) i2
    · rw [if_neg (by rw [zl_0, zN_le (by omega) (by decide)]; omega)]
      rcases hi with ⟨h1, h2⟩ | ⟨h1, h2, h3, h4, h5⟩
      · rw [h1, if_pos (by decide), Option.bind_some, ← zE_lt (show k < 100 by omega), zE_lt (show k < 100 by omega)]
        have := ih n k (by omega) (by omega) (Or.inr ⟨Nat.le_refl k, by omega, by omega, fun i i1 i2 => ?_, fun i i1 i2 => by omega⟩)
        · rw [zE_lt (show k < 100 by omega)] at this
          exact this
        · by_cases z : i = k
          · rw [z]
            exact Nat.le_refl _
          · have := h2 i (by omega) i2
            omega
      · obtain ⟨f1, f2⟩ := hg b h2
        have ib := (zN_in (show b < 2147483648 by omega) (n := 12)).mpr h2
        rw [zE_lt (show b < 100 by omega), if_neg (by rw [zl_0, zN_lt (by omega) (by decide)]; omega), if_pos ik, if_pos ib]
        simp only [zN_tn (show b < 2147483648 by omega), f1]
        by_cases q1 : g k < g b
        · rw [if_pos ((zN_lt (by omega) (by omega)).mpr q1), Option.bind_some, ← zE_lt (show b < 100 by omega)]
          refine ih n b (by omega) (by omega) (Or.inr ⟨by omega, h2, h3, fun i i1 i2 => ?_, fun i i1 i2 => ?_⟩)
          · by_cases z : i = k
            · rw [z]
              omega
            · exact h4 i (by omega) i2
          · by_cases z : i = k
            · rw [z]
              exact q1
            · exact h5 i (by omega) i2
        · rw [if_neg (by rw [zN_lt (by omega) (by omega)]; exact q1), Option.bind_some, ← zE_lt (show k < 100 by omega), zE_lt (show k < 100 by omega)]
          have hkb := h4
          have := ih n k (by omega) (by omega) (Or.inr ⟨Nat.le_refl k, by omega, by omega, fun i i1 i2 => ?_, fun i i1 i2 => by omega⟩)
          · rw [zE_lt (show k < 100 by omega)] at this
            exact this
          · by_cases z : i = k
            · rw [z]
              exact Nat.le_refl _
            · have := h4 i (by omega) i2
              omega
theorem zSt1_h {s : zA} {B : Nat} (h : ∀ m, s 7 m ≤ B) (x : Nat × Nat × Nat) (m : Nat) : zSt1 s x 7 m ≤ B + 2 := by
  unfold zSt1
  split
  · have := h m
    omega
  · split
    · show yHA s (s 7) x.1 x.2.1 x.2.2 m ≤ B + 2
      have hy : ∀ (g : Nat → Nat) (y : Nat), yHd g y m ≤ g m + 1 := by
        intro g y
        unfold yHd
        split <;> omega
      unfold yHA
      have := h m
      split
      · have := hy (s 7) (s 3 (10 + s 1 x.2.1))
        omega
      · split
        · have h1 := hy (yHd (s 7) (s 3 x.2.2)) (s 3 x.2.1)
          have h2 := hy (s 7) (s 3 x.2.2)
          omega
        · omega
    · show s 7 m ≤ B + 2
      have := h m
      omega
theorem zRun_h {l : List (Nat × Nat × Nat)} : ∀ {s : zA} {B : Nat}, (∀ m, s 7 m ≤ B) → ∀ m, zRun l s 7 m ≤ B + 2 * l.length := by
  induction l with
  | nil => exact fun h m => h m
  | cons x l ih =>
    intro s B h m
    have := ih (s := zSt1 s x) (B := B + 2) (fun m => zSt1_h h x m) m
    rw [List.length_cons]
    show zRun l (zSt1 s x) 7 m ≤ _
    omega
