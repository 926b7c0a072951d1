/-! the class's days -/
theorem zSt1_k {s : zA} {a k k' t : Nat} (h : 4 ≤ a) : zSt1 s (a, k, t) = zSt1 s (a, k', t) := by
  unfold zSt1
  show (if s 8 2 < 100 then s else if zWhy s a k t = 0 then zAft s a k t else zBad s a k t) = (if s 8 2 < 100 then s else if zWhy s a k' t = 0 then zAft s a k' t else zBad s a k' t)
  rw [zWhy_k (k' := k') h]
  have e1 : zAft s a k t = zAft s a k' t := by
    unfold zAft
    rw [zDo_k (k' := k') h]
    unfold yHA
    simp only [if_neg (show ¬ a = 1 by omega), if_neg (show ¬ a = 2 by omega)]
  have e2 : zBad s a k t = zBad s a k' t := by
    unfold zBad
    rw [zWhy_k (k' := k') h]
  rw [e1, e2]
theorem zctL {cnt : Nat} {sg : Nat → Nat} : ∀ (j i d one one' A n : Nat) (I : zI) (s : zA), PD I cnt sg → i + j = cnt → j + 20 < n → d < 4 → zFl sg j i d = 100 → one < 8 → one' < 8 → (d = 1 ∨ d = 3 → one' = one) → zAtq s A → A ≤ i → GT I s → VS s → ∃ I', Co_tryOut_2_35_L29 n (zN d) (zN one') (zN i) I = some I' ∧ GT I' (zRun (zSc sg j i d one) s) ∧ CF I I' := by
  intro j
  induction j with
  | zero =>
    intro i d one one' A n I s hp hk hn hd hf h1 h2 h3 ha hA hG v
    obtain ⟨n, rfl⟩ : ∃ e, n = e + 1 := ⟨n - 1, by omega⟩
    have := hp.1
    rw [Co_tryOut_2_35_L29, hp.2.1, if_pos ((zN_le (by omega) (by omega)).mpr (by omega))]
    exact ⟨I, rfl, hG, CF.rf⟩
  | succ j ih =>
    intro i d one one' A n I s hp hk hn hd hf h1 h2 h3 ha hA hG v
    obtain ⟨n, rfl⟩ : ∃ e, n = e + 1 := ⟨n - 1, by omega⟩
    have h60 := hp.1
    obtain ⟨s1, -, s3⟩ := hp.2.2.2 i (by omega)
    rw [Co_tryOut_2_35_L29, hp.2.1, if_neg (by rw [zN_le (by omega) (by omega)]; omega), hG.2.2.2.2.1, zl_6]
    by_cases hfa : s 8 2 < 100
    · rw [if_neg (by rw [zE_none]; omega)]
      exact ⟨I, rfl, by rw [zRun_fail hfa]; exact hG, CF.rf⟩
    · have ha' : s 8 2 = 100 ∧ s 8 3 = 100 ∧ s 8 0 = A := by
        rcases ha with ha | ha
        · exact absurd ha hfa
        · exact ha
      rw [if_pos ((zE_none _).mpr (by omega)), zat_36 I (by omega), Option.bind_some, s1]
      -- who it is
      have hone : ∃ w, w < 8 ∧ (if zN d = (0 : Int32) then (BM_isOne (zN (sg i) - 65) I).bind fun x76 => if x76 = 0 then some (zN one') else some (zN (sg i) - 65) else some (zN one')) = some (zN w) ∧ (d = 0 → 65 ≤ sg i ∧ sg i ≤ 72 → w = sg i - 65) ∧ (d ≠ 0 → w = one') := by
        by_cases q : d = 0
        · rw [q, if_pos (show zN 0 = 0 from rfl), zbOne, zl_65, zW_sub (by decide) (by decide) (by omega) (by decide), Option.bind_some]
          by_cases q2 : 65 ≤ sg i ∧ sg i ≤ 72
          · rw [decide_eq_true (show 65 + 0 ≤ sg i ∧ sg i ≤ 65 + 7 by omega), if_neg (by decide), zN_sub q2.1]
            exact ⟨sg i - 65, by omega, rfl, fun _ _ => rfl, fun z => absurd rfl z⟩
          · rw [decide_eq_false (show ¬ (65 + 0 ≤ sg i ∧ sg i ≤ 65 + 7) by omega), if_pos (by decide)]
            exact ⟨one', h2, rfl, fun _ z => absurd z q2, fun z => absurd rfl z⟩
        · rw [if_neg (by rw [zl_0, zN_inj (by omega) (by decide)]; exact q)]
          exact ⟨one', h2, rfl, fun z => absurd z q, fun _ => rfl⟩
      obtain ⟨w, w1, w2, w3, w4⟩ := hone
      rw [w2, Option.bind_some, zdue I hd s3, Option.bind_some]
      have hdl := zDue_lt d (sg i)
      have hf2 : zDue d (sg i) ≠ 100 ∧ zFl sg j (i + 1) (zDue d (sg i)) = 100 := by
        unfold zFl at hf
        by_cases q : zDue d (sg i) = 100
        · rw [if_pos q] at hf
          omega
        · rw [if_neg q] at hf
          exact ⟨q, hf⟩
      have hd2 : zDue d (sg i) < 4 := by omega
      rw [zE_lt (by omega)]
      by_cases h0 : zDue d (sg i) = 0
      · obtain ⟨t, t1, t2⟩ := zctgt I s3
        rw [h0, if_pos (show zN 0 = 0 from rfl), zcact I hd s3, Option.bind_some, t1, Option.bind_some]
        have hok := zAct_ok (k := w) hd h0 w1
        obtain ⟨I1, k1, k2, k3⟩ := ztry hG v (n := n) hok.1 w1 hok.2.2 (fun z => t2 (zAct_t h0 z)) (by omega) hfa (by omega)
        rw [k1, Option.bind_some, Option.bind_some, zl_1, zN_add]
        have hx : zSt1 s (zAct d (sg i), w, zTgt (sg i)) = zSt1 s (zAct d (sg i), zWho d one (sg i), zTgt (sg i)) := by
          by_cases q : d = 0
          · subst q
            have hc : sg i = 46 := by
              unfold zDue at h0
              rw [if_pos rfl] at h0
              split at h0
              · omega
              · split at h0
                · omega
                · split at h0
                  · assumption
                  · omega
            refine zSt1_k ?_
            rw [hc]
            decide
          · by_cases q2 : d = 2
            · subst q2
              refine zSt1_k ?_
              unfold zDue at h0
              rw [if_neg (by decide), if_neg (by decide), if_pos rfl] at h0
              unfold zAct
              split at h0
              · rw [if_neg (by omega), if_neg (by omega), if_neg (by omega)]
                decide
              · omega
            · have hw : w = zWho d one (sg i) := by
                unfold zWho
                rw [if_neg q, w4 q, h3 (by omega)]
              rw [hw]
        rw [hx] at k2
        have hp1 : PD I1 cnt sg := by
          refine ⟨h60, by rw [k3 35 (by decide)]; exact hp.2.1, by rw [k3 73 (by decide)]; exact hp.2.2.1, fun q hq => ?_⟩
          rw [k3 37 (by decide), k3 82 (by decide)]
          exact hp.2.2.2 q hq
        have hwk := zWho_lt (d := d) (c := sg i) h1
        obtain ⟨I', m1, m2, m3⟩ := ih (i + 1) 0 (zWho d one (sg i)) w (A + 1) n I1 _ hp1 (by omega) (by omega) (by decide) (by rw [← h0]; exact hf2.2) hwk w1 (fun z => by omega) (zSt1_q ha (by omega) _) (by omega) k2 (zSt1_V v (zAct_ok hd h0 hwk))
        refine ⟨I', m1, ?_, k3.tr m3⟩
        have hsc : zSc sg (j + 1) i d one = (zAct d (sg i), zWho d one (sg i), zTgt (sg i)) :: zSc sg j (i + 1) 0 (zWho d one (sg i)) := by
          conv => lhs; unfold zSc
          rw [if_pos h0]
        rw [hsc]
        exact m2
      · rw [if_neg (show ¬ (zN (zDue d (sg i)) = 0) by rw [zl_0, zN_inj (by omega) (by decide)]; exact h0), Option.bind_some, zl_1, zN_add]
        have hwk := zWho_lt (d := d) (c := sg i) h1
        obtain ⟨I', m1, m2, m3⟩ := ih (i + 1) (zDue d (sg i)) (zWho d one (sg i)) w A n I s hp (by omega) (by omega) hd2 hf2.2 hwk w1 (fun z => by
          unfold zWho
          by_cases q : d = 0
          · subst q
            unfold zDue at z
            simp only [if_pos rfl] at z
            by_cases q2 : 65 ≤ sg i ∧ sg i ≤ 72
            · rw [if_pos rfl, if_pos q2]
              exact w3 rfl q2
            · rw [if_neg q2] at z
              repeat' split at z
              all_goals omega
          · rw [if_neg q, w4 q]
            apply h3
            unfold zDue at z
            rw [if_neg q] at z
            by_cases q3 : d = 1
            · exact Or.inl q3
            · rw [if_neg q3] at z
              by_cases q4 : d = 2
              · rw [if_pos q4] at z
                repeat' split at z
                all_goals omega
              · right
                omega) ha (by omega) hG v
        refine ⟨I', m1, ?_, m3⟩
        have hsc : zSc sg (j + 1) i d one = zSc sg j (i + 1) (zDue d (sg i)) (zWho d one (sg i)) := by
          conv => lhs; unfold zSc
          rw [if_neg h0]
        rw [hsc]
        exact m2
theorem zfill51 {v : Int32} : ∀ (j k n : Nat) (I : zI), k + j = 12 → j < n → (∀ m, m < k → I 51 m = v) → ∃ I', Ar_fill_51_L5 n v (zN k) 12 I = some I' ∧ (∀ b, b ≠ 51 → I' b = I b) ∧ ∀ m, m < 12 → I' 51 m = v := by
  intro j
  induction j with
  | zero =>
    intro k n I hk hn h1
    obtain ⟨n, rfl⟩ : ∃ e, n = e + 1 := ⟨n - 1, by omega⟩
    rw [Ar_fill_51_L5, zl_12, if_pos ((zN_le (by decide) (by omega)).mpr (by omega))]
    exact ⟨I, rfl, fun b _ => rfl, fun m hm => h1 m (by omega)⟩
  | succ j ih =>
    intro k n I hk hn h1
    obtain ⟨n, rfl⟩ : ∃ e, n = e + 1 := ⟨n - 1, by omega⟩
    rw [Ar_fill_51_L5, if_neg (by rw [zl_12, zN_le (by decide) (by omega)]; omega), if_pos ((zN_in (by omega)).mpr (by omega)), zN_tn (by omega), zl_1, zN_add]
    obtain ⟨I', e1, e2, e3⟩ := ih (k + 1) n (zUp I 51 k v) (by omega) (by omega) (fun m hm => by
      rw [zUp_at]
      by_cases q : m = k
      · rw [if_pos q]
      · rw [if_neg q]
        exact h1 m (by omega))
    exact ⟨I', e1, fun b b1 => by rw [e2 b b1, zUp_ne b1], e3⟩
theorem zcpy {α : Type} (f g : Nat → α) {n i : Nat} (h : i < n) : va_cpy f g 0 0 n i = f i := by
  unfold va_cpy
  rw [if_pos ⟨Nat.zero_le i, by omega⟩, Nat.zero_add, Nat.sub_zero]
theorem zcopy_39_2 {I : zI} {s : zA} (h : GC 2 I s) : ∃ I', Ga_copyFrom_39_2 I = some I' ∧ GC 39 I' s ∧ (∀ b, b ≠ 39 → b ≠ 41 → b ≠ 43 → b ≠ 45 → b ≠ 47 → b ≠ 49 → I' b = I b) := by
  unfold Ga_copyFrom_39_2 Rw_copyFrom_40_3 Rw_copyFrom_42_5 Rw_copyFrom_44_7 Rw_copyFrom_46_9 Rw_copyFrom_48_11
  simp only [Option.bind_some]
  refine ⟨_, rfl, ⟨fun i hi => ?_, fun i hi => ?_, fun i hi => ?_, fun i hi => ?_, fun i hi => ?_, ?_, ?_, ?_⟩, fun b b0 b1 b2 b3 b4 b5 => ?_⟩
  · simp (disch := decide) only [zUp_ne, zRow_ne, zRow_at]
    rw [zcpy _ _ hi, gc2_0 h hi]
  · simp (disch := decide) only [zUp_ne, zRow_ne, zRow_at]
    rw [zcpy _ _ hi, gc2_1 h hi]
  · simp (disch := decide) only [zUp_ne, zRow_ne, zRow_at]
    rw [zcpy _ _ hi, gc2_2 h hi]
  · simp (disch := decide) only [zUp_ne, zRow_ne, zRow_at]
    rw [zcpy _ _ hi, gc2_4 h hi]
  · simp (disch := decide) only [zUp_ne, zRow_ne, zRow_at]
    rw [zcpy _ _ hi, gc2_6 h hi]
  · simp (disch := decide) only [zUp_ne, zUp_nj, zUp_eq, zRow_ne, zRow_at]
    exact gc2_cnt h
  · simp (disch := decide) only [zUp_ne, zUp_nj, zUp_eq, zRow_ne, zRow_at]
    exact gc2_cu h
  · simp (disch := decide) only [zUp_ne, zUp_nj, zUp_eq, zRow_ne, zRow_at]
    exact gc2_day h
  · rw [zUp_ne b0, zUp_ne b0, zUp_ne b0, zRow_ne b5, zRow_ne b4, zRow_ne b3, zRow_ne b2, zRow_ne b1]
theorem zcopy_2_39 {I : zI} {s : zA} (h : GC 39 I s) : ∃ I', Ga_copyFrom_2_39 I = some I' ∧ GC 2 I' s ∧ (∀ b, b ≠ 2 → b ≠ 4 → b ≠ 6 → b ≠ 8 → b ≠ 10 → b ≠ 12 → I' b = I b) := by
  unfold Ga_copyFrom_2_39 Rw_copyFrom_3_40 Rw_copyFrom_5_42 Rw_copyFrom_7_44 Rw_copyFrom_9_46 Rw_copyFrom_11_48
  simp only [Option.bind_some]
  refine ⟨_, rfl, ⟨fun i hi => ?_, fun i hi => ?_, fun i hi => ?_, fun i hi => ?_, fun i hi => ?_, ?_, ?_, ?_⟩, fun b b0 b1 b2 b3 b4 b5 => ?_⟩
  · simp (disch := decide) only [zUp_ne, zRow_ne, zRow_at]
    rw [zcpy _ _ hi, gc39_0 h hi]
  · simp (disch := decide) only [zUp_ne, zRow_ne, zRow_at]
    rw [zcpy _ _ hi, gc39_1 h hi]
  · simp (disch := decide) only [zUp_ne, zRow_ne, zRow_at]
    rw [zcpy _ _ hi, gc39_2 h hi]
  · simp (disch := decide) only [zUp_ne, zRow_ne, zRow_at]
    rw [zcpy _ _ hi, gc39_4 h hi]
  · simp (disch := decide) only [zUp_ne, zRow_ne, zRow_at]
    rw [zcpy _ _ hi, gc39_6 h hi]
  · simp (disch := decide) only [zUp_ne, zUp_nj, zUp_eq, zRow_ne, zRow_at]
    exact gc39_cnt h
  · simp (disch := decide) only [zUp_ne, zUp_nj, zUp_eq, zRow_ne, zRow_at]
    exact gc39_cu h
  · simp (disch := decide) only [zUp_ne, zUp_nj, zUp_eq, zRow_ne, zRow_at]
    exact gc39_day h
  · rw [zUp_ne b0, zUp_ne b0, zUp_ne b0, zRow_ne b5, zRow_ne b4, zRow_ne b3, zRow_ne b2, zRow_ne b1]
theorem zcopy_13_2 {I : zI} {s : zA} (h : GC 2 I s) : ∃ I', Ga_copyFrom_13_2 I = some I' ∧ GC 13 I' s ∧ (∀ b, b ≠ 13 → b ≠ 15 → b ≠ 17 → b ≠ 19 → b ≠ 21 → b ≠ 23 → I' b = I b) := by
  unfold Ga_copyFrom_13_2 Rw_copyFrom_14_3 Rw_copyFrom_16_5 Rw_copyFrom_18_7 Rw_copyFrom_20_9 Rw_copyFrom_22_11
  simp only [Option.bind_some]
  refine ⟨_, rfl, ⟨fun i hi => ?_, fun i hi => ?_, fun i hi => ?_, fun i hi => ?_, fun i hi => ?_, ?_, ?_, ?_⟩, fun b b0 b1 b2 b3 b4 b5 => ?_⟩
  · simp (disch := decide) only [zUp_ne, zRow_ne, zRow_at]
    rw [zcpy _ _ hi, gc2_0 h hi]
  · simp (disch := decide) only [zUp_ne, zRow_ne, zRow_at]
    rw [zcpy _ _ hi, gc2_1 h hi]
  · simp (disch := decide) only [zUp_ne, zRow_ne, zRow_at]
    rw [zcpy _ _ hi, gc2_2 h hi]
  · simp (disch := decide) only [zUp_ne, zRow_ne, zRow_at]
    rw [zcpy _ _ hi, gc2_4 h hi]
  · simp (disch := decide) only [zUp_ne, zRow_ne, zRow_at]
    rw [zcpy _ _ hi, gc2_6 h hi]
  · simp (disch := decide) only [zUp_ne, zUp_nj, zUp_eq, zRow_ne, zRow_at]
    exact gc2_cnt h
  · simp (disch := decide) only [zUp_ne, zUp_nj, zUp_eq, zRow_ne, zRow_at]
    exact gc2_cu h
  · simp (disch := decide) only [zUp_ne, zUp_nj, zUp_eq, zRow_ne, zRow_at]
    exact gc2_day h
  · rw [zUp_ne b0, zUp_ne b0, zUp_ne b0, zRow_ne b5, zRow_ne b4, zRow_ne b3, zRow_ne b2, zRow_ne b1]
theorem zcopy_24_2 {I : zI} {s : zA} (h : GC 2 I s) : ∃ I', Ga_copyFrom_24_2 I = some I' ∧ GC 24 I' s ∧ (∀ b, b ≠ 24 → b ≠ 26 → b ≠ 28 → b ≠ 30 → b ≠ 32 → b ≠ 34 → I' b = I b) := by
  unfold Ga_copyFrom_24_2 Rw_copyFrom_25_3 Rw_copyFrom_27_5 Rw_copyFrom_29_7 Rw_copyFrom_31_9 Rw_copyFrom_33_11
  simp only [Option.bind_some]
  refine ⟨_, rfl, ⟨fun i hi => ?_, fun i hi => ?_, fun i hi => ?_, fun i hi => ?_, fun i hi => ?_, ?_, ?_, ?_⟩, fun b b0 b1 b2 b3 b4 b5 => ?_⟩
  · simp (disch := decide) only [zUp_ne, zRow_ne, zRow_at]
    rw [zcpy _ _ hi, gc2_0 h hi]
  · simp (disch := decide) only [zUp_ne, zRow_ne, zRow_at]
    rw [zcpy _ _ hi, gc2_1 h hi]
  · simp (disch := decide) only [zUp_ne, zRow_ne, zRow_at]
    rw [zcpy _ _ hi, gc2_2 h hi]
  · simp (disch := decide) only [zUp_ne, zRow_ne, zRow_at]
    rw [zcpy _ _ hi, gc2_4 h hi]
  · simp (disch := decide) only [zUp_ne, zRow_ne, zRow_at]
    rw [zcpy _ _ hi, gc2_6 h hi]
  · simp (disch := decide) only [zUp_ne, zUp_nj, zUp_eq, zRow_ne, zRow_at]
    exact gc2_cnt h
  · simp (disch := decide) only [zUp_ne, zUp_nj, zUp_eq, zRow_ne, zRow_at]
    exact gc2_cu h
  · simp (disch := decide) only [zUp_ne, zUp_nj, zUp_eq, zRow_ne, zRow_at]
    exact gc2_day h
  · rw [zUp_ne b0, zUp_ne b0, zUp_ne b0, zRow_ne b5, zRow_ne b4, zRow_ne b3, zRow_ne b2, zRow_ne b1]
theorem zcopy_2_13 {I : zI} {s : zA} (h : GC 13 I s) : ∃ I', Ga_copyFrom_2_13 I = some I' ∧ GC 2 I' s ∧ (∀ b, b ≠ 2 → b ≠ 4 → b ≠ 6 → b ≠ 8 → b ≠ 10 → b ≠ 12 → I' b = I b) := by
  unfold Ga_copyFrom_2_13 Rw_copyFrom_3_14 Rw_copyFrom_5_16 Rw_copyFrom_7_18 Rw_copyFrom_9_20 Rw_copyFrom_11_22
  simp only [Option.bind_some]
  refine ⟨_, rfl, ⟨fun i hi => ?_, fun i hi => ?_, fun i hi => ?_, fun i hi => ?_, fun i hi => ?_, ?_, ?_, ?_⟩, fun b b0 b1 b2 b3 b4 b5 => ?_⟩
  · simp (disch := decide) only [zUp_ne, zRow_ne, zRow_at]
    rw [zcpy _ _ hi, gc13_0 h hi]
  · simp (disch := decide) only [zUp_ne, zRow_ne, zRow_at]
    rw [zcpy _ _ hi, gc13_1 h hi]
  · simp (disch := decide) only [zUp_ne, zRow_ne, zRow_at]
    rw [zcpy _ _ hi, gc13_2 h hi]
  · simp (disch := decide) only [zUp_ne, zRow_ne, zRow_at]
    rw [zcpy _ _ hi, gc13_4 h hi]
  · simp (disch := decide) only [zUp_ne, zRow_ne, zRow_at]
    rw [zcpy _ _ hi, gc13_6 h hi]
  · simp (disch := decide) only [zUp_ne, zUp_nj, zUp_eq, zRow_ne, zRow_at]
    exact gc13_cnt h
  · simp (disch := decide) only [zUp_ne, zUp_nj, zUp_eq, zRow_ne, zRow_at]
    exact gc13_cu h
  · simp (disch := decide) only [zUp_ne, zUp_nj, zUp_eq, zRow_ne, zRow_at]
    exact gc13_day h
  · rw [zUp_ne b0, zUp_ne b0, zUp_ne b0, zRow_ne b5, zRow_ne b4, zRow_ne b3, zRow_ne b2, zRow_ne b1]
theorem zcopy_2_24 {I : zI} {s : zA} (h : GC 24 I s) : ∃ I', Ga_copyFrom_2_24 I = some I' ∧ GC 2 I' s ∧ (∀ b, b ≠ 2 → b ≠ 4 → b ≠ 6 → b ≠ 8 → b ≠ 10 → b ≠ 12 → I' b = I b) := by
  unfold Ga_copyFrom_2_24 Rw_copyFrom_3_25 Rw_copyFrom_5_27 Rw_copyFrom_7_29 Rw_copyFrom_9_31 Rw_copyFrom_11_33
  simp only [Option.bind_some]
  refine ⟨_, rfl, ⟨fun i hi => ?_, fun i hi => ?_, fun i hi => ?_, fun i hi => ?_, fun i hi => ?_, ?_, ?_, ?_⟩, fun b b0 b1 b2 b3 b4 b5 => ?_⟩
  · simp (disch := decide) only [zUp_ne, zRow_ne, zRow_at]
    rw [zcpy _ _ hi, gc24_0 h hi]
  · simp (disch := decide) only [zUp_ne, zRow_ne, zRow_at]
    rw [zcpy _ _ hi, gc24_1 h hi]
  · simp (disch := decide) only [zUp_ne, zRow_ne, zRow_at]
    rw [zcpy _ _ hi, gc24_2 h hi]
  · simp (disch := decide) only [zUp_ne, zRow_ne, zRow_at]
    rw [zcpy _ _ hi, gc24_4 h hi]
  · simp (disch := decide) only [zUp_ne, zRow_ne, zRow_at]
    rw [zcpy _ _ hi, gc24_6 h hi]
  · simp (disch := decide) only [zUp_ne, zUp_nj, zUp_eq, zRow_ne, zRow_at]
    exact gc24_cnt h
  · simp (disch := decide) only [zUp_ne, zUp_nj, zUp_eq, zRow_ne, zRow_at]
    exact gc24_cu h
  · simp (disch := decide) only [zUp_ne, zUp_nj, zUp_eq, zRow_ne, zRow_at]
    exact gc24_day h
  · rw [zUp_ne b0, zUp_ne b0, zUp_ne b0, zRow_ne b5, zRow_ne b4, zRow_ne b3, zRow_ne b2, zRow_ne b1]
theorem zbegin {I : zI} {s : zA} (h : GC 2 I s) {n : Nat} (hn : 20 < n) : ∃ I', Co_begin_2 n I = some I' ∧ GT I' (zBg s) ∧ CF I I' := by
  unfold Co_begin_2
  obtain ⟨I1, e1, e2, e3⟩ := zcopy_39_2 h
  obtain ⟨I2, f1, f2, f3⟩ := zfill51 (v := 0) 12 0 n I1 rfl (by omega) (fun m hm => absurd hm (Nat.not_lt_zero m))
  unfold Rw_fillWith_50 Ar_fill_51
  rw [e1, Option.bind_some, show (Ar_fill_51_L5 n 0 0 12 I1) = some I2 from f1, Option.bind_some, Option.bind_some, Option.bind_some]
  refine ⟨_, rfl, ⟨GC_fr (s := zBg s) e2 (fun b b1 b2 => ?_), fun m hm => ?_, ?_, ?_, ?_, ?_⟩, fun b hb => ?_⟩
  · rw [zUp_ne (by omega), zUp_ne (by omega), zUp_ne (by omega), zUp_ne (by omega), f2 b (by omega)]
  · rw [zUp_ne (by decide), zUp_ne (by decide), zUp_ne (by decide), zUp_ne (by decide), f3 m hm]
    rfl
  · rw [zUp_nj (by decide), zUp_nj (by decide), zUp_nj (by decide), zUp_eq]
    rfl
  · rw [zUp_nj (by decide), zUp_nj (by decide), zUp_eq]
    rfl
  · rw [zUp_nj (by decide), zUp_eq]
    rfl
  · rw [zUp_eq]
    rfl
  · rw [zUp_ne (by omega), zUp_ne (by omega), zUp_ne (by omega), zUp_ne (by omega), f2 b (by omega), e3 b (by omega) (by omega) (by omega) (by omega) (by omega) (by omega)]
/-- how the days of a text end -/
def zEnd (cnt : Nat) (sg : Nat → Nat) (s : zA) : zA := zRun (zSc sg cnt 0 0 0) (zBg s)
theorem zEnd_V {cnt : Nat} {sg : Nat → Nat} {s : zA} (v : VS s) (hf : zFl sg cnt 0 0 = 100) (h : cnt ≤ 60) : VS (zEnd cnt sg s) := zRun_V (s := zBg s) v (zSc_ok sg cnt 0 0 0 (by decide) (by decide) hf (by omega))
theorem zctry {I : zI} {s : zA} {cnt : Nat} {sg : Nat → Nat} (h : GC 2 I s) (v : VS s) (hp : PD I cnt sg) {n : Nat} (hn : 200 < n) : (zFl sg cnt 0 0 ≠ 100 → Co_tryOut_2_35 n I = some (-5, I)) ∧ (zFl sg cnt 0 0 = 100 → ∃ I', Co_tryOut_2_35 n I = some (if zEnd cnt sg s 8 2 < 100 then -3 else 0, I') ∧ GT I' (zEnd cnt sg s) ∧ CF I I') := by
  unfold Co_tryOut_2_35
  have h60 := hp.1
  have hlt : zFl sg cnt 0 0 ≤ 60 ∨ zFl sg cnt 0 0 = 100 := by
    have : ∀ (j i d : Nat), zFl sg j i d ≤ i + j ∨ zFl sg j i d = 100 := by
      intro j
      induction j with
      | zero =>
        intro i d
        unfold zFl
        split
        · exact Or.inr rfl
        · exact Or.inl (Nat.le_refl i)
      | succ j ih =>
        intro i d
        unfold zFl
        split
        · left
          omega
        · have := ih (i + 1) (zDue d (sg i))
          omega
    have := this cnt 0 0
    omega
  rw [zcfault hp (by omega), Option.bind_some, zl_6]
  constructor
  · intro hf
    rw [if_neg (by rw [zE_none]; omega)]
  · intro hf
    obtain ⟨I1, e1, e2, e3⟩ := zbegin h (n := n) (by omega)
    have hp1 : PD I1 cnt sg := by
      refine ⟨h60, by rw [e3 35 (by decide)]; exact hp.2.1, by rw [e3 73 (by decide)]; exact hp.2.2.1, fun q hq => ?_⟩
      rw [e3 37 (by decide), e3 82 (by decide)]
      exact hp.2.2.2 q hq
    obtain ⟨I2, k1, k2, k3⟩ := zctL cnt 0 0 0 0 0 n I1 (zBg s) hp1 (by omega) (by omega) (by decide) hf (by decide) (by decide) (fun _ => rfl) (Or.inr ⟨rfl, rfl, rfl⟩) (by omega) e2 v
    rw [if_pos ((zE_none _).mpr (by omega)), e1, Option.bind_some, show Co_tryOut_2_35_L29 n 0 0 0 I1 = some I2 from k1, Option.bind_some, k2.2.2.2.2.1]
    refine ⟨I2, ?_, k2, e3.tr k3⟩
    show (if zE (zEnd cnt sg s 8 2) = -(zN 6) then some ((0 : Int32), I2) else some (-3, I2)) = _
    by_cases q : zEnd cnt sg s 8 2 < 100
    · rw [if_neg (by rw [zE_none]; omega), if_pos q]
    · rw [if_pos ((zE_none _).mpr (by omega)), if_neg q]
/-- what the reference doesn't touch -/
def RF (I I' : zI) : Prop := (∀ b, b < 73 → I' b = I b) ∧ I' 82 = I 82 ∧ I' 94 = I 94 ∧ I' 95 = I 95 ∧ I' 73 12 = I 73 12
theorem RF.rf {I : zI} : RF I I := ⟨fun _ _ => rfl, rfl, rfl, rfl, rfl⟩
theorem RF.tr {I I1 I2 : zI} (h : RF I I1) (g : RF I1 I2) : RF I I2 := ⟨fun b hb => (g.1 b hb).trans (h.1 b hb), g.2.1.trans h.2.1, g.2.2.1.trans h.2.2.1, g.2.2.2.1.trans h.2.2.2.1, g.2.2.2.2.trans h.2.2.2.2⟩
theorem zmref {I : zI} {s : zA} {cnt : Nat} {sg : Nat → Nat} (h : GM I s) (v : VS s) (hp : PDm I cnt sg) {n : Nat} (hn : 200 < n) : (zFl sg cnt 0 0 ≠ 100 → ∃ I', Mo_refusal n I = some (-5, I') ∧ GM I' s ∧ KP I' s ∧ RF I I') ∧ (zFl sg cnt 0 0 = 100 → ∃ I', Mo_refusal n I = some (if zEnd cnt sg s 8 2 < 100 then -3 else -6, I') ∧ RT I' (zEnd cnt sg s) ∧ KP I' s ∧ RF I I' ∧ I' 73 16 = zN (zSc sg cnt 0 0 0).length) := by
  unfold Mo_refusal
  have h60 := hp.1
  obtain ⟨I1, e1, e2, e3⟩ := zkeep h (n := n) (by omega)
  have hp1 : PDm I1 cnt sg := by
    refine ⟨h60, by rw [e2 73 (by decide)]; exact hp.2.1, fun q hq => ?_⟩
    rw [e2 82 (by decide)]
    exact hp.2.2 q hq
  obtain ⟨I2, f1, f2, f3, f4⟩ := zmfault hp1 (n := n) (by omega)
  rw [e1, Option.bind_some, f1, Option.bind_some, zl_0]
  have hG2 : GM I2 s := GM_fr h (fun b b1 b2 => by rw [f2 b (by omega) (by omega) (by omega) (by omega), e2 b (by omega)]) (by rw [f3 5 (by decide), e2 73 (by decide)]) (by rw [f3 6 (by decide), e2 73 (by decide)]) (by rw [f3 10 (by decide), e2 73 (by decide)])
  have hK2 : KP I2 s := by
    unfold KP
    rw [f2 87 (by decide) (by decide) (by decide) (by decide)]
    exact e3
  have hR2 : RF I I2 := ⟨fun b hb => by rw [f2 b (by omega) (by omega) (by omega) (by omega), e2 b (by omega)], by rw [f2 82 (by decide) (by decide) (by decide) (by decide), e2 82 (by decide)], by rw [f2 94 (by decide) (by decide) (by decide) (by decide), e2 94 (by decide)], by rw [f2 95 (by decide) (by decide) (by decide) (by decide), e2 95 (by decide)], by rw [f3 12 (by decide), e2 73 (by decide)]⟩
  constructor
  · intro hf
    have hlt : zFl sg cnt 0 0 < 100 := by
      have : ∀ (j i d : Nat), zFl sg j i d ≤ i + j ∨ zFl sg j i d = 100 := by
        intro j
        induction j with
        | zero =>
          intro i d
          unfold zFl
          split
          · exact Or.inr rfl
          · exact Or.inl (Nat.le_refl i)
        | succ j ih =>
          intro i d
          unfold zFl
          split
          · left
            omega
          · have := ih (i + 1) (zDue d (sg i))
            omega
      have := this cnt 0 0
      omega
    show ∃ I', (if zE (zFl sg cnt 0 0) < zN 0 then _ else some ((-5 : Int32), I2)) = _ ∧ _
    rw [if_neg (by rw [zE_neg]; omega)]
    exact ⟨I2, rfl, hG2, hK2, hR2⟩
  · intro hf
    obtain ⟨g1, g2⟩ := f4 hf
    have hlen := zSc_len sg cnt 0 0 0
    obtain ⟨I3, k1, k2, k3, k4⟩ := zgo hG2 v (n := n) (zSc_ok sg cnt 0 0 0 (by decide) (by decide) hf (by omega)) (fun i x hx => by
      have := g2 i x hx
      rw [Nat.zero_add] at this
      exact this) g1 (by omega) (by omega)
    show ∃ I', (if zE (zFl sg cnt 0 0) < zN 0 then (Mo_goDays n I2).bind _ else some ((-5 : Int32), I2)) = _ ∧ _
    rw [if_pos ((zE_neg _).mpr (by omega)), k1, Option.bind_some, k2.2.2.1]
    refine ⟨I3, ?_, k2, ?_, hR2.tr ⟨fun b hb => k3 b (by omega) (by omega) (by omega) (by omega) (by omega) (by omega), k3 82 (by decide) (by decide) (by decide) (by decide) (by decide) (by decide), k3 94 (by decide) (by decide) (by decide) (by decide) (by decide) (by decide), k3 95 (by decide) (by decide) (by decide) (by decide) (by decide) (by decide), k4 12 (by decide) (by decide) (by decide) (by decide) (by decide)⟩, ?_⟩
    · show (if zE (zEnd cnt sg s 8 2) < zN 0 then some ((-6 : Int32), I3) else some (-3, I3)) = _
      by_cases q : zEnd cnt sg s 8 2 < 100
      · rw [if_neg (by rw [zE_neg]; omega), if_pos q]
      · rw [if_pos ((zE_neg _).mpr (by omega)), if_neg q]
    · unfold KP
      rw [k3 87 (by decide) (by decide) (by decide) (by decide) (by decide) (by decide)]
      exact hK2
    · rw [k4 16 (by decide) (by decide) (by decide) (by decide) (by decide), g1]
