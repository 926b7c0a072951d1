/-! how many memories are nowhere, on benches -/
theorem zSum_congr {f g : Nat → Nat} : ∀ (n : Nat), (∀ i, i < n → f i = g i) → zSum f n = zSum g n := by
  intro n
  induction n with
  | zero => exact fun _ => rfl
  | succ n ih =>
    intro h
    unfold zSum
    rw [ih (fun i hi => h i (by omega)), h n (by omega)]
theorem zSum_0 (n : Nat) : zSum (fun _ => 0) n = 0 := by
  induction n with
  | zero => rfl
  | succ n ih =>
    unfold zSum
    rw [ih]
theorem zSum_add (f g : Nat → Nat) (n : Nat) : zSum (fun i => f i + g i) n = zSum f n + zSum g n := by
  induction n with
  | zero => rfl
  | succ n ih =>
    unfold zSum
    rw [ih]
    omega
theorem zSum_swap (f : Nat → Nat → Nat) (n m : Nat) : zSum (fun i => zSum (fun j => f i j) m) n = zSum (fun j => zSum (fun i => f i j) n) m := by
  induction n with
  | zero => exact (zSum_0 m).symm
  | succ n ih =>
    show zSum (fun i => zSum (fun j => f i j) m) n + zSum (fun j => f n j) m = zSum (fun j => zSum (fun i => f i j) n + f n j) m
    rw [ih, zSum_add]
theorem zSum_one (x : Nat) (n : Nat) : zSum (fun b => if b = x then 1 else 0) n = if x < n then 1 else 0 := by
  induction n with
  | zero => rfl
  | succ n ih =>
    unfold zSum
    rw [ih]
    by_cases h : x < n
    · rw [if_pos h, if_neg (by omega), if_pos (by omega)]
    · rw [if_neg h]
      by_cases h2 : n = x
      · rw [if_pos h2, if_pos (by omega)]
      · rw [if_neg h2, if_neg (by omega)]
theorem zcount_b {s : zA} (v : VS s) : zSum (fun m => if s 2 m < 10 ∨ 100 ≤ s 2 m then 0 else 1) 12 = zSum (fun b => if 100 ≤ s 3 (10 + b) then 0 else 1) 10 := by
  have hpl := vs_pl v
  have h1 : zSum (fun m => if s 2 m < 10 ∨ 100 ≤ s 2 m then 0 else 1) 12 = zSum (fun m => zSum (fun b => if s 2 m = 10 + b then 1 else 0) 10) 12 := by
    refine zSum_congr 12 (fun m hm => ?_)
    have hc := zPl_c hpl hm
    have e : zSum (fun b => if s 2 m = 10 + b then 1 else 0) 10 = zSum (fun b => if b = s 2 m - 10 then (if 10 ≤ s 2 m then 1 else 0) else 0) 10 := by
      refine zSum_congr 10 (fun b hb => ?_)
      by_cases q : s 2 m = 10 + b
      · rw [if_pos q, if_pos (by omega), if_pos (by omega)]
      · rw [if_neg q]
        by_cases q2 : b = s 2 m - 10
        · rw [if_pos q2, if_neg (by omega)]
        · rw [if_neg q2]
    rw [e]
    by_cases q : s 2 m < 10 ∨ 100 ≤ s 2 m
    · rw [if_pos q]
      by_cases q2 : 10 ≤ s 2 m
      · have := zSum_one (s 2 m - 10) 10
        rw [if_neg (by omega)] at this
        exact ((zSum_congr 10 (fun b hb => by rw [if_pos q2])).trans this).symm
      · refine ((zSum_congr 10 (fun b hb => ?_)).trans (zSum_0 10)).symm
        rw [if_neg q2]
        split <;> rfl
    · rw [if_neg q]
      have := zSum_one (s 2 m - 10) 10
      rw [if_pos (by omega)] at this
      have q2 : 10 ≤ s 2 m := by omega
      exact ((zSum_congr 10 (fun b hb => by rw [if_pos q2])).trans this).symm
  have h2 : zSum (fun b => if 100 ≤ s 3 (10 + b) then 0 else 1) 10 = zSum (fun b => zSum (fun m => if s 2 m = 10 + b then 1 else 0) 12) 10 := by
    refine zSum_congr 10 (fun b hb => ?_)
    have ho := zPl_o hpl (show 10 + b < 20 by omega)
    have e : zSum (fun m => if s 2 m = 10 + b then 1 else 0) 12 = zSum (fun m => if m = s 3 (10 + b) then 1 else 0) 12 := by
      refine zSum_congr 12 (fun m hm => ?_)
      have hi := zPl_i hpl hm (show 10 + b < 20 by omega)
      by_cases q : s 2 m = 10 + b
      · rw [if_pos q, if_pos (hi.mp q).symm]
      · rw [if_neg q, if_neg (fun z => q (hi.mpr z.symm))]
    rw [e, zSum_one]
    rcases ho with ho | ho
    · rw [if_neg (by omega), if_pos ho]
    · rw [if_pos (by omega), if_neg (by omega)]
  rw [h1, h2]
  exact zSum_swap (fun m b => if s 2 m = 10 + b then 1 else 0) 12 10
theorem zcnowL {I : zI} {s : zA} (h : GC 39 I s) : ∀ (j k n : Nat), k + j = 12 → j < n → Ga_countNowhere_39_L4 n (zN (zSum (fun m => if s 2 m < 100 then 0 else 1) k)) (zN k) I = some (zN (zSum (fun m => if s 2 m < 100 then 0 else 1) 12)) := by
  intro j
  induction j with
  | zero =>
    intro k n hk hn
    obtain ⟨n, rfl⟩ : ∃ e, n = e + 1 := ⟨n - 1, by omega⟩
    rw [Ga_countNowhere_39_L4, zl_12, if_pos ((zN_le (by decide) (by omega)).mpr (by omega)), show k = 12 by omega]
  | succ j ih =>
    intro k n hk hn
    obtain ⟨n, rfl⟩ : ∃ e, n = e + 1 := ⟨n - 1, by omega⟩
    rw [Ga_countNowhere_39_L4, zl_12, if_neg (by rw [zN_le (by decide) (by omega)]; omega), zat_44 I (by omega), Option.bind_some, gc39_2 h (by omega)]
    have e : (if zE (s 2 k) = (-6 : Int32) then some (1 : Int32) else some 0) = some (zN (if s 2 k < 100 then 0 else 1)) := by
      rw [zl_6]
      by_cases q : s 2 k < 100
      · rw [if_neg (fun z => by have := (zE_none _).mp z; omega), if_pos q]
        rfl
      · rw [if_pos ((zE_none _).mpr (by omega)), if_neg q]
        rfl
    rw [e, Option.bind_some, zN_add, zl_1, zN_add]
    exact ih (k + 1) n (by omega) (by omega)
theorem zconL {I : zI} {s : zA} (h : GC 39 I s) : ∀ (j k n : Nat), k + j = 12 → j < n → Ga_countOnBenches_39_L4 n (zN (zSum (fun m => if s 2 m < 10 ∨ 100 ≤ s 2 m then 0 else 1) k)) (zN k) I = some (zN (zSum (fun m => if s 2 m < 10 ∨ 100 ≤ s 2 m then 0 else 1) 12)) := by
  intro j
  induction j with
  | zero =>
    intro k n hk hn
    obtain ⟨n, rfl⟩ : ∃ e, n = e + 1 := ⟨n - 1, by omega⟩
    rw [Ga_countOnBenches_39_L4, zl_12, if_pos ((zN_le (by decide) (by omega)).mpr (by omega)), show k = 12 by omega]
  | succ j ih =>
    intro k n hk hn
    obtain ⟨n, rfl⟩ : ∃ e, n = e + 1 := ⟨n - 1, by omega⟩
    rw [Ga_countOnBenches_39_L4, zl_12, if_neg (by rw [zN_le (by decide) (by omega)]; omega), zat_44 I (by omega), Option.bind_some, gc39_2 h (by omega)]
    have e : (if zE (s 2 k) < (10 : Int32) then some (0 : Int32) else some 1) = some (zN (if s 2 k < 10 ∨ 100 ≤ s 2 k then 0 else 1)) := by
      have hz := zE_ltk (k := s 2 k) (a := 10) (by decide)
      rw [zl_10]
      by_cases q : s 2 k < 10 ∨ 100 ≤ s 2 k
      · rw [if_pos (hz.mpr q), if_pos q]
        rfl
      · rw [if_neg (fun z => q (hz.mp z)), if_neg q]
        rfl
    rw [e, Option.bind_some, zN_add, zl_1, zN_add]
    exact ih (k + 1) n (by omega) (by omega)
theorem zmlostL {I : zI} {s : zA} (h : GM I s) (v : VS s) : ∀ (j k n : Nat), k + j = 12 → j + 20 < n → Mo_manyLost_L4 n (zN (zSum (fun m => if s 2 m < 100 then 0 else 1) k)) (zN k) I = some (zN (zSum (fun m => if s 2 m < 100 then 0 else 1) 12)) := by
  intro j
  induction j with
  | zero =>
    intro k n hk hn
    obtain ⟨n, rfl⟩ : ∃ e, n = e + 1 := ⟨n - 1, by omega⟩
    rw [Mo_manyLost_L4, zl_12, if_pos ((zN_le (by decide) (by omega)).mpr (by omega)), show k = 12 by omega]
  | succ j ih =>
    intro k n hk hn
    obtain ⟨n, rfl⟩ : ∃ e, n = e + 1 := ⟨n - 1, by omega⟩
    rw [Mo_manyLost_L4, zl_12, if_neg (by rw [zN_le (by decide) (by omega)]; omega), zwhere (vs_pl v) (fun k hk => gm_h h hk) (fun k hk => gm_t h hk) (by omega) (by omega), Option.bind_some]
    have e : (if (0 : Int32) ≤ zE (s 2 k) then some (0 : Int32) else some 1) = some (zN (if s 2 k < 100 then 0 else 1)) := by
      rw [zl_0]
      by_cases q : s 2 k < 100
      · rw [if_pos ((zE_pos _).mpr q), if_pos q]
      · rw [if_neg (fun z => q ((zE_pos _).mp z)), if_neg q]
        rfl
    rw [e, Option.bind_some, zN_add, zl_1, zN_add]
    exact ih (k + 1) n (by omega) (by omega)
theorem zmlieL {I : zI} {s : zA} (h : GM I s) : ∀ (j k n : Nat), k + j = 10 → j < n → Mo_manyLie_L4 n (zN (zSum (fun b => if 100 ≤ s 3 (10 + b) then 0 else 1) k)) (zN k) I = some (zN (zSum (fun b => if 100 ≤ s 3 (10 + b) then 0 else 1) 10)) := by
  intro j
  induction j with
  | zero =>
    intro k n hk hn
    obtain ⟨n, rfl⟩ : ∃ e, n = e + 1 := ⟨n - 1, by omega⟩
    rw [Mo_manyLie_L4, zl_10, if_pos ((zN_le (by decide) (by omega)).mpr (by omega)), show k = 10 by omega]
  | succ j ih =>
    intro k n hk hn
    obtain ⟨n, rfl⟩ : ∃ e, n = e + 1 := ⟨n - 1, by omega⟩
    rw [Mo_manyLie_L4, zl_10, if_neg (by rw [zN_le (by decide) (by omega)]; omega), if_pos ((zN_in (by omega)).mpr (by omega)), zN_tn (by omega), gm_t h (by omega)]
    have e : (if zE (s 3 (10 + k)) < (0 : Int32) then some (0 : Int32) else some 1) = some (zN (if 100 ≤ s 3 (10 + k) then 0 else 1)) := by
      rw [zl_0]
      by_cases q : 100 ≤ s 3 (10 + k)
      · rw [if_pos ((zE_neg _).mpr q), if_pos q]
      · rw [if_neg (fun z => q ((zE_neg _).mp z)), if_neg q]
        rfl
    rw [e, Option.bind_some, zN_add, zl_1, zN_add]
    exact ih (k + 1) n (by omega) (by omega)
theorem c_season {I : zI} (h : Rel I) {n : Nat} (hn : 5000 < n) (a0 a1 a2 : Int32) : CO (BM_season n a0 a1 a2 I) (Mo_season n a0 a1 a2) := by
  rcases zW_c 0 9999 a0 (by decide) (by decide) with ⟨x, -, hx, rfl, ea⟩ | ⟨ea, -⟩
  · rcases zW_c 1 99 a1 (by decide) (by decide) with ⟨m, hm1, hm2, rfl, eb⟩ | ⟨eb, -⟩
    · rcases zW_c 0 2 a2 (by decide) (by decide) with ⟨w, -, hw, rfl, ec⟩ | ⟨ec, -⟩
      · obtain ⟨⟨s, hc, hg, v⟩, hr⟩ := id h
        obtain ⟨I1, b1, b2, b3⟩ := zbegin hc (n := n) (by omega)
        obtain ⟨I2, d1, d2, d3⟩ := zcdrL (m := m) (by omega) m 0 x n I1 s (by omega) (by omega) (by omega) b2.1 v
        have hcf : CF I I2 := b3.tr (fun b hb => d3 b (by omega) (by omega) (by omega) (by omega))
        have hg2 : GM I2 s := GM_fr hg (fun b c1 c2 => hcf b (by omega)) (by rw [hcf 73 (by decide)]) (by rw [hcf 73 (by decide)]) (by rw [hcf 73 (by decide)])
        obtain ⟨J1, k1, k2, k3⟩ := zkeep hg2 (n := n) (by omega)
        have hgJ : GM J1 s := GM_fr hg2 (fun b c1 c2 => k2 b (by omega)) (by rw [k2 73 (by decide)]) (by rw [k2 73 (by decide)]) (by rw [k2 73 (by decide)])
        obtain ⟨J2, e1, e2, e3, e4⟩ := zmdrL (m := m) (w := zN w) (by omega) m 0 x n J1 s (by omega) (by omega) (by omega) hgJ v
        have ve := zDrf_V m x s v
        obtain ⟨q1, q2, q3⟩ := zDrf_0 m x s
        have kp : KP J2 s := by
          unfold KP
          rw [e3 87 (by decide) (by decide) (by decide) (by decide) (by decide) (by decide)]
          exact k3
        have hRF : RF I2 J2 := ⟨fun b hb => by rw [e3 b (by omega) (by omega) (by omega) (by omega) (by omega) (by omega), k2 b (by omega)], by rw [e3 82 (by decide) (by decide) (by decide) (by decide) (by decide) (by decide), k2 82 (by decide)], by rw [e3 94 (by decide) (by decide) (by decide) (by decide) (by decide) (by decide), k2 94 (by decide)], by rw [e3 95 (by decide) (by decide) (by decide) (by decide) (by decide) (by decide), k2 95 (by decide)], by rw [e4 12 (by decide) (by decide), k2 73 (by decide)]⟩
        have hrd : ∃ r, (if zN w = 2 then some (I2 39 7, I2) else if zN w = 0 then (Ga_countNowhere_39 n I2).bind fun x => some (x, I2) else (Ga_countOnBenches_39 n I2).bind fun x => some (x, I2)) = some (r, I2) ∧ (if zN w = 0 then (Mo_manyLost n J2).bind fun x => some x else if zN w = 1 then (Mo_manyLie n J2).bind fun x => some x else some (J2 73 6)) = some r := by
          rcases (show w = 0 ∨ w = 1 ∨ w = 2 by omega) with rfl | rfl | rfl
          · refine ⟨zN (zSum (fun m_1 => if zDrf m x s 2 m_1 < 100 then 0 else 1) 12), ?_, ?_⟩
            · rw [if_neg (by decide), if_pos (by decide)]
              unfold Ga_countNowhere_39
              rw [show Ga_countNowhere_39_L4 n 0 0 I2 = _ from zcnowL d2 12 0 n rfl (by omega), Option.bind_some, Option.bind_some]
            · rw [if_pos (by decide)]
              unfold Mo_manyLost
              rw [show Mo_manyLost_L4 n 0 0 J2 = _ from zmlostL e2 ve 12 0 n rfl (by omega), Option.bind_some, Option.bind_some]
          · refine ⟨zN (zSum (fun b => if 100 ≤ zDrf m x s 3 (10 + b) then 0 else 1) 10), ?_, ?_⟩
            · rw [if_neg (by decide), if_neg (by decide)]
              unfold Ga_countOnBenches_39
              rw [show Ga_countOnBenches_39_L4 n 0 0 I2 = _ from zconL d2 12 0 n rfl (by omega), Option.bind_some, Option.bind_some, zcount_b ve]
            · rw [if_neg (by decide), if_pos (by decide)]
              unfold Mo_manyLie
              rw [show Mo_manyLie_L4 n 0 0 J2 = _ from zmlieL e2 10 0 n rfl (by omega), Option.bind_some, Option.bind_some]
          · refine ⟨zN (zDrf m x s 5 1), ?_, ?_⟩
            · rw [if_pos (by decide), gc39_day d2]
            · rw [if_neg (by decide), if_neg (by decide), gm_day e2]
        obtain ⟨r, r1, r2⟩ := hrd
        obtain ⟨J', f1, f2, f3, f4⟩ := zback kp e2 q1 q2 q3 (n := n) r (by omega)
        refine ⟨r, I2, J', ?_, ?_, Rel_back h hc v hcf (hRF.tr (RF_back f3 f4)) f2⟩
        · unfold BM_season
          rw [zbi_0_9999, ea, Option.bind_some, if_neg (by decide), zbi_1_99, eb, Option.bind_some, if_neg (by decide), zbi_0_2, ec, Option.bind_some, if_neg (by decide), Option.bind_some, if_neg (by decide)]
          unfold Co_drift_2
          rw [b1, Option.bind_some, show Co_drift_2_L11 n (zN m) (zN x) 0 I1 = _ from d1, Option.bind_some, Option.bind_some]
          exact r1
        · unfold Mo_season
          rw [zmi_0_9999, ea, Option.bind_some, if_neg (by decide), zmi_1_99, eb, Option.bind_some, if_neg (by decide), zmi_0_2, ec, Option.bind_some, if_neg (by decide), k1, Option.bind_some, show Mo_season_L49 n (zN m) (zN w) (zN x) 0 J1 = _ from e1, Option.bind_some, r2, Option.bind_some, f1, Option.bind_some]
      · refine CO_bad h (r := -2) ?_ ?_
        · unfold BM_season
          rw [zbi_0_9999, ea, Option.bind_some, if_neg (by decide), zbi_1_99, eb, Option.bind_some, if_neg (by decide), zbi_0_2, ec, Option.bind_some, if_pos (by decide), Option.bind_some, if_pos (by decide)]
        · unfold Mo_season
          rw [zmi_0_9999, ea, Option.bind_some, if_neg (by decide), zmi_1_99, eb, Option.bind_some, if_neg (by decide), zmi_0_2, ec, Option.bind_some, if_pos (by decide)]
    · refine CO_bad h (r := -2) ?_ ?_
      · unfold BM_season
        rw [zbi_0_9999, ea, Option.bind_some, if_neg (by decide), zbi_1_99, eb, Option.bind_some, if_pos (by decide), Option.bind_some, if_pos (by decide)]
      · unfold Mo_season
        rw [zmi_0_9999, ea, Option.bind_some, if_neg (by decide), zmi_1_99, eb, Option.bind_some, if_pos (by decide)]
  · refine CO_bad h (r := -2) ?_ ?_
    · unfold BM_season
      rw [zbi_0_9999, ea, Option.bind_some, if_pos (by decide), Option.bind_some, if_pos (by decide)]
    · unfold Mo_season
      rw [zmi_0_9999, ea, Option.bind_some, if_pos (by decide)]
