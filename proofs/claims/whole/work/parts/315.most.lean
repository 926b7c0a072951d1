/-! most, done -/
/-- as zboth, with what most and done want -/
theorem zboth2 {I : zI} (h : Rel I) {n : Nat} (hn : 5000 < n) : ∃ s, VS s ∧ GC 2 I s ∧ ((Co_tryOut_2_35 n I = some (-5, I) ∧ ∃ J, Mo_refusal n I = some (-5, J) ∧ GM J s ∧ KP J s ∧ RF I J) ∨ ∃ e I1 J len, VS e ∧ Co_tryOut_2_35 n I = some (if e 8 2 < 100 then -3 else 0, I1) ∧ GT I1 e ∧ CF I I1 ∧ Mo_refusal n I1 = some (if e 8 2 < 100 then -3 else -6, J) ∧ RT J e ∧ KP J s ∧ RF I1 J ∧ J 73 16 = zN len ∧ e 0 = s 0 ∧ e 6 = s 6 ∧ e 5 2 = s 5 2 ∧ (¬ e 8 2 < 100 → e 8 0 = len) ∧ ∀ m, e 7 m < 1000) := by
  obtain ⟨⟨s, hc, hm, v⟩, ⟨cnt, sg, hp⟩, -, -⟩ := h
  obtain ⟨c1, c2⟩ := zctry hc v hp (n := n) (by omega)
  refine ⟨s, v, hc, ?_⟩
  by_cases hf : zFl sg cnt 0 0 = 100
  · right
    obtain ⟨I1, d1, d2, d3⟩ := c2 hf
    have hp1 : PD I1 cnt sg := by
      refine ⟨hp.1, by rw [d3 35 (by decide)]; exact hp.2.1, by rw [d3 73 (by decide)]; exact hp.2.2.1, fun q hq => ?_⟩
      rw [d3 37 (by decide), d3 82 (by decide)]
      exact hp.2.2.2 q hq
    have hm1 : GM I1 s := GM_fr hm (fun b b1 b2 => d3 b (by omega)) (by rw [d3 73 (by decide)]) (by rw [d3 73 (by decide)]) (by rw [d3 73 (by decide)])
    obtain ⟨J, e1, e2, e3, e4, e5⟩ := (zmref hm1 v hp1.m (n := n) (by omega)).2 hf
    obtain ⟨q1, q2, q3⟩ := zRun_0 (l := zSc sg cnt 0 0 0) (zBg s)
    have hlen := zSc_len sg cnt 0 0 0
    have h60 := hp.1
    refine ⟨zEnd cnt sg s, I1, J, _, zEnd_V v hf hp.1, d1, d2, d3, e1, e2, e3, e4, e5, q1, q2, q3, fun z => ?_, fun m => ?_⟩
    · have := zRun_q (l := zSc sg cnt 0 0 0) (s := zBg s) (q := 0) (Or.inr ⟨rfl, rfl, rfl⟩) (by omega)
      rcases this with t | ⟨-, -, t⟩
      · exact absurd t z
      · rw [Nat.zero_add] at t
        exact t
    · have := zRun_h (l := zSc sg cnt 0 0 0) (s := zBg s) (B := 0) (fun m => Nat.le_refl 0) m
      show zRun (zSc sg cnt 0 0 0) (zBg s) 7 m < 1000
      omega
  · left
    exact ⟨c1 hf, (zmref hm v hp.m (n := n) (by omega)).1 hf⟩
theorem c_most {I : zI} (h : Rel I) {n : Nat} (hn : 5000 < n) : CO (BM_most n I) (Mo_most n) := by
  unfold BM_most
  obtain ⟨s, v, hc, hh | ⟨e, I1, J, len, w1, w2, w3, w4, w5, w6, w7, w8, w9, wa, wb, wc, wd, we⟩⟩ := zboth2 h hn
  · obtain ⟨t1, J, t2, t3, t4, t5⟩ := hh
    obtain ⟨J', b1, b2, b3, b4⟩ := zback t4 t3 rfl rfl rfl (n := n) (-5) (by omega)
    refine ⟨-5, I, J', ?_, ?_, Rel_back h hc v CF.rf (t5.tr (RF_back b3 b4)) b2⟩
    · rw [t1, Option.bind_some]
      exact if_neg (by decide)
    · unfold Mo_most
      rw [t2, Option.bind_some]
      show ((Mo_back n (-5) J).bind _) = _
      rw [b1, Option.bind_some]
      exact if_neg (by decide)
  · by_cases hq : e 8 2 < 100
    · obtain ⟨J', b1, b2, b3, b4⟩ := zback w7 w6.1 wa wb wc (n := n) (-3) (by omega)
      refine ⟨-3, I1, J', ?_, ?_, Rel_back h hc v w4 (w8.tr (RF_back b3 b4)) b2⟩
      · rw [w2, Option.bind_some, if_pos hq]
        exact if_neg (by decide)
      · unfold Mo_most
        rw [w5, if_pos hq, Option.bind_some]
        show ((Mo_back n (-3) J).bind _) = _
        rw [b1, Option.bind_some]
        exact if_neg (by decide)
    · obtain ⟨J', b1, b2, b3, b4⟩ := zback w7 w6.1 wa wb wc (n := n) (-6) (by omega)
      obtain ⟨r1, p1, p2⟩ := zcmost (I := I1) (g := e 7) (fun m hm => ⟨w3.2.1 m hm, we m⟩) 12 0 n 100 0 rfl (by omega) (Or.inl ⟨rfl, rfl, fun i hi => absurd hi (Nat.not_lt_zero i)⟩)
      obtain ⟨r2, p3, p4⟩ := zmmost (I := J') (g := e 7) (fun m hm => ⟨by rw [b3 86 (by decide) (by decide) (by decide) (by decide) (by decide)]; exact w6.2.1 m hm, we m⟩) 12 n 100 (by omega) (by omega) (Or.inl ⟨rfl, fun i h1 h2 => by omega⟩)
      have er := zMx_u p2 p4
      refine ⟨zE r1, I1, J', ?_, ?_, Rel_back h hc v w4 (w8.tr (RF_back b3 b4)) b2⟩
      · rw [w2, Option.bind_some, if_neg hq]
        refine Eq.trans (if_pos rfl) ?_
        unfold Co_mostHanded
        rw [show Co_mostHanded_L7 n (-6) 0 0 I1 = _ from p1, Option.bind_some, Option.bind_some]
      · unfold Mo_most
        rw [w5, if_neg hq, Option.bind_some]
        show ((Mo_back n (-6) J).bind _) = _
        rw [b1, Option.bind_some]
        refine Eq.trans (if_pos rfl) ?_
        rw [show Mo_most_L23 n (-6) 11 J' = _ from p3, Option.bind_some, er]
theorem c_done {I : zI} (h : Rel I) {n : Nat} (hn : 5000 < n) : CO (BM_done n I) (Mo_done n) := by
  unfold BM_done
  obtain ⟨⟨s, hc, hm, v⟩, ⟨cnt, sg, hp⟩, him, htw⟩ := id h
  obtain ⟨c1, c2⟩ := zctry hc v hp (n := n) (by omega)
  by_cases hf : zFl sg cnt 0 0 = 100
  · obtain ⟨I1, d1, d2, d3⟩ := c2 hf
    have v1 : VS (zEnd cnt sg s) := zEnd_V v hf hp.1
    obtain ⟨q1, q2, q3⟩ := zRun_0 (l := zSc sg cnt 0 0 0) (zBg s)
    have hlen := zSc_len sg cnt 0 0 0
    have h60 := hp.1
    have hm1 : GM I1 s := GM_fr hm (fun b b1 b2 => d3 b (by omega)) (by rw [d3 73 (by decide)]) (by rw [d3 73 (by decide)]) (by rw [d3 73 (by decide)])
    have hp1 : PDm I1 cnt sg := by
      refine ⟨hp.1, by rw [d3 73 (by decide)]; exact hp.2.2.1, fun q hq => ?_⟩
      rw [d3 82 (by decide)]
      exact (hp.2.2.2 q hq).2
    by_cases hq : zEnd cnt sg s 8 2 < 100
    · obtain ⟨J, w5, w6, w7, w8, w9⟩ := (zmref hm1 v hp1 (n := n) (by omega)).2 hf
      obtain ⟨J', b1, b2, b3, b4⟩ := zback w7 w6.1 q1 q2 q3 (n := n) (-3) (by omega)
      refine ⟨-3, I1, J', ?_, ?_, Rel_back h hc v d3 (w8.tr (RF_back b3 b4)) b2⟩
      · rw [d1, Option.bind_some, if_pos hq]
        exact if_neg (by decide)
      · unfold Mo_done
        rw [w5, if_pos hq, Option.bind_some]
        refine Eq.trans (if_neg (by decide)) ?_
        show ((Mo_back n (-3) J).bind _) = _
        rw [b1, Option.bind_some]
    · -- the garden is what the trial is, on both sides
      obtain ⟨K, k1, k2, k3⟩ := zcopy_2_39 d2.1
      have fK : ∀ b, b = 1 ∨ 12 < b → b ≠ 35 → zUp K 35 1 0 b = I1 b := fun b hb h35 => by rw [zUp_ne h35, k3 b (by omega) (by omega) (by omega) (by omega) (by omega) (by omega)]
      have hm2 : GM (zUp K 35 1 0) s := GM_fr hm1 (fun b b1 b2 => fK b (by omega) (by omega)) (by rw [fK 73 (by decide) (by decide)]) (by rw [fK 73 (by decide) (by decide)]) (by rw [fK 73 (by decide) (by decide)])
      have hp2 : PDm (zUp K 35 1 0) cnt sg := by
        unfold PDm
        rw [fK 73 (by decide) (by decide), fK 82 (by decide) (by decide)]
        exact hp1
      obtain ⟨J, w5, w6, w7, w8, w9⟩ := (zmref hm2 v hp2 (n := n) (by omega)).2 hf
      have hl : zEnd cnt sg s 8 0 = (zSc sg cnt 0 0 0).length := by
        have := zRun_q (l := zSc sg cnt 0 0 0) (s := zBg s) (q := 0) (Or.inr ⟨rfl, rfl, rfl⟩) (by omega)
        rcases this with t | ⟨-, -, t⟩
        · exact absurd t hq
        · rw [Nat.zero_add] at t
          exact t
      have hJ : ∀ b, b < 73 → zUp J 73 12 0 b = zUp K 35 1 0 b := fun b hb => by rw [zUp_ne (by omega), w8.1 b hb]
      have hJI : ∀ b, 13 ≤ b ∧ b ≤ 34 ∨ b = 1 ∨ b = 72 → zUp J 73 12 0 b = I b := fun b hb => by rw [hJ b (by omega), fK b (by omega) (by omega), d3 b (by omega)]
      refine ⟨zN (zSc sg cnt 0 0 0).length, zUp K 35 1 0, zUp J 73 12 0, ?_, ?_, ⟨zEnd cnt sg s, GC_fr k2 (fun b b1 b2 => by rw [hJ b (by omega), zUp_ne (by omega)]), GM_fr w6.1 (fun b b1 b2 => zUp_ne (by omega)) (zUp_nj (by decide)) (zUp_nj (by decide)) (zUp_nj (by decide)), v1⟩, ⟨0, sg, by omega, ?_, ?_, fun i hi => absurd hi (Nat.not_lt_zero i)⟩, IM_fr him (hJI 1 (by omega)) ?_ (fun b b1 b2 => hJI b (by omega)) ?_, TW_fr htw (hJI 72 (by omega))⟩
      · rw [d1, Option.bind_some, if_neg hq]
        refine Eq.trans (if_pos rfl) ?_
        unfold Pa_empty
        rw [k1, Option.bind_some, Option.bind_some, zUp_ne (by decide), k3 38 (by decide) (by decide) (by decide) (by decide) (by decide) (by decide), d2.2.2.1, hl]
      · unfold Mo_done
        rw [w5, if_neg hq, Option.bind_some]
        refine Eq.trans (if_pos rfl) ?_
        rw [zUp_nj (by decide), w9]
      · rw [hJ 35 (by decide), zUp_eq]
        rfl
      · rw [zUp_eq]
        rfl
      · rw [zUp_ne (by decide), w8.2.2.2.1, fK 95 (by decide) (by decide), d3 95 (by decide)]
      · rw [zUp_ne (by decide), w8.2.2.1, fK 94 (by decide) (by decide), d3 94 (by decide)]
  · obtain ⟨J, t2, t3, t4, t5⟩ := (zmref hm v hp.m (n := n) (by omega)).1 hf
    obtain ⟨J', b1, b2, b3, b4⟩ := zback t4 t3 rfl rfl rfl (n := n) (-5) (by omega)
    refine ⟨-5, I, J', ?_, ?_, Rel_back h hc v CF.rf (t5.tr (RF_back b3 b4)) b2⟩
    · rw [c1 hf, Option.bind_some]
      exact if_neg (by decide)
    · unfold Mo_done
      rw [t2, Option.bind_some]
      refine Eq.trans (if_neg (by decide)) ?_
      show ((Mo_back n (-5) J).bind _) = _
      rw [b1, Option.bind_some]
