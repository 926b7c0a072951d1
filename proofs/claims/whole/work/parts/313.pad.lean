/-! the pad, and days as the calls tell them -/
def CP (x : Option Int32) (y : Option (Int32 × zI)) : Prop := ∃ r I2, x = some r ∧ y = some (r, I2) ∧ Rel I2
theorem TW_fr {I I' : zI} (h : TW I) (h1 : I' 72 = I 72) : TW I' := fun i hi => by rw [h1]; exact h i hi
theorem IM_fr {I I' : zI} (h : IM I) (h1 : I' 1 = I 1) (h2 : I' 95 = I 95) (h3 : ∀ b, 13 ≤ b → b ≤ 34 → I' b = I b) (h4 : I' 94 = I 94) : IM I' := by
  obtain ⟨w, w1, w2, w3⟩ := h
  refine ⟨w, w1, by rw [h1]; exact w2, fun j hj => ?_⟩
  obtain ⟨g1, g2⟩ := w3 j hj
  rw [h2]
  refine ⟨g1, fun z => ?_⟩
  obtain ⟨s, s1, s2, s3⟩ := g2 z
  exact ⟨s, GC_fr s1 (fun b b1 b2 => h3 b (by omega) (by omega)), GK_fr s2 h4, s3⟩
theorem Rel_pad {I I2 : zI} {cnt : Nat} {sg : Nat → Nat} (h : Rel I) (hp : PD I2 cnt sg) (h1 : ∀ b, b ≠ 35 → b ≠ 37 → b ≠ 73 → b ≠ 82 → I2 b = I b) (h2 : ∀ i, i ≠ 12 → I2 73 i = I 73 i) : Rel I2 := by
  obtain ⟨⟨s, hc, hm, v⟩, -, hi, ht⟩ := h
  exact ⟨⟨s, GC_fr hc (fun b b1 b2 => h1 b (by omega) (by omega) (by omega) (by omega)), GM_fr hm (fun b b1 b2 => h1 b (by omega) (by omega) (by omega) (by omega)) (h2 5 (by decide)) (h2 6 (by decide)) (h2 10 (by decide)), v⟩, ⟨cnt, sg, hp⟩, IM_fr hi (h1 1 (by decide) (by decide) (by decide) (by decide)) (h1 95 (by decide) (by decide) (by decide) (by decide)) (fun b b1 b2 => h1 b (by omega) (by omega) (by omega) (by omega)) (h1 94 (by decide) (by decide) (by decide) (by decide)), TW_fr ht (h1 72 (by decide) (by decide) (by decide) (by decide))⟩
theorem c_say {I : zI} (h : Rel I) (a0 : Int32) : CO (BM_say a0 I) (Mo_say a0) := by
  rcases zW_c 33 126 a0 (by decide) (by decide) with ⟨c, hc1, hc2, rfl, ea⟩ | ⟨ea, -⟩
  · obtain ⟨cnt, sg, p1, p2, p3, p4⟩ := h.2.1
    by_cases hq : cnt < 60
    · have e1 : zUp (zUp I 37 cnt (zN c)) 35 1 (zN (cnt + 1)) 73 = I 73 := by rw [zUp_ne (by decide), zUp_ne (by decide)]
      refine ⟨zN (cnt + 1), zUp (zUp I 37 cnt (zN c)) 35 1 (zN (cnt + 1)), zUp (zUp (zUp (zUp I 37 cnt (zN c)) 35 1 (zN (cnt + 1))) 82 cnt (zN c)) 73 12 (zN (cnt + 1)), ?_, ?_, Rel_pad (cnt := cnt + 1) (sg := fun i => if i = cnt then c else sg i) h ⟨by omega, ?_, ?_, fun i hi => ?_⟩ (fun b b1 b2 b3 b4 => by rw [zUp_ne b3, zUp_ne b4, zUp_ne b1, zUp_ne b2]) (fun i i1 => by rw [zUp_nj i1, zUp_ne (by decide), e1])⟩
      · unfold BM_say
        rw [zbi_33_126, ea, Option.bind_some, if_neg (by decide), p2, if_pos (by rw [zl_60, zN_lt (by omega) (by decide)]; omega)]
        unfold Pa_append
        rw [p2, zput_36 _ I hq, Option.bind_some, zUp_ne (by decide), p2, zl_1, zN_add, Option.bind_some, zUp_eq]
      · unfold Mo_say
        have e2 : ∀ (w : Int32), zUp (zUp (zUp I 37 cnt (zN c)) 35 1 (zN (cnt + 1))) 82 cnt w 73 12 = zN cnt := fun w => by rw [zUp_ne (by decide), e1, p3]
        have e3 : zUp (zUp I 37 cnt (zN c)) 35 1 (zN (cnt + 1)) 73 12 = zN cnt := by rw [e1, p3]
        rw [zmi_33_126, ea, Option.bind_some, if_neg (by decide)]
        simp only [e3, zN_tn (show cnt < 2147483648 by omega)]
        rw [if_neg (by rw [zl_60, zN_inj (by omega) (by decide)]; omega), if_pos ((zN_in (by omega)).mpr hq), e2, zl_1, zN_add, zUp_eq]
      · rw [zUp_ne (by decide), zUp_ne (by decide), zUp_eq]
      · rw [zUp_eq]
      · by_cases z : i = cnt
        · refine ⟨?_, ?_, ?_⟩
          · rw [zUp_ne (by decide), zUp_ne (by decide), zUp_ne (by decide), zUp_at, if_pos z]
            show _ = zN (if i = cnt then c else sg i)
            rw [if_pos z]
          · rw [zUp_ne (by decide), zUp_at, if_pos z]
            show _ = zN (if i = cnt then c else sg i)
            rw [if_pos z]
          · show (if i = cnt then c else sg i) < 200
            rw [if_pos z]
            omega
        · obtain ⟨q1, q2, q3⟩ := p4 i (by omega)
          refine ⟨?_, ?_, ?_⟩
          · rw [zUp_ne (by decide), zUp_ne (by decide), zUp_ne (by decide), zUp_at, if_neg z, q1]
            show _ = zN (if i = cnt then c else sg i)
            rw [if_neg z]
          · rw [zUp_ne (by decide), zUp_at, if_neg z, zUp_ne (by decide), zUp_ne (by decide), q2]
            show _ = zN (if i = cnt then c else sg i)
            rw [if_neg z]
          · show (if i = cnt then c else sg i) < 200
            rw [if_neg z]
            exact q3
    · refine CO_bad h (r := -4) ?_ ?_
      · unfold BM_say
        rw [zbi_33_126, ea, Option.bind_some, if_neg (by decide), p2, if_neg (by rw [zl_60, zN_lt (by omega) (by decide)]; omega)]
      · unfold Mo_say
        rw [zmi_33_126, ea, Option.bind_some, if_neg (by decide), p3, if_pos (by rw [zl_60, zN_inj (by omega) (by decide)]; omega)]
  · refine CO_bad h (r := -2) ?_ ?_
    · unfold BM_say
      rw [zbi_33_126, ea, Option.bind_some, if_pos (by decide)]
    · unfold Mo_say
      rw [zmi_33_126, ea, Option.bind_some, if_pos (by decide)]
theorem c_wipe {I : zI} (h : Rel I) : CO (BM_wipe I) Mo_wipe := by
  obtain ⟨cnt, sg, p1, p2, p3, p4⟩ := h.2.1
  refine ⟨zN cnt, zUp I 35 1 0, zUp (zUp I 35 1 0) 73 12 0, ?_, ?_, Rel_pad (cnt := 0) (sg := sg) h ⟨by omega, ?_, ?_, fun i hi => absurd hi (Nat.not_lt_zero i)⟩ (fun b b1 b2 b3 b4 => by rw [zUp_ne b3, zUp_ne b1]) (fun i i1 => by rw [zUp_nj i1, zUp_ne (by decide)])⟩
  · unfold BM_wipe Pa_empty
    rw [Option.bind_some, p2]
  · unfold Mo_wipe
    rw [zUp_ne (by decide), p3]
  · rw [zUp_ne (by decide), zUp_eq]
    rfl
  · rw [zUp_eq]
    rfl
theorem c_fault {I : zI} (h : Rel I) {n : Nat} (hn : 5000 < n) : CP (BM_fault n I) (Mo_fault n I) := by
  obtain ⟨cnt, sg, hp⟩ := h.2.1
  obtain ⟨I', e1, e2, e3, -⟩ := zmfault hp.m (n := n) (by omega)
  refine ⟨zE (zFl sg cnt 0 0), I', ?_, e1, ?_⟩
  · unfold BM_fault
    rw [zcfault hp (by omega), Option.bind_some]
  · obtain ⟨⟨s, hc, hm, v⟩, hr⟩ := h
    have hrf : RF I I' := ⟨fun b hb => e2 b (by omega) (by omega) (by omega) (by omega), e2 82 (by decide) (by decide) (by decide) (by decide), e2 94 (by decide) (by decide) (by decide) (by decide), e2 95 (by decide) (by decide) (by decide) (by decide), e3 12 (by decide)⟩
    exact ⟨⟨s, GC_fr hc (fun b b1 b2 => hrf.1 b (by omega)), GM_fr hm (fun b b1 b2 => e2 b (by omega) (by omega) (by omega) (by omega)) (e3 5 (by decide)) (e3 6 (by decide)) (e3 10 (by decide)), v⟩, RS_kr hr (KR_rf hrf)⟩
theorem zRun_q {l : List (Nat × Nat × Nat)} : ∀ {s : zA} {q : Nat}, zAtq s q → q + l.length ≤ 60 → zAtq (zRun l s) (q + l.length) := by
  induction l with
  | nil => exact fun h _ => h
  | cons x l ih =>
    intro s q h hq
    rw [List.length_cons] at hq ⊢
    have := ih (zSt1_q h (by omega) x) (by omega)
    rw [show q + (l.length + 1) = q + 1 + l.length by omega]
    exact this
/-- both sides at a text of days -/
theorem zboth {I : zI} (h : Rel I) {n : Nat} (hn : 5000 < n) : ∃ s, VS s ∧ GC 2 I s ∧ ((Co_tryOut_2_35 n I = some (-5, I) ∧ ∃ J, Mo_refusal n I = some (-5, J) ∧ GM J s ∧ KP J s ∧ RF I J) ∨ ∃ e I1 J len, VS e ∧ Co_tryOut_2_35 n I = some (if e 8 2 < 100 then -3 else 0, I1) ∧ GT I1 e ∧ CF I I1 ∧ Mo_refusal n I1 = some (if e 8 2 < 100 then -3 else -6, J) ∧ RT J e ∧ KP J s ∧ RF I1 J ∧ J 73 16 = zN len ∧ e 0 = s 0 ∧ e 6 = s 6 ∧ e 5 2 = s 5 2 ∧ (¬ e 8 2 < 100 → e 8 0 = len)) := by
  obtain ⟨⟨s, hc, hm, v⟩, ⟨cnt, sg, hp⟩, -, -⟩ := h
  obtain ⟨c1, c2⟩ := zctry hc v hp (n := n) (by omega)
  refine ⟨s, v, hc, ?_⟩
  by_cases hf : zFl sg cnt 0 0 = 100
  · right
    obtain ⟨I1, d1, d2, d3⟩ := c2 hf
    have hp1 : PD I1 cnt sg := by
      refine ⟨hp.1, by rw [d3 35 (by decide)]; exact hp.2.1, by rw [d3 73 (by decide)]; exact hp.2.2.1, fun q hq => ?_⟩
      rw [d3 37 (by decide), d3 82 (by decide)]
      exact hp.2.2.2 q hq
    have hm1 : GM I1 s := GM_fr hm (fun b b1 b2 => d3 b (by omega)) (by rw [d3 73 (by decide)]) (by rw [d3 73 (by decide)]) (by rw [d3 73 (by decide)])
    obtain ⟨J, e1, e2, e3, e4, e5⟩ := (zmref hm1 v hp1.m (n := n) (by omega)).2 hf
    obtain ⟨q1, q2, q3⟩ := zRun_0 (l := zSc sg cnt 0 0 0) (zBg s)
    have hlen := zSc_len sg cnt 0 0 0
    have h60 := hp.1
    refine ⟨zEnd cnt sg s, I1, J, _, zEnd_V v hf hp.1, d1, d2, d3, e1, e2, e3, e4, e5, q1, q2, q3, fun z => ?_⟩
    have := zRun_q (l := zSc sg cnt 0 0 0) (s := zBg s) (q := 0) (Or.inr ⟨rfl, rfl, rfl⟩) (by omega)
    rcases this with t | ⟨-, -, t⟩
    · exact absurd t z
    · rw [Nat.zero_add] at t
      exact t
  · left
    exact ⟨c1 hf, (zmref hm v hp.m (n := n) (by omega)).1 hf⟩
theorem RF_back {J J' : zI} (h1 : ∀ b, b ≠ 73 → b ≠ 75 → b ≠ 76 → b ≠ 77 → b ≠ 78 → J' b = J b) (h2 : ∀ i, i ≠ 5 → i ≠ 6 → J' 73 i = J 73 i) : RF J J' := ⟨fun b hb => h1 b (by omega) (by omega) (by omega) (by omega) (by omega), h1 82 (by decide) (by decide) (by decide) (by decide) (by decide), h1 94 (by decide) (by decide) (by decide) (by decide) (by decide), h1 95 (by decide) (by decide) (by decide) (by decide) (by decide), h2 12 (by decide) (by decide)⟩
theorem Rel_back {I I1 J : zI} {s : zA} (h : Rel I) (hc : GC 2 I s) (v : VS s) (h1 : CF I I1) (h2 : RF I1 J) (hm : GM J s) : Rel J := ⟨⟨s, GC_fr hc (fun b b1 b2 => by rw [h2.1 b (by omega), h1 b (by omega)]), hm, v⟩, RS_kr h.2 ((KR_cf h1).tr (KR_rf h2))⟩
theorem c_judge {I : zI} (h : Rel I) {n : Nat} (hn : 5000 < n) (a0 : Int32) : CO (BM_judge n a0 I) (Mo_judge n a0) := by
  rcases zW_c 0 2 a0 (by decide) (by decide) with ⟨k, -, hk, rfl, ea⟩ | ⟨ea, -⟩
  · unfold BM_judge
    rw [zbi_0_2, ea, Option.bind_some, if_neg (by decide)]
    obtain ⟨s, v, hc, hh | ⟨e, I1, J, len, w1, w2, w3, w4, w5, w6, w7, w8, w9, wa, wb, wc, wd⟩⟩ := zboth h hn
    · obtain ⟨t1, J, t2, t3, t4, t5⟩ := hh
      obtain ⟨J', b1, b2, b3, b4⟩ := zback t4 t3 rfl rfl rfl (n := n) (-5) (by omega)
      refine ⟨-5, I, J', ?_, ?_, Rel_back h hc v CF.rf (t5.tr (RF_back b3 b4)) b2⟩
      · rw [t1, Option.bind_some]
        exact if_pos rfl
      · unfold Mo_judge
        rw [zmi_0_2, ea, Option.bind_some, if_neg (by decide), t2, Option.bind_some]
        show ((Mo_back n (-5) J).bind _) = _
        rw [b1, Option.bind_some]
        exact if_pos rfl
    · obtain ⟨J', b1, b2, b3, b4⟩ := zback w7 w6.1 wa wb wc (n := n) (if e 8 2 < 100 then -3 else -6) (by omega)
      have hrel := Rel_back h hc v w4 (w8.tr (RF_back b3 b4)) b2
      obtain ⟨-, -, g2, g3, g4, g5⟩ := w3
      obtain ⟨-, -, r1, r2, r3⟩ := w6
      have s1 : J' 73 19 = zE (e 8 2) := by rw [b4 19 (by decide) (by decide), r1]
      have s2 : J' 73 20 = zE (e 8 3) := by rw [b4 20 (by decide) (by decide), r2]
      have s3 : J' 73 21 = zN (e 8 1) := by rw [b4 21 (by decide) (by decide), r3]
      have hmo : ∀ (r : Int32), ((if (if e 8 2 < 100 then (-3 : Int32) else -6) = -5 then some ((if e 8 2 < 100 then (-3 : Int32) else -6), J') else if zN k ≤ 1 then if zN k = 0 then some (J' 73 19, J') else if zN k = 1 then some (J' 73 20, J') else some (J' 73 21, J') else if (if e 8 2 < 100 then (-3 : Int32) else -6) = -3 then some ((if e 8 2 < 100 then (-3 : Int32) else -6), J') else if zN k = 0 then some (J' 73 19, J') else if zN k = 1 then some (J' 73 20, J') else some (J' 73 21, J')) = some (r, J')) → Mo_judge n (zN k) I1 = some (r, J') := by
        intro r hr
        unfold Mo_judge
        rw [zmi_0_2, ea, Option.bind_some, if_neg (by decide), w5, Option.bind_some]
        show ((Mo_back n (if e 8 2 < 100 then -3 else -6) J).bind _) = _
        rw [b1, Option.bind_some]
        exact hr
      rw [w2, Option.bind_some]
      by_cases hq : e 8 2 < 100
      · simp only [if_pos hq] at hmo ⊢
        rcases (show k = 0 ∨ k = 1 ∨ k = 2 by omega) with rfl | rfl | rfl
        · refine ⟨zE (e 8 2), I1, J', ?_, hmo _ ?_, hrel⟩
          · rw [if_neg (by decide), if_neg (by decide), if_neg (by decide), if_pos (by decide), g4]
          · rw [if_neg (by decide), if_pos (by decide), if_pos (by decide), s1]
        · refine ⟨zE (e 8 3), I1, J', ?_, hmo _ ?_, hrel⟩
          · rw [if_neg (by decide), if_neg (by decide), if_neg (by decide), if_neg (by decide), g5]
          · rw [if_neg (by decide), if_pos (by decide), if_neg (by decide), if_pos (by decide), s2]
        · refine ⟨-3, I1, J', ?_, hmo _ ?_, hrel⟩
          · rw [if_neg (by decide), if_pos (by decide), if_pos (by decide)]
          · rw [if_neg (by decide), if_neg (by decide), if_pos (by decide)]
      · simp only [if_neg hq] at hmo ⊢
        rcases (show k = 0 ∨ k = 1 ∨ k = 2 by omega) with rfl | rfl | rfl
        · refine ⟨zE (e 8 2), I1, J', ?_, hmo _ ?_, hrel⟩
          · rw [if_neg (by decide), if_neg (by decide), if_neg (by decide), if_pos (by decide), g4]
          · rw [if_neg (by decide), if_pos (by decide), if_pos (by decide), s1]
        · refine ⟨zE (e 8 3), I1, J', ?_, hmo _ ?_, hrel⟩
          · rw [if_neg (by decide), if_neg (by decide), if_neg (by decide), if_neg (by decide), g5]
          · rw [if_neg (by decide), if_pos (by decide), if_neg (by decide), if_pos (by decide), s2]
        · refine ⟨zN (e 8 1), I1, J', ?_, hmo _ ?_, hrel⟩
          · rw [if_neg (by decide), if_pos (by decide), if_neg (by decide), if_pos (by decide), g3]
          · rw [if_neg (by decide), if_neg (by decide), if_neg (by decide), if_neg (by decide), if_neg (by decide), s3]
  · refine CO_bad h (r := -2) ?_ ?_
    · unfold BM_judge
      rw [zbi_0_2, ea, Option.bind_some, if_pos (by decide)]
    · unfold Mo_judge
      rw [zmi_0_2, ea, Option.bind_some, if_pos (by decide)]
