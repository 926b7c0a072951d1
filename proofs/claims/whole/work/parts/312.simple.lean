/-! calls that move things -/
def BFr (I I1 : zI) : Prop := ∀ b, b = 1 ∨ 12 < b → I1 b = I b
theorem KR_bf {I I1 : zI} (h : BFr I I1) : KR I I1 := ⟨by rw [h 35 (by decide)], h 37 (by decide), by rw [h 1 (by decide)], h 72 (by decide), fun b b1 b2 => h b (by omega), h 82 (by decide), h 94 (by decide), h 95 (by decide), by rw [h 73 (by decide)]⟩
theorem GM_bf {I I1 : zI} {s : zA} (h : BFr I I1) (g : GM I s) : GM I1 s := GM_fr g (fun b b1 b2 => h b (by omega)) (by rw [h 73 (by decide)]) (by rw [h 73 (by decide)]) (by rw [h 73 (by decide)])
theorem Rel_mk {I I1 I2 : zI} {s : zA} (hr : RS I) (hc : GC 2 I1 s) (hm : GM I2 s) (v : VS s) (k1 : BFr I I1) (k2 : RF I1 I2) : Rel I2 := ⟨⟨s, GC_fr hc (fun b b1 b2 => k2.1 b (by omega)), hm, v⟩, RS_kr hr ((KR_bf k1).tr (KR_rf k2))⟩
theorem RF_up {I : zI} {c i : Nat} {x : Int32} (h1 : 73 < c) (h2 : c ≠ 82) (h3 : c ≠ 94) (h4 : c ≠ 95) : RF I (zUp I c i x) := ⟨fun b hb => zUp_ne (by omega), zUp_ne (by omega), zUp_ne (by omega), zUp_ne (by omega), by rw [zUp_ne (by omega)]⟩
theorem RF_sl {I : zI} {i : Nat} {x : Int32} (h : i ≠ 12) : RF I (zUp I 73 i x) := ⟨fun b hb => zUp_ne (by omega), zUp_ne (by omega), zUp_ne (by omega), zUp_ne (by omega), zUp_nj (fun z => h z.symm)⟩
theorem RF_of {I I' : zI} (h : ∀ b, b ≠ 76 → b ≠ 77 → b ≠ 78 → I' b = I b) : RF I I' := ⟨fun b hb => h b (by omega) (by omega) (by omega), h 82 (by decide) (by decide) (by decide), h 94 (by decide) (by decide) (by decide), h 95 (by decide) (by decide) (by decide), by rw [h 73 (by decide) (by decide) (by decide)]⟩
theorem VS_1 {s : zA} (v : VS s) {k b : Nat} (hb : b < 10) : VS (zUp s 1 k b) := by
  obtain ⟨g0, g1, g2, g3, g4, g5, g6, g7, g8, g9⟩ := v
  refine ⟨g0, g1, fun i hi => ?_, g3, g4, g5, g6, g7, g8, g9⟩
  rw [zUp_at]
  split
  · exact hb
  · exact g2 i hi
theorem c_stand {I : zI} (h : Rel I) (a0 a1 : Int32) : CO (BM_stand a0 a1 I) (Mo_stand a0 a1) := by
  rcases zW_c 0 7 a0 (by decide) (by decide) with ⟨a, -, ha, rfl, ea⟩ | ⟨ea, -⟩
  · rcases zW_c 0 9 a1 (by decide) (by decide) with ⟨b, -, hb, rfl, eb⟩ | ⟨eb, -⟩
    · obtain ⟨⟨s, hc, hm, v⟩, hr⟩ := h
      have k1 : BFr I (zUp I 6 a (zN b)) := fun c hc => zUp_ne (by omega)
      refine ⟨zN (s 1 a), zUp I 6 a (zN b), zUp (zUp I 6 a (zN b)) 75 a (zN b), ?_, ?_, Rel_mk (s := zUp s 1 a b) hr (GC_up1 (a := 2) hc) (GM_up1 (GM_bf k1 hm)) (VS_1 v (by omega)) k1 (RF_up (by decide) (by decide) (by decide) (by decide))⟩
      · unfold BM_stand
        rw [zbOne, ea, Option.bind_some, if_neg (by decide), zbBench, eb, Option.bind_some, if_neg (by decide), zbo2 hc (by omega), Option.bind_some]
        unfold Ga_standAt_2
        rw [zput_5 _ I (by omega), Option.bind_some, Option.bind_some]
      · unfold Mo_stand
        have ia := (zN_in (show a < 2147483648 by omega) (n := 8)).mpr (by omega)
        rw [zmOne, ea, Option.bind_some, if_neg (by decide), zmBench, eb, Option.bind_some, if_neg (by decide), if_pos ia, if_pos ia, zN_tn (by omega), zUp_ne (by decide), gm_p hm (by omega)]
    · refine CO_bad h (r := -1) ?_ ?_
      · unfold BM_stand
        rw [zbOne, ea, Option.bind_some, if_neg (by decide), zbBench, eb, Option.bind_some, if_pos (by decide)]
      · unfold Mo_stand
        rw [zmOne, ea, Option.bind_some, if_neg (by decide), zmBench, eb, Option.bind_some, if_pos (by decide)]
  · refine CO_bad h (r := -1) ?_ ?_
    · unfold BM_stand
      rw [zbOne, ea, Option.bind_some, if_pos (by decide)]
    · unfold Mo_stand
      rw [zmOne, ea, Option.bind_some, if_pos (by decide)]
/-- the reference loses a memory -/
theorem zlose {I : zI} {s : zA} (h : GM I s) (v : VS s) {m n : Nat} (hm : m < 12) (hn : 20 < n) : ∃ I', Mo_lose n (zN m) I = some (zE (s 2 m), I') ∧ (∀ b, b ≠ 76 → b ≠ 77 → b ≠ 78 → I' b = I b) ∧ (∀ k, k < 8 → I' 76 k = zE (if k = s 2 m then 100 else s 3 k)) ∧ (∀ b, b < 10 → I' 77 b = zE (if 10 + b = s 2 m then 100 else s 3 (10 + b))) ∧ (∀ b, b < 10 → I' 78 b = if 10 + b = s 2 m then -(zN 6) else I 78 b) := by
  unfold Mo_lose
  rw [zwhere (vs_pl v) (fun k hk => gm_h h hk) (fun k hk => gm_t h hk) hm (by omega), Option.bind_some]
  rcases zPl_c (vs_pl v) hm with q | q | q
  · rw [zE_lt (by omega), if_pos (by rw [zl_10, zN_lt (by omega) (by decide)]; omega), if_neg (by rw [zl_0, zN_lt (by omega) (by decide)]; omega), if_pos ((zN_in (by omega)).mpr q), zN_tn (by omega), Option.bind_some]
    refine ⟨_, rfl, fun b b1 b2 b3 => zUp_ne b1, fun k hk => ?_, fun b hb => ?_, fun b hb => ?_⟩
    · rw [zUp_at]
      by_cases z : k = s 2 m
      · rw [if_pos z, if_pos z]
        rfl
      · rw [if_neg z, if_neg z, gm_h h hk]
    · rw [zUp_ne (by decide), if_neg (by omega), gm_t h hb]
    · rw [zUp_ne (by decide), if_neg (by omega)]
  · obtain ⟨p, hp⟩ : ∃ p, s 2 m = 10 + p := ⟨s 2 m - 10, by omega⟩
    rw [hp, zE_lt (by omega), if_neg (by rw [zl_10, zN_lt (by omega) (by decide)]; omega), zl_10, zN_sub (by omega), show 10 + p - 10 = p by omega, if_pos ((zN_in (by omega)).mpr (by omega)), if_pos ((zN_in (by omega)).mpr (by omega)), zN_tn (by omega), Option.bind_some]
    refine ⟨_, rfl, fun b b1 b2 b3 => by rw [zUp_ne b3, zUp_ne b2], fun k hk => ?_, fun b hb => ?_, fun b hb => ?_⟩
    · rw [zUp_ne (by decide), zUp_ne (by decide), if_neg (by omega), gm_h h hk]
    · rw [zUp_ne (by decide), zUp_at]
      by_cases z : b = p
      · rw [if_pos z, if_pos (by omega)]
        rfl
      · rw [if_neg z, if_neg (by omega), gm_t h hb]
    · rw [zUp_at]
      by_cases z : b = p
      · rw [if_pos z, if_pos (by omega)]
        rfl
      · rw [if_neg z, if_neg (by omega), zUp_ne (by decide)]
  · rw [zE_ge (by omega), if_pos (by decide), if_pos (by decide), Option.bind_some]
    refine ⟨_, rfl, fun b b1 b2 b3 => rfl, fun k hk => ?_, fun b hb => ?_, fun b hb => ?_⟩
    · rw [if_neg (by omega), gm_h h hk]
    · rw [if_neg (by omega), gm_t h hb]
    · rw [if_neg (by omega)]
/-- the class makes what is at a place nowhere -/
theorem znow {I : zI} {s : zA} (h : GC 2 I s) (v : VS s) {p : Nat} (hp : p < 20) : ∃ I', Ga_makeNowhere_2 (zE (s 3 p)) I = some I' ∧ (∀ b, b ≠ 8 → I' b = I b) ∧ (∀ m, m < 12 → I' 8 m = if s 2 m = p then -(zN 6) else I 8 m) := by
  unfold Ga_makeNowhere_2
  have ho := zPl_o (vs_pl v) hp
  rcases ho with ho | ho
  · rw [zE_lt (by omega), zput_7 _ I ho, Option.bind_some]
    refine ⟨_, rfl, fun b b1 => zUp_ne b1, fun m hm => ?_⟩
    have hi := zPl_i (vs_pl v) hm hp
    rw [zUp_at]
    by_cases q : m = s 3 p
    · rw [if_pos q, if_pos (hi.mpr q.symm)]
      rfl
    · rw [if_neg q, if_neg (fun z => q (hi.mp z).symm)]
  · rw [zE_ge (by omega), zputn_7, Option.bind_some]
    refine ⟨_, rfl, fun b b1 => rfl, fun m hm => ?_⟩
    have hi := zPl_i (vs_pl v) hm hp
    rw [if_neg (fun z => by have := hi.mp z; omega)]
theorem VS_g {s : zA} (v : VS s) {m q : Nat} (hm : m < 12) (hq : q < 8 ∨ (10 ≤ q ∧ q < 20) ∨ q = 100) {f : Nat → Nat} (h1 : 10 ≤ q → q < 100 → 1 ≤ f m ∧ f m ≤ 9) (h2 : ∀ x, x ≠ m → f x = s 4 x) (h3 : f m ≤ 9) : VS (yPs s (zG2 (s 2) (s 3) m q) (zG3 (s 2) (s 3) m q) f) := by
  refine VS_ps v (zPl_g (vs_pl v) hm hq) (fun x hx h4 h5 => ?_) (fun x hx => ?_)
  · unfold zG2 at h4 h5
    by_cases z : x = m
    · rw [if_pos z] at h4 h5
      rw [z]
      exact h1 h4 h5
    · rw [if_neg z] at h4 h5
      by_cases z2 : s 2 x = q
      · rw [if_pos z2] at h5
        omega
      · rw [if_neg z2] at h4 h5
        rw [h2 x z]
        exact vs_fr v x hx h4 h5
  · by_cases z : x = m
    · rw [z]
      exact h3
    · rw [h2 x z]
      exact vs_f9 v x hx
theorem c_give {I : zI} (h : Rel I) {n : Nat} (hn : 5000 < n) (a0 a1 : Int32) : CO (BM_give n a0 a1 I) (Mo_give n a0 a1) := by
  rcases zW_c 0 11 a0 (by decide) (by decide) with ⟨m, -, hm, rfl, ea⟩ | ⟨ea, -⟩
  · rcases zW_c 0 7 a1 (by decide) (by decide) with ⟨k, -, hk, rfl, eb⟩ | ⟨eb, -⟩
    · obtain ⟨⟨s, hc, hg, v⟩, hr⟩ := h
      obtain ⟨J, j1, j2, j3⟩ := znow hc v (show k < 20 by omega)
      have k1 : BFr I (zUp J 8 m (zN k)) := fun c hc => by rw [zUp_ne (by omega), j2 c (by omega)]
      obtain ⟨L, l1, l2, l3, l4, l5⟩ := zlose (GM_bf k1 hg) v (show m < 12 by omega) (n := n) (by omega)
      have hz2 : ∀ x, x < 12 → zUp J 8 m (zN k) 8 x = zE (zG2 (s 2) (s 3) m k x) := by
        intro x hx
        rw [zUp_at]
        unfold zG2
        by_cases z : x = m
        · rw [if_pos z, if_pos z, zE_lt (by omega)]
        · rw [if_neg z, if_neg z, j3 x hx]
          by_cases z2 : s 2 x = k
          · rw [if_pos z2, if_pos z2]
            rfl
          · rw [if_neg z2, if_neg z2, gc2_2 hc hx]
      refine ⟨zE (s 2 m), zUp J 8 m (zN k), zUp L 76 k (zN m), ?_, ?_, Rel_mk (s := yPs s (zG2 (s 2) (s 3) m k) (zG3 (s 2) (s 3) m k) (s 4)) hr (GC_ps (a := 2) hc (fun b b1 b2 => by rw [zUp_ne b1, j2 b b1]) hz2 (fun x hx => by rw [zUp_ne (by decide), j2 _ (by decide)]; exact gc2_4 hc hx)) (GM_ps (GM_bf k1 hg) (fun b b1 b2 b3 => by rw [zUp_ne b1, l2 b b1 b2 b3]) (fun i hi => ?_) (fun b hb => ?_) (fun b hb => ?_)) (VS_g v (by omega) (Or.inl (by omega)) (fun z => by omega) (fun _ _ => rfl) (vs_f9 v m (by omega))) k1 ((RF_of l2).tr (RF_up (by decide) (by decide) (by decide) (by decide)))⟩
      · unfold BM_give
        rw [zbMem, ea, Option.bind_some, if_neg (by decide), zbOne, eb, Option.bind_some, if_neg (by decide)]
        unfold Ga_placeOf_2 Ga_heldBy_2 Ga_putWith_2
        rw [zat_7 I (by omega), Option.bind_some, Option.bind_some, gc2_2 hc (by omega), zma2 hc v (by omega) (by omega), Option.bind_some, Option.bind_some, j1, Option.bind_some, zput_7 _ J (by omega), Option.bind_some, Option.bind_some]
      · unfold Mo_give
        rw [zmMem, ea, Option.bind_some, if_neg (by decide), zmOne, eb, Option.bind_some, if_neg (by decide), l1, Option.bind_some]
        show (if zIn (zN k) 8 then some (zE (s 2 m), zUp L 76 (Int32.toNatClampNeg (zN k)) (zN m)) else none) = _
        rw [if_pos ((zN_in (by omega)).mpr (by omega)), zN_tn (by omega)]
      · rw [zUp_at]
        unfold zG3
        by_cases z : i = k
        · rw [if_pos z, if_pos z, zE_lt (by omega)]
        · rw [if_neg z, if_neg z, l3 i hi]
      · rw [zUp_ne (by decide), l4 b hb]
        unfold zG3
        rw [if_neg (show ¬ 10 + b = k by omega)]
      · rw [zUp_ne (by decide), l5 b hb]
        unfold zG3
        rw [if_neg (show ¬ 10 + b = k by omega)]
        by_cases z : 10 + b = s 2 m
        · rw [if_pos z, if_pos z]
          rfl
        · rw [if_neg z, if_neg z, gm_f (GM_bf k1 hg) hb]
    · refine CO_bad h (r := -1) ?_ ?_
      · unfold BM_give
        rw [zbMem, ea, Option.bind_some, if_neg (by decide), zbOne, eb, Option.bind_some, if_pos (by decide)]
      · unfold Mo_give
        rw [zmMem, ea, Option.bind_some, if_neg (by decide), zmOne, eb, Option.bind_some, if_pos (by decide)]
  · refine CO_bad h (r := -1) ?_ ?_
    · unfold BM_give
      rw [zbMem, ea, Option.bind_some, if_pos (by decide)]
    · unfold Mo_give
      rw [zmMem, ea, Option.bind_some, if_pos (by decide)]
theorem c_lay {I : zI} (h : Rel I) {n : Nat} (hn : 5000 < n) (a0 a1 a2 : Int32) : CO (BM_lay n a0 a1 a2 I) (Mo_lay n a0 a1 a2) := by
  rcases zW_c 0 11 a0 (by decide) (by decide) with ⟨m, -, hm, rfl, ea⟩ | ⟨ea, -⟩
  · rcases zW_c 0 9 a1 (by decide) (by decide) with ⟨k, -, hk, rfl, eb⟩ | ⟨eb, -⟩
    · rcases zW_c 1 9 a2 (by decide) (by decide) with ⟨w, hw1, hw2, rfl, ec⟩ | ⟨ec, -⟩
      · obtain ⟨⟨s, hc, hg, v⟩, hr⟩ := h
        obtain ⟨J, j1, j2, j3⟩ := znow hc v (show 10 + k < 20 by omega)
        have k1 : BFr I (zUp (zUp J 8 m (zN (10 + k))) 10 m (zN w)) := fun c hc => by rw [zUp_ne (by omega), zUp_ne (by omega), j2 c (by omega)]
        obtain ⟨L, l1, l2, l3, l4, l5⟩ := zlose (GM_bf k1 hg) v (show m < 12 by omega) (n := n) (by omega)
        have hz2 : ∀ x, x < 12 → zUp (zUp J 8 m (zN (10 + k))) 10 m (zN w) 8 x = zE (zG2 (s 2) (s 3) m (10 + k) x) := by
          intro x hx
          rw [zUp_ne (by decide), zUp_at]
          unfold zG2
          by_cases z : x = m
          · rw [if_pos z, if_pos z, zE_lt (by omega)]
          · rw [if_neg z, if_neg z, j3 x hx]
            by_cases z2 : s 2 x = 10 + k
            · rw [if_pos z2, if_pos z2]
              rfl
            · rw [if_neg z2, if_neg z2, gc2_2 hc hx]
        have hf : ∀ x, (fun x => if x = m then w else s 4 x) x = if x = m then w else s 4 x := fun _ => rfl
        refine ⟨zE (s 2 m), zUp (zUp J 8 m (zN (10 + k))) 10 m (zN w), zUp (zUp L 77 k (zN m)) 78 k (zN w), ?_, ?_, Rel_mk (s := yPs s (zG2 (s 2) (s 3) m (10 + k)) (zG3 (s 2) (s 3) m (10 + k)) (fun x => if x = m then w else s 4 x)) hr (GC_ps (a := 2) hc (fun b b1 b2 => by rw [zUp_ne b2, zUp_ne b1, j2 b b1]) hz2 (fun x hx => ?_)) (GM_ps (GM_bf k1 hg) (fun b b1 b2 b3 => by rw [zUp_ne b3, zUp_ne b2, l2 b b1 b2 b3]) (fun i hi => ?_) (fun b hb => ?_) (fun b hb => ?_)) (VS_g v (by omega) (Or.inr (Or.inl (by omega))) (fun _ _ => by rw [if_pos rfl]; omega) (fun x hx => by rw [if_neg hx]) (by rw [if_pos rfl]; omega)) k1 ((RF_of l2).tr ((RF_up (by decide) (by decide) (by decide) (by decide)).tr (RF_up (by decide) (by decide) (by decide) (by decide))))⟩
        · unfold BM_lay
          rw [zbMem, ea, Option.bind_some, if_neg (by decide), zbBench, eb, Option.bind_some, if_neg (by decide), zbi_1_9, ec, Option.bind_some, if_neg (by decide)]
          unfold Ga_placeOf_2 Ga_lyingOn_2 Ga_putOn_2
          rw [zat_7 I (by omega), Option.bind_some, Option.bind_some, gc2_2 hc (by omega), zl_10, zN_add, zma2 hc v (by omega) (by omega), Option.bind_some, Option.bind_some, j1, Option.bind_some, zput_7 _ J (by omega), Option.bind_some, zput_9 _ _ (by omega), Option.bind_some, Option.bind_some]
        · unfold Mo_lay
          rw [zmMem, ea, Option.bind_some, if_neg (by decide), zmBench, eb, Option.bind_some, if_neg (by decide), zmi_1_9, ec, Option.bind_some, if_neg (by decide), l1, Option.bind_some]
          show (if zIn (zN k) 10 then if zIn (zN k) 10 then some (zE (s 2 m), zUp (zUp L 77 (Int32.toNatClampNeg (zN k)) (zN m)) 78 (Int32.toNatClampNeg (zN k)) (zN w)) else none else none) = _
          rw [if_pos ((zN_in (by omega)).mpr (by omega)), if_pos ((zN_in (by omega)).mpr (by omega)), zN_tn (by omega)]
        · show zUp (zUp J 8 m (zN (10 + k))) 10 m (zN w) 10 x = zN (if x = m then w else s 4 x)
          rw [zUp_at]
          by_cases z : x = m
          · rw [if_pos z, if_pos z]
          · rw [if_neg z, if_neg z, zUp_ne (by decide), j2 _ (by decide), gc2_4 hc hx]
        · rw [zUp_ne (by decide), zUp_ne (by decide), l3 i hi]
          unfold zG3
          rw [if_neg (show ¬ i = 10 + k by omega)]
        · rw [zUp_ne (by decide), zUp_at]
          unfold zG3
          by_cases z : b = k
          · rw [if_pos z, if_pos (by omega), zE_lt (by omega)]
          · rw [if_neg z, if_neg (by omega), l4 b hb]
        · rw [zUp_at]
          have e : zG3 (s 2) (s 3) m (10 + k) (10 + b) = if b = k then m else if 10 + b = s 2 m then 100 else s 3 (10 + b) := by
            unfold zG3
            by_cases z : b = k
            · rw [if_pos z, if_pos (by omega)]
            · rw [if_neg z, if_neg (by omega)]
          rw [e]
          by_cases z : b = k
          · rw [if_pos z, if_pos z, if_pos (by omega), if_pos rfl]
          · rw [if_neg z, if_neg z, zUp_ne (by decide), l5 b hb]
            by_cases z2 : 10 + b = s 2 m
            · rw [if_pos z2, if_pos z2]
              rfl
            · rw [if_neg z2, if_neg z2, gm_f (GM_bf k1 hg) hb]
              have hi := zPl_i (vs_pl v) (show m < 12 by omega) (show 10 + b < 20 by omega)
              rw [if_neg (show ¬ s 3 (10 + b) = m from fun z3 => z2 (hi.mpr z3).symm)]
      · refine CO_bad h (r := -2) ?_ ?_
        · unfold BM_lay
          rw [zbMem, ea, Option.bind_some, if_neg (by decide), zbBench, eb, Option.bind_some, if_neg (by decide), zbi_1_9, ec, Option.bind_some, if_pos (by decide)]
        · unfold Mo_lay
          rw [zmMem, ea, Option.bind_some, if_neg (by decide), zmBench, eb, Option.bind_some, if_neg (by decide), zmi_1_9, ec, Option.bind_some, if_pos (by decide)]
    · refine CO_bad h (r := -1) ?_ ?_
      · unfold BM_lay
        rw [zbMem, ea, Option.bind_some, if_neg (by decide), zbBench, eb, Option.bind_some, if_pos (by decide)]
      · unfold Mo_lay
        rw [zmMem, ea, Option.bind_some, if_neg (by decide), zmBench, eb, Option.bind_some, if_pos (by decide)]
  · refine CO_bad h (r := -1) ?_ ?_
    · unfold BM_lay
      rw [zbMem, ea, Option.bind_some, if_pos (by decide)]
    · unfold Mo_lay
      rw [zmMem, ea, Option.bind_some, if_pos (by decide)]
theorem c_forget {I : zI} (h : Rel I) {n : Nat} (hn : 5000 < n) (a0 : Int32) : CO (BM_forget a0 I) (Mo_forget n a0) := by
  rcases zW_c 0 11 a0 (by decide) (by decide) with ⟨m, -, hm, rfl, ea⟩ | ⟨ea, -⟩
  · obtain ⟨⟨s, hc, hg, v⟩, hr⟩ := h
    have k1 : BFr I (zUp I 8 m (-6)) := fun c hc => zUp_ne (by omega)
    obtain ⟨L, l1, l2, l3, l4, l5⟩ := zlose (GM_bf k1 hg) v (show m < 12 by omega) (n := n) (by omega)
    have hz2 : ∀ x, x < 12 → zUp I 8 m (-6) 8 x = zE (zG2 (s 2) (s 3) m 100 x) := by
      intro x hx
      rw [zUp_at]
      unfold zG2
      by_cases z : x = m
      · rw [if_pos z, if_pos z]
        rfl
      · rw [if_neg z, if_neg z, gc2_2 hc hx]
        by_cases z2 : s 2 x = 100
        · rw [if_pos z2, z2]
        · rw [if_neg z2]
    have hc0 := zPl_c (vs_pl v) (show m < 12 by omega)
    refine ⟨zE (s 2 m), zUp I 8 m (-6), L, ?_, ?_, Rel_mk (s := yPs s (zG2 (s 2) (s 3) m 100) (zG3 (s 2) (s 3) m 100) (s 4)) hr (GC_ps (a := 2) hc (fun b b1 b2 => zUp_ne b1) hz2 (fun x hx => by rw [zUp_ne (by decide)]; exact gc2_4 hc hx)) (GM_ps (GM_bf k1 hg) l2 (fun i hi => ?_) (fun b hb => ?_) (fun b hb => ?_)) (VS_g v (by omega) (Or.inr (Or.inr rfl)) (fun _ z => by omega) (fun _ _ => rfl) (vs_f9 v m (by omega))) k1 (RF_of l2)⟩
    · unfold BM_forget
      rw [zbMem, ea, Option.bind_some, if_neg (by decide)]
      unfold Ga_placeOf_2 Ga_makeNowhere_2
      rw [zat_7 I (by omega), Option.bind_some, Option.bind_some, gc2_2 hc (by omega), zput_7 _ I (by omega), Option.bind_some, Option.bind_some]
    · unfold Mo_forget
      rw [zmMem, ea, Option.bind_some, if_neg (by decide), l1, Option.bind_some]
    · rw [l3 i hi]
      unfold zG3
      rw [if_neg (show ¬ i = 100 by omega)]
    · rw [l4 b hb]
      unfold zG3
      rw [if_neg (show ¬ 10 + b = 100 by omega)]
    · rw [l5 b hb]
      unfold zG3
      rw [if_neg (show ¬ 10 + b = 100 by omega)]
      by_cases z : 10 + b = s 2 m
      · rw [if_pos z, if_pos z]
        rfl
      · rw [if_neg z, if_neg z, gm_f (GM_bf k1 hg) hb]
  · refine CO_bad h (r := -1) ?_ ?_
    · unfold BM_forget
      rw [zbMem, ea, Option.bind_some, if_pos (by decide)]
    · unfold Mo_forget
      rw [zmMem, ea, Option.bind_some, if_pos (by decide)]
