/-! a day's act by act, on both sides -/
theorem VS_day {s : zA} (v : VS s) {d : Nat} (h : d ≤ 99) : VS (zUp s 5 1 d) := by
  obtain ⟨g0, g1, g2, g3, g4, g5, g6, g7, g8, g9⟩ := v
  exact ⟨g0, g1, g2, g3, g4, g5, h, g7, g8, g9⟩
theorem VS_do {s : zA} (v : VS s) {a k t : Nat} (ha : a < 6) (hk : k < 8) (ht : zTok a t) (hw : zWhy s a k t = 0) : VS (zDo s a k t) := by
  have hpl := vs_pl v
  have hb := vs_p v k hk
  rcases z6 ha with rfl | rfl | rfl | rfl | rfl | rfl
  · have h1 := ht.1 rfl
    obtain ⟨g0, g1, g2, g3, g4, g5, g6, g7, g8, g9⟩ := v
    refine ⟨g0, g1, fun i hi => ?_, g3, g4, g5, g6, g7, g8, g9⟩
    show zUp s 1 k t 1 i < 10
    rw [zUp_at]
    split
    · exact h1
    · exact g2 i hi
  · refine VS_ps v (zPl_x hpl (Or.inl hk) (Or.inr (by omega))) (fun m hm h1 h2 => ?_) (fun m hm => ?_)
    · have i1 := zPl_i hpl hm (show k < 20 by omega)
      by_cases q : m = s 3 k
      · rw [if_pos q]
        omega
      · rw [if_neg q]
        unfold zX2 at h1 h2
        rw [if_neg (fun z => q (i1.mp z).symm)] at h1 h2
        by_cases q2 : s 2 m = 10 + s 1 k
        · rw [if_pos q2] at h1
          omega
        · rw [if_neg q2] at h1 h2
          exact vs_fr v m hm h1 h2
    · have := vs_f9 v m hm
      split <;> omega
  · have h1 := ht.2.1 rfl
    refine VS_ps v (zPl_x hpl (Or.inl hk) (Or.inl h1)) (fun m hm h2 h3 => ?_) (vs_f9 v)
    unfold zX2 at h2 h3
    by_cases q : s 2 m = k
    · rw [if_pos q] at h2
      omega
    · rw [if_neg q] at h2 h3
      by_cases q2 : s 2 m = t
      · rw [if_pos q2] at h2
        omega
      · rw [if_neg q2] at h2 h3
        exact vs_fr v m hm h2 h3
  · have hs : s 3 k < 100 := by
      unfold zWhy at hw
      simp at hw
      exact hw
    have o1 := zPl_o hpl (show k < 20 by omega)
    refine VS_ps v (zPl_g hpl (by omega) (Or.inr (Or.inr rfl))) (fun m hm h2 h3 => ?_) (vs_f9 v)
    unfold zG2 at h2 h3
    by_cases q : m = s 3 k
    · rw [if_pos q] at h3
      omega
    · rw [if_neg q] at h2 h3
      by_cases q2 : s 2 m = 100
      · rw [if_pos q2] at h3
        omega
      · rw [if_neg q2] at h2 h3
        exact vs_fr v m hm h2 h3
  · have h1 := ht.2.2 rfl
    obtain ⟨g0, g1, g2, g3, g4, g5, g6, g7, g8, g9⟩ := v
    exact ⟨g0, g1, g2, g3, g4, Nat.xor_lt_two_pow (n := 10) g5 (z1_lt h1), g6, g7, g8, g9⟩
  · have hd : s 5 1 < 99 := by
      unfold zWhy at hw
      simp at hw
      exact hw
    refine VS_ps (VS_day v (by omega)) (zEvP v) (fun m hm h2 h3 => ?_) (fun m hm => ?_)
    · unfold zEv2 at h2 h3
      by_cases q : 10 ≤ s 2 m ∧ s 2 m < 100 ∧ s 4 m ≤ 1
      · rw [if_pos q] at h3
        omega
      · rw [if_neg q] at h2 h3
        have := vs_fr v m hm h2 h3
        unfold zEv4
        rw [if_pos ⟨h2, h3⟩]
        omega
    · have := vs_f9 v m hm
      unfold zEv4
      split <;> omega
/-- behind an act that could be -/
def zAft (s : zA) (a k t : Nat) : zA := zUp (zUp (zRow (zDo s a k t) 7 (yHA s (s 7) a k t)) 8 0 (s 8 0 + 1)) 8 1 (s 8 1 + if a = 1 then 1 else 0)
def zBad (s : zA) (a k t : Nat) : zA := zUp (zUp s 8 2 (s 8 0)) 8 3 (zWhy s a k t)
def zSt1 (s : zA) (x : Nat × Nat × Nat) : zA := if s 8 2 < 100 then s else if zWhy s x.1 x.2.1 x.2.2 = 0 then zAft s x.1 x.2.1 x.2.2 else zBad s x.1 x.2.1 x.2.2
def zRun (l : List (Nat × Nat × Nat)) (s : zA) : zA := l.foldl zSt1 s
theorem zDo_8 (s : zA) (a k t : Nat) : zDo s a k t 8 = s 8 := by
  unfold zDo
  repeat' split
  all_goals rfl
theorem zDo_7 (s : zA) (a k t : Nat) : zDo s a k t 7 = s 7 := by
  unfold zDo
  repeat' split
  all_goals rfl
theorem zDo_0 (s : zA) (a k t : Nat) : zDo s a k t 0 = s 0 := by
  unfold zDo
  repeat' split
  all_goals rfl
theorem zDo_6 (s : zA) (a k t : Nat) : zDo s a k t 6 = s 6 := by
  unfold zDo
  repeat' split
  all_goals rfl
theorem zDo_52 (s : zA) (a k t : Nat) : zDo s a k t 5 2 = s 5 2 := by
  unfold zDo
  repeat' split
  all_goals rfl
/-- the class's course at work -/
def GT (I : zI) (s : zA) : Prop := GC 39 I s ∧ (∀ m, m < 12 → I 51 m = zN (s 7 m)) ∧ I 38 2 = zN (s 8 0) ∧ I 38 3 = zN (s 8 1) ∧ I 38 4 = zE (s 8 2) ∧ I 38 5 = zE (s 8 3)
/-- cells of the class that no other call looks at -/
def CF (I I' : zI) : Prop := ∀ b, b < 38 ∨ 69 < b → I' b = I b
theorem CF.rf {I : zI} : CF I I := fun _ _ => rfl
theorem CF.tr {I I1 I2 : zI} (h : CF I I1) (g : CF I1 I2) : CF I I2 := fun b hb => (g b hb).trans (h b hb)
theorem zcount {I : zI} {x : Nat} {g : Nat → Nat} (hx : x < 12 ∨ x = 100) (hg : ∀ m, m < 12 → I 51 m = zN (g m)) : ∃ I', Co_countHand (zE x) I = some I' ∧ (∀ b, b ≠ 51 → I' b = I b) ∧ ∀ m, m < 12 → I' 51 m = zN (yHd g x m) := by
  unfold Co_countHand
  rcases hx with hx | hx
  · rw [zE_lt (by omega), zat_50 I hx, Option.bind_some, hg x hx, zl_1, zN_add, zput_50 _ I hx, Option.bind_some]
    refine ⟨_, rfl, fun b b1 => zUp_ne b1, fun m hm => ?_⟩
    rw [zUp_at]
    unfold yHd
    by_cases q : m = x
    · rw [if_pos q, if_pos q, q]
    · rw [if_neg q, if_neg q, hg m hm]
  · rw [hx, zE_ge (by decide), zatn_50, Option.bind_some, zputn_50, Option.bind_some]
    refine ⟨_, rfl, fun b b1 => rfl, fun m hm => ?_⟩
    unfold yHd
    rw [if_neg (by omega), hg m hm]
theorem GT_aft {I' : zI} {s : zA} {a k t : Nat} (h1 : GC 39 I' (zDo s a k t)) (h2 : ∀ m, m < 12 → I' 51 m = zN (yHA s (s 7) a k t m)) (h3 : I' 38 2 = zN (s 8 0 + 1)) (h4 : I' 38 3 = zN (s 8 1 + if a = 1 then 1 else 0)) (h5 : I' 38 4 = zE (s 8 2)) (h6 : I' 38 5 = zE (s 8 3)) : GT I' (zAft s a k t) := by
  have e8 := zDo_8 s a k t
  refine ⟨h1, h2, h3, h4, ?_, ?_⟩
  · rw [h5]
    show _ = zE (zDo s a k t 8 2)
    rw [e8]
  · rw [h6]
    show _ = zE (zDo s a k t 8 3)
    rw [e8]
theorem zWhy_k {s : zA} {a k k' t : Nat} (h : 4 ≤ a) : zWhy s a k t = zWhy s a k' t := by
  unfold zWhy
  simp only [if_neg (show ¬ a = 0 by omega), if_neg (show ¬ a = 1 by omega), if_neg (show ¬ a = 2 by omega), if_neg (show ¬ a = 3 by omega)]
theorem zDo_k {s : zA} {a k k' t : Nat} (h : 4 ≤ a) : zDo s a k t = zDo s a k' t := by
  unfold zDo
  simp only [if_neg (show ¬ a = 0 by omega), if_neg (show ¬ a = 1 by omega), if_neg (show ¬ a = 2 by omega), if_neg (show ¬ a = 3 by omega)]
theorem zWhy_lt (s : zA) (a k t : Nat) : zWhy s a k t < 6 := by
  unfold zWhy
  repeat' split
  all_goals decide
theorem ztry {I : zI} {s : zA} (h : GT I s) (v : VS s) {n a k t : Nat} {t' : Int32} (ha : a < 6) (hk : k < 8) (ht : zTok a t) (ht' : a = 0 ∨ a = 2 ∨ a = 4 → t' = zN t) (hn : 12 < n) (h8 : ¬ s 8 2 < 100) (h80 : s 8 0 < 100) : ∃ I', Co_tryAct n (zN a) (zN k) t' I = some I' ∧ GT I' (zSt1 s (a, k, t)) ∧ CF I I' := by
  unfold Co_tryAct
  obtain ⟨hc, h51, h2, h3, h4, h5⟩ := h
  have hpl := vs_pl v
  have hlt := zWhy_lt s a k t
  rw [zwhy39 hc v ha hk ht ht' hn, Option.bind_some]
  by_cases hw : zWhy s a k t = 0
  · rw [if_pos (by rw [hw]; rfl)]
    obtain ⟨I1, e1, e2, e3, e4⟩ := zcar39 hc v ha hk ht ht' hn hw
    have v1 := VS_do v ha hk ht hw
    have hz : zSt1 s (a, k, t) = zAft s a k t := by
      unfold zSt1
      rw [if_neg h8, if_pos hw]
    rw [e1, Option.bind_some, hz, e3 38 (by decide) (by decide) (by decide) (by decide), h2, zl_1, zN_add]
    have hcf : CF I I1 := fun b hb => e3 b (by omega) (by omega) (by omega) (by omega)
    by_cases q1 : a = 1
    · subst q1
      have hb := vs_p v k hk
      have o2 := zPl_o hpl (show 10 + s 1 k < 20 by omega)
      rw [if_pos (by decide), zUp_nj (by decide), e3 38 (by decide) (by decide) (by decide) (by decide), h3, zN_add]
      unfold Ga_heldBy_39
      have g1 : GC 39 (zUp (zUp I1 38 2 (zN (s 8 0 + 1))) 38 3 (zN (s 8 1 + 1))) (zDo s 1 k t) := GC_fr e2 (fun b b1 b2 => by rw [zUp_ne (by omega), zUp_ne (by omega)])
      rw [zma39 g1 v1 (by omega) hn, Option.bind_some, Option.bind_some]
      have ho : zDo s 1 k t 3 k = s 3 (10 + s 1 k) := by
        show zX3 (s 3) k (10 + s 1 k) k = _
        unfold zX3
        rw [if_pos rfl]
      rw [ho]
      obtain ⟨I2, f1, f2, f3⟩ := zcount (I := zUp (zUp I1 38 2 (zN (s 8 0 + 1))) 38 3 (zN (s 8 1 + 1))) (g := s 7) o2 (fun m hm => by rw [zUp_ne (by decide), zUp_ne (by decide), e3 51 (by decide) (by decide) (by decide) (by decide), h51 m hm])
      rw [f1, Option.bind_some, Option.bind_some, if_neg (by decide)]
      refine ⟨I2, rfl, GT_aft (GC_fr g1 (fun b b1 b2 => f2 b (by omega))) f3 ?_ ?_ ?_ ?_, fun b hb => ?_⟩
      · rw [f2 38 (by decide), zUp_nj (by decide), zUp_eq]
      · rw [f2 38 (by decide), zUp_eq]
        rfl
      · rw [f2 38 (by decide), zUp_nj (by decide), zUp_nj (by decide), e3 38 (by decide) (by decide) (by decide) (by decide), h4]
      · rw [f2 38 (by decide), zUp_nj (by decide), zUp_nj (by decide), e3 38 (by decide) (by decide) (by decide) (by decide), h5]
      · rw [f2 b (by omega), zUp_ne (by omega), zUp_ne (by omega), hcf b hb]
    · rw [if_neg (show ¬ (zN a = zN 1) by rw [zN_inj (by omega) (by decide)]; exact q1), Option.bind_some]
      have g1 : GC 39 (zUp I1 38 2 (zN (s 8 0 + 1))) (zDo s a k t) := GC_fr e2 (fun b b1 b2 => by rw [zUp_ne (by omega)])
      by_cases q2 : a = 2
      · subst q2
        have h1 := ht.2.1 rfl
        have o1 := zPl_o hpl (show k < 20 by omega)
        have o2 := zPl_o hpl (show t < 20 by omega)
        rw [if_pos (by decide), ht' (Or.inr (Or.inl rfl))]
        unfold Ga_heldBy_39
        rw [zma39 g1 v1 (by omega) hn, Option.bind_some, Option.bind_some]
        have ho : zDo s 2 k t 3 k = s 3 t := by
          show zX3 (s 3) k t k = _
          unfold zX3
          rw [if_pos rfl]
        have ho2 : zDo s 2 k t 3 t = s 3 k := by
          show zX3 (s 3) k t t = _
          unfold zX3
          by_cases z : t = k
          · rw [if_pos z, z]
          · rw [if_neg z, if_pos rfl]
        rw [ho]
        obtain ⟨I2, f1, f2, f3⟩ := zcount (I := zUp I1 38 2 (zN (s 8 0 + 1))) (g := s 7) o2 (fun m hm => by rw [zUp_ne (by decide), e3 51 (by decide) (by decide) (by decide) (by decide), h51 m hm])
        have g2 : GC 39 I2 (zDo s 2 k t) := GC_fr g1 (fun b b1 b2 => f2 b (by omega))
        rw [f1, Option.bind_some, zma39 g2 v1 (by omega) hn, Option.bind_some, Option.bind_some, ho2]
        obtain ⟨I3, k1, k2, k3⟩ := zcount (I := I2) o1 f3
        rw [k1, Option.bind_some]
        refine ⟨I3, rfl, GT_aft (GC_fr g2 (fun b b1 b2 => k2 b (by omega))) k3 ?_ ?_ ?_ ?_, fun b hb => ?_⟩
        · rw [k2 38 (by decide), f2 38 (by decide), zUp_eq]
        · rw [k2 38 (by decide), f2 38 (by decide), zUp_nj (by decide), e3 38 (by decide) (by decide) (by decide) (by decide), h3]
          rfl
        · rw [k2 38 (by decide), f2 38 (by decide), zUp_nj (by decide), e3 38 (by decide) (by decide) (by decide) (by decide), h4]
        · rw [k2 38 (by decide), f2 38 (by decide), zUp_nj (by decide), e3 38 (by decide) (by decide) (by decide) (by decide), h5]
        · rw [k2 b (by omega), f2 b (by omega), zUp_ne (by omega), hcf b hb]
      · rw [if_neg (show ¬ (zN a = 2) by rw [zl_2, zN_inj (by omega) (by decide)]; exact q2)]
        have hh : yHA s (s 7) a k t = s 7 := by
          unfold yHA
          rw [if_neg q1, if_neg q2]
        refine ⟨_, rfl, GT_aft g1 (fun m hm => ?_) ?_ ?_ ?_ ?_, fun b hb => ?_⟩
        · rw [hh, zUp_ne (by decide), e3 51 (by decide) (by decide) (by decide) (by decide), h51 m hm]
        · rw [zUp_eq]
        · rw [zUp_nj (by decide), e3 38 (by decide) (by decide) (by decide) (by decide), h3, if_neg q1]
          rfl
        · rw [zUp_nj (by decide), e3 38 (by decide) (by decide) (by decide) (by decide), h4]
        · rw [zUp_nj (by decide), e3 38 (by decide) (by decide) (by decide) (by decide), h5]
        · rw [zUp_ne (by omega), hcf b hb]
  · have hz : zSt1 s (a, k, t) = zBad s a k t := by
      unfold zSt1
      rw [if_neg h8, if_neg hw]
    rw [if_neg (show ¬ (zN (zWhy s a k t) = 0) by rw [zl_0, zN_inj (by omega) (by decide)]; exact hw), hz, h2]
    refine ⟨_, rfl, ⟨GC_fr hc (fun b b1 b2 => by rw [zUp_ne (by omega), zUp_ne (by omega)]), fun m hm => ?_, ?_, ?_, ?_, ?_⟩, fun b hb => by rw [zUp_ne (by omega), zUp_ne (by omega)]⟩
    · rw [zUp_ne (by decide), zUp_ne (by decide), h51 m hm]
      rfl
    · rw [zUp_nj (by decide), zUp_nj (by decide), h2]
      rfl
    · rw [zUp_nj (by decide), zUp_nj (by decide), h3]
      rfl
    · rw [zUp_nj (by decide), zUp_eq, ← zE_lt h80]
      rfl
    · rw [zUp_eq, ← zE_lt (show zWhy s a k t < 100 by omega)]
      rfl
