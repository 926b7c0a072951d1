/-! the reference reads the text -/
def yR (d : Nat) : Nat := if d = 2 then 3 else if d = 3 then 2 else d
def yPre (I I' : zI) (A : Nat) : Prop := (∀ b, b ≠ 73 → b ≠ 83 → b ≠ 84 → b ≠ 85 → I' b = I b) ∧ (∀ i, i ≠ 16 → I' 73 i = I 73 i) ∧ (∀ q, q < A → I' 83 q = I 83 q ∧ I' 84 q = I 84 q ∧ I' 85 q = I 85 q)
theorem zclose {I : zI} {A : Nat} (h : I 73 16 = zN A) (hA : A < 60) (a v : Int32) : ∃ I', Mo_close a v I = some (0, I') ∧ yPre I I' A ∧ I' 73 16 = zN (A + 1) ∧ I' 83 A = a ∧ I' 85 A = v ∧ I' 84 = I 84 := by
  unfold Mo_close
  have e1 : ∀ w, zUp I 83 A w 73 = I 73 := fun w => zUp_ne (by decide)
  have e2 : ∀ w u, zUp (zUp I 83 A w) 85 A u 73 = I 73 := fun w u => by rw [zUp_ne (by decide), zUp_ne (by decide)]
  simp only [h, zN_tn (show A < 2147483648 by omega), e1, e2]
  rw [if_pos ((zN_in (by omega)).mpr hA), if_pos ((zN_in (by omega)).mpr hA), zl_1, zN_add]
  refine ⟨_, rfl, ⟨fun b b1 b2 b3 b4 => by rw [zUp_ne b1, zUp_ne b4, zUp_ne b2], fun i i1 => by rw [zUp_nj i1, e2], fun q hq => ⟨?_, ?_, ?_⟩⟩, ?_, ?_, ?_, ?_⟩
  · rw [zUp_ne (by decide), zUp_ne (by decide), zUp_nj (by omega)]
  · rw [zUp_ne (by decide), zUp_ne (by decide), zUp_ne (by decide)]
  · rw [zUp_ne (by decide), zUp_nj (by omega), zUp_ne (by decide)]
  · rw [zUp_eq]
  · rw [zUp_ne (by decide), zUp_ne (by decide), zUp_eq]
  · rw [zUp_ne (by decide), zUp_eq]
  · rw [zUp_ne (by decide), zUp_ne (by decide), zUp_ne (by decide)]
def zReadQ (I I' : zI) (A d c one : Nat) : Prop := yPre I I' A ∧ (zDue d c = 0 → I' 73 16 = zN (A + 1) ∧ I' 83 A = zN (zAct d c) ∧ I' 84 A = zN (zWho d one c) ∧ (zAct d c = 0 ∨ zAct d c = 2 ∨ zAct d c = 4 → I' 85 A = zN (zTgt c))) ∧ (zDue d c ≠ 0 → I' 73 16 = zN A ∧ (zDue d c ≠ 100 → I' 84 A = zN (zWho d one c)))
theorem zread {I : zI} {A d c one : Nat} (hd : d < 4) (hc : c < 200) (h16 : I 73 16 = zN A) (hA : A < 60) (hw : d ≠ 0 → I 84 A = zN one) : ∃ I', Mo_readOn (zN (yR d)) (zN c) I = some (zE (yR (zDue d c)), I') ∧ zReadQ I I' A d c one := by
  have ei : ∀ k : Nat, k < 200 → ((zN c = zN k) ↔ c = k) := fun k hk => zN_inj (by omega) (by omega)
  unfold Mo_readOn
  rcases z4 hd with rfl | rfl | rfl | rfl
  · rw [if_pos (show zN (yR 0) = 0 from rfl)]
    unfold Mo_begin
    have tA := zN_tn (show A < 2147483648 by omega)
    have hx : ∃ x, (if zW 65 72 (zN c) = (0 : Int32) then some (0 : Int32) else some (zN c - 65)) = some x ∧ x = zN (zWho 0 one c) := by
      rw [zW_N (by decide) (by decide) (by omega)]
      unfold zWho
      by_cases h : 65 ≤ c ∧ c ≤ 72
      · rw [decide_eq_true h, if_neg (by decide), if_pos rfl, if_pos h, zl_65, zN_sub h.1]
        exact ⟨_, rfl, rfl⟩
      · rw [decide_eq_false h, if_pos (by decide), if_pos rfl, if_neg h]
        exact ⟨_, rfl, rfl⟩
    obtain ⟨x, hx1, hx2⟩ := hx
    have e73 : zUp I 84 A x 73 = I 73 := zUp_ne (by decide)
    rw [zmName, Option.bind_some, hx1, Option.bind_some]
    simp only [h16, tA]
    rw [if_pos ((zN_in (by omega)).mpr hA), zmName, Option.bind_some, zW_N (by decide) (by decide) (by omega)]
    have hp : yPre I (zUp I 84 A x) A := ⟨fun b b1 b2 b3 b4 => zUp_ne b3, fun i _ => by rw [e73], fun q hq => ⟨by rw [zUp_ne (by decide)], by rw [zUp_nj (by omega)], by rw [zUp_ne (by decide)]⟩⟩
    have h84 : zUp I 84 A x 84 A = zN (zWho 0 one c) := by rw [zUp_eq, hx2]
    by_cases h : 65 ≤ c ∧ c ≤ 72
    · have hdue : zDue 0 c = 1 := by
        unfold zDue
        rw [if_pos rfl, if_pos h]
      rw [decide_eq_true h, if_neg (by decide), Option.bind_some, hdue]
      refine ⟨zUp I 84 A x, rfl, hp, fun z => ?_, fun _ => ⟨by rw [e73, h16], fun _ => h84⟩⟩
      rw [hdue] at z
      cases z
    · rw [decide_eq_false h, if_pos (by decide), zl_35, zl_46]
      simp only [ei 35 (by decide), ei 46 (by decide)]
      by_cases h1 : c = 35
      · have hdue : zDue 0 c = 2 := by
          unfold zDue
          rw [if_pos rfl, if_neg h, if_pos h1]
        rw [if_pos h1, Option.bind_some, hdue]
        refine ⟨zUp I 84 A x, rfl, hp, fun z => ?_, fun _ => ⟨by rw [e73, h16], fun _ => h84⟩⟩
        rw [hdue] at z
        cases z
      · rw [if_neg h1]
        by_cases h2 : c = 46
        · have hdue : zDue 0 c = 0 := by
            unfold zDue
            rw [if_pos rfl, if_neg h, if_neg h1, if_pos h2]
          obtain ⟨I', c1, c2, c3, c4, c5, c6⟩ := zclose (I := zUp I 84 A x) (A := A) (by rw [e73, h16]) hA 5 0
          rw [if_pos h2, c1, Option.bind_some, Option.bind_some, hdue]
          refine ⟨I', rfl, ⟨fun b b1 b2 b3 b4 => by rw [c2.1 b b1 b2 b3 b4, zUp_ne b3], fun i i1 => by rw [c2.2.1 i i1, e73], fun q hq => ?_⟩, fun _ => ⟨c3, ?_, ?_, fun z => ?_⟩, fun z => absurd hdue z⟩
          · obtain ⟨q1, q2, q3⟩ := c2.2.2 q hq
            obtain ⟨p1, p2, p3⟩ := hp.2.2 q hq
            exact ⟨q1.trans p1, q2.trans p2, q3.trans p3⟩
          · rw [c4, h2]
            rfl
          · rw [c6, h84]
          · rw [h2] at z
            exact absurd z (by decide)
        · have hdue : zDue 0 c = 100 := by
            unfold zDue
            rw [if_pos rfl, if_neg h, if_neg h1, if_neg h2]
          rw [if_neg h2, Option.bind_some, hdue]
          refine ⟨zUp I 84 A x, rfl, hp, fun z => ?_, fun _ => ⟨by rw [e73, h16], fun z => absurd hdue z⟩⟩
          rw [hdue] at z
          cases z
  · rw [if_neg (show ¬ (zN (yR 1) = 0) by decide), if_pos (show zN (yR 1) = 1 from rfl)]
    unfold Mo_deed
    have h84 := hw (by decide)
    have hwho : zWho 1 one c = one := rfl
    have hp : yPre I I A := ⟨fun _ _ _ _ _ => rfl, fun _ _ => rfl, fun _ _ => ⟨rfl, rfl, rfl⟩⟩
    rw [zl_33, zl_95, zl_120]
    simp only [ei 33 (by decide), ei 95 (by decide), ei 120 (by decide)]
    have clo : ∀ (a : Nat) (v : Int32), zDue 1 c = 0 → zAct 1 c = a → (a = 0 ∨ a = 2 ∨ a = 4 → v = zN (zTgt c)) → ∃ I', (((Mo_close (zN a) v I).bind fun x => some (x.1, x.2)).bind fun x => some (x.1, x.2)) = some (zE (yR (zDue 1 c)), I') ∧ zReadQ I I' A 1 c one := by
      intro a v hdue ha hv
      obtain ⟨I', c1, c2, c3, c4, c5, c6⟩ := zclose h16 hA (zN a) v
      rw [c1, Option.bind_some, Option.bind_some, hdue]
      refine ⟨I', rfl, c2, fun _ => ⟨c3, by rw [c4, ha], by rw [c6, h84, hwho], fun z => by rw [c5]; exact hv (by rw [ha] at z; exact z)⟩, fun z => absurd hdue z⟩
    by_cases h1 : c = 33
    · rw [if_pos h1]
      exact clo 3 0 (by rw [h1]; rfl) (by rw [h1]; rfl) (fun z => absurd z (by decide))
    · rw [if_neg h1]
      by_cases h2 : c = 95
      · rw [if_pos h2]
        exact clo 1 0 (by rw [h2]; rfl) (by rw [h2]; rfl) (fun z => absurd z (by decide))
      · rw [if_neg h2]
        by_cases h3 : c = 120
        · have hdue : zDue 1 c = 3 := by rw [h3]; rfl
          rw [if_pos h3, Option.bind_some, hdue]
          refine ⟨I, rfl, hp, fun z => ?_, fun _ => ⟨h16, fun _ => h84⟩⟩
          rw [hdue] at z
          cases z
        · rw [if_neg h3, zmi_48_57, zW_N (by decide) (by decide) (by omega), Option.bind_some]
          by_cases h : 48 ≤ c ∧ c ≤ 57
          · have hdue : zDue 1 c = 0 := by
              unfold zDue
              rw [if_neg (by decide), if_pos rfl, if_neg h3, if_pos h]
            have hact : zAct 1 c = 0 := by
              unfold zAct
              rw [if_neg h1, if_neg (by omega), if_neg h2]
              rfl
            rw [decide_eq_true h, if_neg (by decide), zl_48, zN_sub h.1]
            exact clo 0 _ hdue hact (fun _ => by
              unfold zTgt
              rw [if_neg (by omega)])
          · have hdue : zDue 1 c = 100 := by
              unfold zDue
              rw [if_neg (by decide), if_pos rfl, if_neg h3, if_neg h, if_neg h2, if_neg h1]
            rw [decide_eq_false h, if_pos (by decide), Option.bind_some, hdue]
            refine ⟨I, rfl, hp, fun z => ?_, fun _ => ⟨h16, fun _ => h84⟩⟩
            rw [hdue] at z
            cases z
  · rw [if_neg (show ¬ (zN (yR 2) = 0) by decide), if_neg (show ¬ (zN (yR 2) = 1) by decide), if_neg (show ¬ (zN (yR 2) = 2) by decide)]
    have h84 := hw (by decide)
    have hwho : zWho 2 one c = one := rfl
    have hp : yPre I I A := ⟨fun _ _ _ _ _ => rfl, fun _ _ => rfl, fun _ _ => ⟨rfl, rfl, rfl⟩⟩
    rw [zmi_48_57, zW_N (by decide) (by decide) (by omega), Option.bind_some]
    by_cases h : 48 ≤ c ∧ c ≤ 57
    · have hdue : zDue 2 c = 0 := by
        unfold zDue
        rw [if_neg (by decide), if_neg (by decide), if_pos rfl, if_pos h]
      have hact : zAct 2 c = 4 := by
        unfold zAct
        rw [if_neg (by omega), if_neg (by omega), if_neg (by omega)]
        rfl
      rw [decide_eq_true h, if_neg (by decide), zl_48, zN_sub h.1]
      obtain ⟨I', c1, c2, c3, c4, c5, c6⟩ := zclose h16 hA 4 (zN (c - 48))
      rw [c1, Option.bind_some, hdue]
      refine ⟨I', rfl, c2, fun _ => ⟨c3, by rw [c4, hact]; rfl, by rw [c6, h84, hwho], fun _ => ?_⟩, fun z => absurd hdue z⟩
      rw [c5]
      unfold zTgt
      rw [if_neg (by omega)]
    · have hdue : zDue 2 c = 100 := by
        unfold zDue
        rw [if_neg (by decide), if_neg (by decide), if_pos rfl, if_neg h]
      rw [decide_eq_false h, if_pos (by decide), hdue]
      refine ⟨I, rfl, hp, fun z => ?_, fun _ => ⟨h16, fun _ => h84⟩⟩
      rw [hdue] at z
      cases z
  · rw [if_neg (show ¬ (zN (yR 3) = 0) by decide), if_neg (show ¬ (zN (yR 3) = 1) by decide), if_pos (show zN (yR 3) = 2 from rfl)]
    have h84 := hw (by decide)
    have hwho : zWho 3 one c = one := rfl
    have hp : yPre I I A := ⟨fun _ _ _ _ _ => rfl, fun _ _ => rfl, fun _ _ => ⟨rfl, rfl, rfl⟩⟩
    rw [zmName, zW_N (by decide) (by decide) (by omega), Option.bind_some]
    by_cases h : 65 ≤ c ∧ c ≤ 72
    · have hdue : zDue 3 c = 0 := by
        unfold zDue
        rw [if_neg (by decide), if_neg (by decide), if_neg (by decide), if_pos h]
      have hact : zAct 3 c = 2 := by
        unfold zAct
        rw [if_neg (by omega), if_neg (by omega), if_neg (by omega)]
        rfl
      rw [decide_eq_true h, if_neg (by decide), zl_65, zN_sub h.1]
      obtain ⟨I', c1, c2, c3, c4, c5, c6⟩ := zclose h16 hA 2 (zN (c - 65))
      rw [c1, Option.bind_some, hdue]
      refine ⟨I', rfl, c2, fun _ => ⟨c3, by rw [c4, hact]; rfl, by rw [c6, h84, hwho], fun _ => ?_⟩, fun z => absurd hdue z⟩
      rw [c5]
      unfold zTgt
      rw [if_pos h]
    · have hdue : zDue 3 c = 100 := by
        unfold zDue
        rw [if_neg (by decide), if_neg (by decide), if_neg (by decide), if_neg h]
      rw [decide_eq_false h, if_pos (by decide), hdue]
      refine ⟨I, rfl, hp, fun z => ?_, fun _ => ⟨h16, fun _ => h84⟩⟩
      rw [hdue] at z
      cases z
theorem yPre.tr {I I1 I2 : zI} {A B : Nat} (h : yPre I I1 A) (g : yPre I1 I2 B) (hB : A ≤ B) : yPre I I2 A := ⟨fun b b1 b2 b3 b4 => (g.1 b b1 b2 b3 b4).trans (h.1 b b1 b2 b3 b4), fun i i1 => (g.2.1 i i1).trans (h.2.1 i i1), fun q hq => ⟨(g.2.2 q (by omega)).1.trans (h.2.2 q hq).1, (g.2.2 q (by omega)).2.1.trans (h.2.2 q hq).2.1, (g.2.2 q (by omega)).2.2.trans (h.2.2 q hq).2.2⟩⟩
def zActs (I : zI) (A : Nat) (l : List (Nat × Nat × Nat)) : Prop := ∀ i x, l[i]? = some x → I 83 (A + i) = zN x.1 ∧ I 84 (A + i) = zN x.2.1 ∧ (x.1 = 0 ∨ x.1 = 2 ∨ x.1 = 4 → I 85 (A + i) = zN x.2.2)
theorem zmfL {I0 : zI} {cnt : Nat} {sg : Nat → Nat} (hp : PDm I0 cnt sg) : ∀ (j i d one A n : Nat) (I : zI), i + j = cnt → j < n → d < 4 → A ≤ i → I 82 = I0 82 → I 73 12 = I0 73 12 → I 73 16 = zN A → (d ≠ 0 → I 84 A = zN one) → ∃ I', Mo_fault_L9 n (zN (yR d)) (zN i) I = some (zE (zFl sg j i d), I') ∧ yPre I I' A ∧ (zFl sg j i d = 100 → I' 73 16 = zN (A + (zSc sg j i d one).length) ∧ zActs I' A (zSc sg j i d one)) := by
  obtain ⟨h60, h12, hs⟩ := hp
  intro j
  induction j with
  | zero =>
    intro i d one A n I hk hn hd hA e82 e12 h16 hw
    obtain ⟨n, rfl⟩ : ∃ e, n = e + 1 := ⟨n - 1, by omega⟩
    rw [Mo_fault_L9, e12, h12, if_pos ((zN_le (by omega) (by omega)).mpr (by omega))]
    have hp : yPre I I A := ⟨fun _ _ _ _ _ => rfl, fun _ _ => rfl, fun _ _ => ⟨rfl, rfl, rfl⟩⟩
    unfold zFl
    by_cases q : d = 0
    · rw [if_pos q, q]
      refine ⟨I, rfl, hp, fun _ => ⟨h16, ?_⟩⟩
      intro i x hx
      cases hx
    · have hz : ¬ (zN (yR d) = (0 : Int32)) := by
        rcases z4 hd with rfl | rfl | rfl | rfl
        · exact absurd rfl q
        · decide
        · decide
        · decide
      rw [if_neg q, if_neg hz, zE_lt (by omega), show cnt = i by omega]
      refine ⟨I, rfl, hp, fun z => ?_⟩
      omega
  | succ j ih =>
    intro i d one A n I hk hn hd hA e82 e12 h16 hw
    obtain ⟨n, rfl⟩ : ∃ e, n = e + 1 := ⟨n - 1, by omega⟩
    obtain ⟨s2, s3⟩ := hs i (by omega)
    obtain ⟨I1, r1, r2⟩ := zread (one := one) hd s3 h16 (by omega) hw
    rw [Mo_fault_L9, e12, h12, if_neg (by rw [zN_le (by omega) (by omega)]; omega), if_pos ((zN_in (by omega)).mpr (by omega)), zN_tn (by omega), e82, s2, r1, Option.bind_some]
    obtain ⟨p1, p2, p3⟩ := r2
    unfold zFl
    rcases zDue_lt d (sg i) with h | h
    · have hr : yR (zDue d (sg i)) < 100 := by
        unfold yR
        repeat' split
        all_goals omega
      show ∃ I', (if (0 : Int32) ≤ zE (yR (zDue d (sg i))) then Mo_fault_L9 n (zE (yR (zDue d (sg i)))) (zN i + 1) I1 else some (zN i, I1)) = _ ∧ _
      rw [if_pos (show (0 : Int32) ≤ zE (yR (zDue d (sg i))) from (zE_pos _).mpr hr), if_neg (by omega), zl_1, zN_add, zE_lt hr]
      have q82 : I1 82 = I0 82 := by rw [p1.1 82 (by decide) (by decide) (by decide) (by decide), e82]
      have q12 : I1 73 12 = I0 73 12 := by rw [p1.2.1 12 (by decide), e12]
      by_cases h0 : zDue d (sg i) = 0
      · obtain ⟨t1, t2, t3, t4⟩ := p2 h0
        rw [h0]
        obtain ⟨I', k1, k2, k3⟩ := ih (i + 1) 0 (zWho d one (sg i)) (A + 1) n I1 (by omega) (by omega) (by decide) (by omega) q82 q12 t1 (fun z => absurd rfl z)
        refine ⟨I', k1, p1.tr k2 (by omega), fun z => ?_⟩
        obtain ⟨m1, m2⟩ := k3 z
        have hsc : zSc sg (j + 1) i d one = (zAct d (sg i), zWho d one (sg i), zTgt (sg i)) :: zSc sg j (i + 1) 0 (zWho d one (sg i)) := by
          conv => lhs; unfold zSc
          rw [if_pos h0]
        rw [hsc]
        refine ⟨by rw [m1, List.length_cons]; congr 1; omega, fun q x hx => ?_⟩
        cases q with
        | zero =>
          obtain ⟨u1, u2, u3⟩ := k2.2.2 A (by omega)
          cases hx
          rw [Nat.add_zero, u1, u2, u3]
          exact ⟨t2, t3, t4⟩
        | succ q =>
          rw [List.getElem?_cons_succ] at hx
          have := m2 q x hx
          rw [show A + (q + 1) = A + 1 + q by omega]
          exact this
      · obtain ⟨t1, t2⟩ := p3 h0
        obtain ⟨I', k1, k2, k3⟩ := ih (i + 1) (zDue d (sg i)) (zWho d one (sg i)) A n I1 (by omega) (by omega) h (by omega) q82 q12 t1 (fun _ => t2 (by omega))
        refine ⟨I', k1, p1.tr k2 (Nat.le_refl A), fun z => ?_⟩
        have hsc : zSc sg (j + 1) i d one = zSc sg j (i + 1) (zDue d (sg i)) (zWho d one (sg i)) := by
          conv => lhs; unfold zSc
          rw [if_neg h0]
        rw [hsc]
        exact k3 z
    · show ∃ I', (if (0 : Int32) ≤ zE (yR (zDue d (sg i))) then Mo_fault_L9 n (zE (yR (zDue d (sg i)))) (zN i + 1) I1 else some (zN i, I1)) = _ ∧ _
      rw [h, if_neg (show ¬ ((0 : Int32) ≤ zE (yR 100)) by decide), if_pos rfl, zE_lt (by omega)]
      refine ⟨I1, rfl, p1, fun z => ?_⟩
      omega
theorem zmfault {I : zI} {cnt n : Nat} {sg : Nat → Nat} (hp : PDm I cnt sg) (hn : 60 < n) : ∃ I', Mo_fault n I = some (zE (zFl sg cnt 0 0), I') ∧ (∀ b, b ≠ 73 → b ≠ 83 → b ≠ 84 → b ≠ 85 → I' b = I b) ∧ (∀ i, i ≠ 16 → I' 73 i = I 73 i) ∧ (zFl sg cnt 0 0 = 100 → I' 73 16 = zN (zSc sg cnt 0 0 0).length ∧ zActs I' 0 (zSc sg cnt 0 0 0)) := by
  unfold Mo_fault
  have := hp.1
  obtain ⟨I', k1, k2, k3⟩ := zmfL hp cnt 0 0 0 0 n (zUp I 73 16 0) (by omega) (by omega) (by decide) (by omega) (zUp_ne (by decide)) (zUp_nj (by decide)) (by rw [zUp_eq]; rfl) (fun z => absurd rfl z)
  refine ⟨I', k1, fun b b1 b2 b3 b4 => by rw [k2.1 b b1 b2 b3 b4, zUp_ne b1], fun i i1 => by rw [k2.2.1 i i1, zUp_nj i1], fun z => ?_⟩
  obtain ⟨m1, m2⟩ := k3 z
  rw [Nat.zero_add] at m1
  exact ⟨m1, m2⟩
