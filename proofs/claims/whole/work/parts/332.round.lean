/-! rounds: the class's -/
/-- stops found among the first k: c of them, at t -/
def zGs (a S k c : Nat) (t : Nat → Nat) : Prop := (c + (if a < k then 1 else 0) ≤ k) ∧ (∀ i, i < c → t i < k ∧ t i ≠ a ∧ S.testBit (t i) = true) ∧ (∀ i j, i < c → j < c → t i = t j → i = j) ∧ ∀ b, b < k → b ≠ a → S.testBit b = true → ∃ i, i < c ∧ t i = b
def zPt (t : Nat → Nat) (c k : Nat) : Nat → Nat := fun i => if i = c then k else t i
theorem zPt_e {t : Nat → Nat} {c k : Nat} : zPt t c k c = k := if_pos rfl
theorem zPt_n {t : Nat → Nat} {c k i : Nat} (h : i ≠ c) : zPt t c k i = t i := if_neg h
theorem zGs_no {a S k c : Nat} {t : Nat → Nat} (h : zGs a S k c t) (q : k = a ∨ S.testBit k = false) : zGs a S (k + 1) c t := by
  obtain ⟨h1, h2, h3, h4⟩ := h
  refine ⟨?_, fun i hi => ?_, h3, fun b b1 b2 b3 => ?_⟩
  · split at h1
    · rw [if_pos (by omega)]
      omega
    · split <;> omega
  · obtain ⟨g1, g2, g3⟩ := h2 i hi
    exact ⟨by omega, g2, g3⟩
  · by_cases z : b = k
    · subst z
      rcases q with q | q
      · exact absurd q b2
      · rw [q] at b3
        cases b3
    · exact h4 b (by omega) b2 b3
theorem zGs_up {a S k c : Nat} {t : Nat → Nat} (h : zGs a S k c t) (q1 : k ≠ a) (q2 : S.testBit k = true) : zGs a S (k + 1) (c + 1) (zPt t c k) := by
  obtain ⟨h1, h2, h3, h4⟩ := h
  refine ⟨?_, fun i hi => ?_, fun i j hi hj e => ?_, fun b b1 b2 b3 => ?_⟩
  · split at h1
    · rw [if_pos (by omega)]
      omega
    · rw [if_neg (by omega)]
      omega
  · by_cases z : i = c
    · rw [z, zPt_e]
      exact ⟨by omega, q1, q2⟩
    · rw [zPt_n z]
      obtain ⟨g1, g2, g3⟩ := h2 i (by omega)
      exact ⟨by omega, g2, g3⟩
  · have e2 := e
    by_cases z : i = c
    · by_cases z2 : j = c
      · rw [z, z2]
      · rw [z, zPt_e, zPt_n z2] at e2
        have := (h2 j (by omega)).1
        omega
    · by_cases z2 : j = c
      · rw [z2, zPt_e, zPt_n z] at e2
        have := (h2 i (by omega)).1
        omega
      · rw [zPt_n z, zPt_n z2] at e2
        exact h3 i j (by omega) (by omega) e2
  · by_cases z : b = k
    · exact ⟨c, by omega, by rw [zPt_e, z]⟩
    · obtain ⟨i, i1, i2⟩ := h4 b (by omega) b2 b3
      exact ⟨i, by omega, by rw [zPt_n (by omega), i2]⟩
theorem zcgsL {a S : Nat} (ha : a < 10) (hS : S < 1024) : ∀ (j k c n : Nat) (t : Nat → Nat) (I : zI), k + j = 10 → j < n → zGs a S k c t → I 52 3 = zN c → (∀ i, i < c → I 54 i = zN (t i)) → ∃ I' c' t', Rd_gatherStops_L7 n (zN a) (zN S) (zN k) I = some I' ∧ (∀ b, b ≠ 52 → b ≠ 54 → I' b = I b) ∧ zGs a S 10 c' t' ∧ I' 52 3 = zN c' ∧ ∀ i, i < c' → I' 54 i = zN (t' i) := by
  intro j
  induction j with
  | zero =>
    intro k c n t I hk hn h h1 h2
    obtain ⟨n, rfl⟩ : ∃ e, n = e + 1 := ⟨n - 1, by omega⟩
    have : k = 10 := by omega
    subst this
    rw [Rd_gatherStops_L7, if_pos (by decide)]
    exact ⟨I, c, t, rfl, fun _ _ _ => rfl, h, h1, h2⟩
  | succ j ih =>
    intro k c n t I hk hn h h1 h2
    obtain ⟨n, rfl⟩ : ∃ e, n = e + 1 := ⟨n - 1, by omega⟩
    have hc : c ≤ k := by
      have := h.1
      omega
    rw [Rd_gatherStops_L7, if_neg (by rw [zl_10, zN_le (by decide) (by omega)]; omega)]
    by_cases q1 : k = a
    · rw [if_pos (by rw [q1]), Option.bind_some, zl_1, zN_add]
      exact ih (k + 1) c n t I (by omega) (by omega) (zGs_no h (Or.inl q1)) h1 h2
    · rw [if_neg (by rw [zN_inj (by omega) (by omega)]; exact q1), zbHas I (by omega) (by omega), Option.bind_some]
      cases q2 : S.testBit k
      · rw [if_pos (by decide), Option.bind_some, zl_1, zN_add]
        exact ih (k + 1) c n t I (by omega) (by omega) (zGs_no h (Or.inr q2)) h1 h2
      · rw [if_neg (by decide), h1, zput_53 _ I (by omega), Option.bind_some, Option.bind_some, zUp_ne (show (52 : Nat) ≠ 54 by decide), h1, zl_1, zN_add, zN_add]
        obtain ⟨I', c', t', e1, e2, e3⟩ := ih (k + 1) (c + 1) n (zPt t c k) (zUp (zUp I 54 c (zN k)) 52 3 (zN (c + 1))) (by omega) (by omega) (zGs_up h q1 q2) (zUp_eq _ _ _ _) (fun i hi => by
          rw [zUp_ne (show (54 : Nat) ≠ 52 by decide), zUp_at]
          by_cases z : i = c
          · rw [if_pos z, z, zPt_e]
          · rw [if_neg z, zPt_n z]
            exact h2 i (by omega))
        exact ⟨I', c', t', e1, fun b b1 b2 => by rw [e2 b b1 b2, zUp_ne b1, zUp_ne b2], e3⟩
theorem zcgs {a S n : Nat} (I : zI) (ha : a < 10) (hS : S < 1024) (hn : 10 < n) : ∃ I' c t, Rd_gatherStops n (zN a) (zN S) I = some I' ∧ (∀ b, b ≠ 52 → b ≠ 54 → I' b = I b) ∧ zGs a S 10 c t ∧ c ≤ 9 ∧ t 9 = a ∧ I' 52 3 = zN c ∧ (∀ i, i < c ∨ i = 9 → I' 54 i = zN (t i)) := by
  unfold Rd_gatherStops
  obtain ⟨I', c, t, e1, e2, e3, e4, e5⟩ := zcgsL ha hS 10 0 0 n (fun _ => 0) (zUp I 52 3 0) rfl hn ⟨Nat.le_refl 0, fun i hi => by omega, fun i j hi => by omega, fun b b1 => by omega⟩ (zUp_eq _ _ _ _) (fun i hi => by omega)
  rw [show Rd_gatherStops_L7 n (zN a) (zN S) 0 (zUp I 52 3 0) = _ from e1, Option.bind_some, show ∀ v, Rw_put_53 9 v I' = _ from fun v => zput_53 v I' (show 9 < 10 by decide), Option.bind_some]
  have hc : c ≤ 9 := by
    have := e3.1
    rw [if_pos ha] at this
    omega
  refine ⟨_, c, zPt t 9 a, rfl, fun b b1 b2 => by rw [zUp_ne b2, e2 b b1 b2, zUp_ne b1], ?_, hc, zPt_e, by rw [zUp_ne (by decide), e4], fun i hi => ?_⟩
  · obtain ⟨g1, g2, g3, g4⟩ := e3
    refine ⟨g1, fun i hi => ?_, fun i j hi hj e => ?_, fun b b1 b2 b3 => ?_⟩
    · rw [zPt_n (by omega)]
      exact g2 i hi
    · rw [zPt_n (by omega), zPt_n (by omega)] at e
      exact g3 i j hi hj e
    · obtain ⟨i, i1, i2⟩ := g4 b b1 b2 b3
      exact ⟨i, i1, by rw [zPt_n (by omega), i2]⟩
  · rw [zUp_at]
    by_cases z : i = 9
    · rw [if_pos z, z, zPt_e]
    · rw [if_neg z, zPt_n z, e5 i (by omega)]
theorem zcreL {I : zI} {W : Nat → Nat} (h : WC I W) {a : Nat} (ha : a < 10) : ∀ (j k n : Nat), k + j = 9 → j + 20 < n → Ga_reachableFrom_2_L6 n (zN (zRch W (1 <<< a) k)) (zN (k + 1)) I = some (zN (zRch W (1 <<< a) 9)) := by
  intro j
  induction j with
  | zero =>
    intro k n hk hn
    obtain ⟨n, rfl⟩ : ∃ e, n = e + 1 := ⟨n - 1, by omega⟩
    have : k = 9 := by omega
    subst this
    rw [Ga_reachableFrom_2_L6, if_pos (by decide)]
  | succ j ih =>
    intro k n hk hn
    obtain ⟨n, rfl⟩ : ∃ e, n = e + 1 := ⟨n - 1, by omega⟩
    rw [Ga_reachableFrom_2_L6, if_neg (by rw [zl_10, zN_le (by decide) (by omega)]; omega), zcnb h (zRch_lt h.2 (z1_lt ha) k) (by omega), Option.bind_some, zN_or, zl_1, zN_add]
    exact ih (k + 1) n (by omega) (by omega)
theorem zcre {I : zI} {W : Nat → Nat} (h : WC I W) {a n : Nat} (ha : a < 10) (hn : 40 < n) : Ga_reachableFrom_2 n (zN a) I = some (zN (zRch W (1 <<< a) 9)) := by
  unfold Ga_reachableFrom_2
  rw [zl_1, zN_shl 1 (by omega), show Ga_reachableFrom_2_L6 n (zN (1 <<< a)) (zN 1) I = _ from zcreL h ha 9 0 n rfl (by omega), Option.bind_some]
theorem zWC_fr {I I' : zI} {W : Nat → Nat} (h : WC I W) (h4 : I' 4 = I 4) : WC I' W := ⟨fun b hb => by rw [h4]; exact h.1 b hb, h.2⟩
/-- what is in use -/
theorem zcus {c i k : Nat} (hc : c ≤ 9) (hi : i < 10) (hk : k < 10) : (if zN i < zN c then (if zN k < zN c then some 1 else if zN k = 9 then some 1 else some 0) else if zN i = 9 then (if zN k < zN c then some 1 else if zN k = 9 then some 1 else some 0) else some 0 : Option Int32) = some (zB (decide ((i < c ∨ i = 9) ∧ (k < c ∨ k = 9)))) := by
  have e : (if zN k < zN c then some 1 else if zN k = 9 then some 1 else some 0 : Option Int32) = some (zB (decide (k < c ∨ k = 9))) := by
    by_cases q : k < c
    · rw [if_pos ((zN_lt (by omega) (by omega)).mpr q), decide_eq_true (Or.inl q)]
      rfl
    · rw [if_neg (by rw [zN_lt (by omega) (by omega)]; exact q)]
      by_cases q2 : k = 9
      · rw [if_pos (by rw [q2]; rfl), decide_eq_true (Or.inr q2)]
        rfl
      · rw [if_neg (by rw [zl_9, zN_inj (by omega) (by decide)]; exact q2), decide_eq_false (by omega)]
        rfl
  rw [e]
  by_cases q : i < c
  · rw [if_pos ((zN_lt (by omega) (by omega)).mpr q)]
    congr 2
    exact decide_eq_decide.mpr ⟨fun z => ⟨Or.inl q, z⟩, fun z => z.2⟩
  · rw [if_neg (by rw [zN_lt (by omega) (by omega)]; exact q)]
    by_cases q2 : i = 9
    · rw [if_pos (by rw [q2]; rfl)]
      congr 2
      exact decide_eq_decide.mpr ⟨fun z => ⟨Or.inr q2, z⟩, fun z => z.2⟩
    · rw [if_neg (by rw [zl_9, zN_inj (by omega) (by decide)]; exact q2), decide_eq_false (by omega)]
      rfl
theorem zclgL {W : Nat → Nat} {c : Nat} {t : Nat → Nat} (hc : c ≤ 9) (ht : ∀ i, i < c ∨ i = 9 → t i < 10) {i : Nat} (hi : i < 10) : ∀ (j k n : Nat) (I : zI), k + j = 10 → j + 50 < n → WC I W → I 52 3 = zN c → (∀ i, i < c ∨ i = 9 → I 54 i = zN (t i)) → ∃ I', Rd_measureLegs_2_L10 n (zN i) (zN k) I = some I' ∧ (∀ b, b ≠ 56 → I' b = I b) ∧ (∀ e, e < i * 10 + k → I' 56 e = I 56 e) ∧ ((i < c ∨ i = 9) → ∀ y, k ≤ y → (y < c ∨ y = 9) → I' 56 (i * 10 + y) = zE (zDs W (t i) (t y))) := by
  intro j
  induction j with
  | zero =>
    intro k n I hk hn hw h1 h2
    obtain ⟨n, rfl⟩ : ∃ e, n = e + 1 := ⟨n - 1, by omega⟩
    have : k = 10 := by omega
    subst this
    rw [Rd_measureLegs_2_L10, if_pos (by decide)]
    exact ⟨I, rfl, fun _ _ => rfl, fun _ _ => rfl, fun _ y hy => by omega⟩
  | succ j ih =>
    intro k n I hk hn hw h1 h2
    obtain ⟨n, rfl⟩ : ∃ e, n = e + 1 := ⟨n - 1, by omega⟩
    rw [Rd_measureLegs_2_L10, if_neg (by rw [zl_10, zN_le (by decide) (by omega)]; omega), h1, zcus hc hi (by omega), Option.bind_some]
    by_cases q : (i < c ∨ i = 9) ∧ (k < c ∨ k = 9)
    · rw [decide_eq_true q, if_neg (by decide), zat_53 I (by omega), Option.bind_some, zat_53 I (by omega), Option.bind_some, h2 i q.1, h2 k q.2, zcfar hw (ht i q.1) (ht k q.2) (by omega), Option.bind_some, zl_10, zN_mul, zN_add, zput_55 _ I (by omega), Option.bind_some, Option.bind_some, zl_1, zN_add]
      obtain ⟨I', e1, e2, e3, e4⟩ := ih (k + 1) n (zUp I 56 (i * 10 + k) (zE (zDs W (t i) (t k)))) (by omega) (by omega) (zWC_fr hw (zUp_ne (by decide))) (by rw [zUp_ne (by decide), h1]) (fun x hx => by rw [zUp_ne (by decide), h2 x hx])
      refine ⟨I', e1, fun b hb => by rw [e2 b hb, zUp_ne hb], fun e he => by rw [e3 e (by omega), zUp_nj (by omega)], fun z y h3 h4 => ?_⟩
      by_cases z2 : y = k
      · rw [z2, e3 _ (by omega), zUp_eq]
      · exact e4 z y (by omega) h4
    · rw [decide_eq_false q, if_pos (by decide), Option.bind_some, zl_1, zN_add]
      obtain ⟨I', e1, e2, e3, e4⟩ := ih (k + 1) n I (by omega) (by omega) hw h1 h2
      refine ⟨I', e1, e2, fun e he => e3 e (by omega), fun z y h3 h4 => ?_⟩
      by_cases z2 : y = k
      · exact absurd ⟨z, by omega⟩ q
      · exact e4 z y (by omega) h4
theorem zclgM {W : Nat → Nat} {c : Nat} {t : Nat → Nat} (hc : c ≤ 9) (ht : ∀ i, i < c ∨ i = 9 → t i < 10) : ∀ (j k n : Nat) (I : zI), k + j = 10 → j + 70 < n → WC I W → I 52 3 = zN c → (∀ i, i < c ∨ i = 9 → I 54 i = zN (t i)) → ∃ I', Rd_measureLegs_2_L2 n (zN k) I = some I' ∧ (∀ b, b ≠ 56 → I' b = I b) ∧ (∀ e, e < k * 10 → I' 56 e = I 56 e) ∧ ∀ i, k ≤ i → (i < c ∨ i = 9) → ∀ y, (y < c ∨ y = 9) → I' 56 (i * 10 + y) = zE (zDs W (t i) (t y)) := by
  intro j
  induction j with
  | zero =>
    intro k n I hk hn hw h1 h2
    obtain ⟨n, rfl⟩ : ∃ e, n = e + 1 := ⟨n - 1, by omega⟩
    have : k = 10 := by omega
    subst this
    rw [Rd_measureLegs_2_L2, if_pos (by decide)]
    exact ⟨I, rfl, fun _ _ => rfl, fun _ _ => rfl, fun i hi => by omega⟩
  | succ j ih =>
    intro k n I hk hn hw h1 h2
    obtain ⟨n, rfl⟩ : ∃ e, n = e + 1 := ⟨n - 1, by omega⟩
    obtain ⟨I1, a1, a2, a3, a4⟩ := zclgL hc ht (show k < 10 by omega) 10 0 n I rfl (by omega) hw h1 h2
    rw [Rd_measureLegs_2_L2, if_neg (by rw [zl_10, zN_le (by decide) (by omega)]; omega), show Rd_measureLegs_2_L10 n (zN k) 0 I = _ from a1, Option.bind_some, zl_1, zN_add]
    obtain ⟨I', e1, e2, e3, e4⟩ := ih (k + 1) n I1 (by omega) (by omega) (zWC_fr hw (a2 4 (by decide))) (by rw [a2 52 (by decide), h1]) (fun x hx => by rw [a2 54 (by decide), h2 x hx])
    refine ⟨I', e1, fun b hb => (e2 b hb).trans (a2 b hb), fun e he => by rw [e3 e (by omega), a3 e (by omega)], fun i h3 h4 y h5 => ?_⟩
    by_cases z : i = k
    · rw [z, e3 _ (by omega)]
      exact a4 (by omega) y (Nat.zero_le _) h5
    · exact e4 i (by omega) h4 y h5
/-! sets of stops -/
def zSg (t : Nat → Nat) (V : Nat) : Nat → Nat
  | 0 => 0
  | k + 1 => zSg t V k ||| (if V.testBit k = true then 1 <<< t k else 0)
theorem zSg_bit (t : Nat → Nat) (V b : Nat) : ∀ k, ((zSg t V k).testBit b = true) ↔ ∃ i, i < k ∧ V.testBit i = true ∧ t i = b := by
  intro k
  induction k with
  | zero =>
    unfold zSg
    rw [Nat.zero_testBit]
    constructor
    · intro h
      cases h
    · rintro ⟨i, hi, -⟩
      omega
  | succ k ih =>
    unfold zSg
    rw [Nat.testBit_or, Bool.or_eq_true, ih]
    constructor
    · rintro (⟨i, h1, h2, h3⟩ | h)
      · exact ⟨i, by omega, h2, h3⟩
      · by_cases q : V.testBit k = true
        · rw [if_pos q, z1_bit, decide_eq_true_eq] at h
          exact ⟨k, by omega, q, h⟩
        · rw [if_neg q, Nat.zero_testBit] at h
          cases h
    · rintro ⟨i, h1, h2, h3⟩
      by_cases q : i = k
      · right
        subst q
        rw [if_pos h2, z1_bit, decide_eq_true_eq]
        exact h3
      · left
        exact ⟨i, by omega, h2, h3⟩
theorem zBit_ext {w v : Nat} (h : ∀ i, w.testBit i = true ↔ v.testBit i = true) : w = v := Nat.eq_of_testBit_eq (fun i => by
  have := h i
  cases e1 : w.testBit i <;> cases e2 : v.testBit i <;> simp_all)
theorem zAn_1i (S b i : Nat) : ((zAn S (1 <<< b)).testBit i = true) ↔ (S.testBit i = true ∧ b ≠ i) := by
  rw [zAn_1, Bool.and_eq_true, Bool.not_eq_true', decide_eq_false_iff_not]
theorem zSg_an {t : Nat → Nat} {c V i : Nat} (hinj : ∀ i j, i < c → j < c → t i = t j → i = j) (hi : i < c) : zSg t (zAn V (1 <<< i)) c = zAn (zSg t V c) (1 <<< t i) := zBit_ext (fun b => by
  rw [zSg_bit, zAn_1i, zSg_bit]
  constructor
  · rintro ⟨x, x1, x2, x3⟩
    rw [zAn_1i] at x2
    exact ⟨⟨x, x1, x2.1, x3⟩, fun z => x2.2 (hinj i x hi x1 (z.trans x3.symm))⟩
  · rintro ⟨⟨x, x1, x2, x3⟩, x4⟩
    exact ⟨x, x1, by rw [zAn_1i]; exact ⟨x2, fun z => x4 (by rw [z]; exact x3)⟩, x3⟩)
theorem zBit_lo {V c i : Nat} (hV : V < 2 ^ c) (h : V.testBit i = true) : i < c := by
  by_cases q : i < c
  · exact q
  · have hp : 2 ^ c ≤ 2 ^ i := Nat.pow_le_pow_right (by decide) (by omega)
    rw [Nat.testBit_lt_two_pow (Nat.lt_of_lt_of_le hV hp)] at h
    cases h
theorem zSg_0 (t : Nat → Nat) : ∀ k, zSg t 0 k = 0 := fun k => zBit_ext (fun b => by
  rw [zSg_bit]
  constructor
  · rintro ⟨i, -, h, -⟩
    rw [Nat.zero_testBit] at h
    cases h
  · intro h
    rw [Nat.zero_testBit] at h
    cases h)
def zCT (I : zI) (D : Nat → Nat → Nat) (a c : Nat) (t : Nat → Nat) (V k : Nat) : Prop := ∀ U i, i < c → U.testBit i = true → (U < V ∨ (U = V ∧ i < k)) → I 58 (U * 9 + i) = zN (zTq D a (zSg t (zAn U (1 <<< i)) c) (t i))
def zLg (I : zI) (D : Nat → Nat → Nat) (c : Nat) (t : Nat → Nat) : Prop := I 52 3 = zN c ∧ ∀ i j, (i < c ∨ i = 9) → (j < c ∨ j = 9) → I 56 (i * 10 + j) = zN (D (t i) (t j)) ∧ D (t i) (t j) < 100
theorem zcchL {I : zI} {D : Nat → Nat → Nat} {a c V x : Nat} {t : Nat → Nat} (hd : zMet D) (hc : c ≤ 9) (hl : zLg I D c t) (hx : x < c ∨ x = 9) (hV : V < 2 ^ c) (hT : zCT I D a c t (V + 1) 0) : ∀ (j k n acc : Nat), k + j = c → j < n → acc ≤ 1000000 → Rd_cheapest_L22 n (zN V) (zN x) (zN acc) (zN k) I = some (zN (zMi (fun i => V.testBit i) (fun i => zTq D a (zSg t (zAn V (1 <<< i)) c) (t i) + D (t i) (t x)) j k acc)) := by
  have hV2 : V < 512 := Nat.lt_of_lt_of_le hV (Nat.pow_le_pow_right (n := 2) (by decide) hc)
  intro j
  induction j with
  | zero =>
    intro k n acc hk hn ha
    obtain ⟨n, rfl⟩ : ∃ e, n = e + 1 := ⟨n - 1, by omega⟩
    rw [Rd_cheapest_L22, hl.1, if_pos ((zN_le (by omega) (by omega)).mpr (by omega))]
    rfl
  | succ j ih =>
    intro k n acc hk hn ha
    obtain ⟨n, rfl⟩ : ∃ e, n = e + 1 := ⟨n - 1, by omega⟩
    rw [Rd_cheapest_L22, hl.1, if_neg (by rw [zN_le (by omega) (by omega)]; omega), zbHas I (by omega) (by omega), Option.bind_some]
    unfold zMi
    cases q : V.testBit k
    · rw [if_pos (by decide), Option.bind_some, if_neg (by decide), zl_1, zN_add]
      exact ih (k + 1) n acc (by omega) (by omega) ha
    · have h1 := hT V k (by omega) q (Or.inl (by omega))
      obtain ⟨h2, h3⟩ := hl.2 k x (Or.inl (by omega)) hx
      have h4 := zTq_lt hd a (zSg t (zAn V (1 <<< k)) c) (t k)
      rw [if_neg (by decide), show (9 : Int32) = zN 9 from rfl, zN_mul, zN_add, zat_57 I (by omega), Option.bind_some, zl_10, zN_mul, zN_add, zat_55 I (by omega), Option.bind_some, h1, h2, zN_add, Option.bind_some, if_pos rfl, zl_1, zN_add]
      by_cases z : zTq D a (zSg t (zAn V (1 <<< k)) c) (t k) + D (t k) (t x) < acc
      · rw [if_pos ((zN_lt (by omega) (by omega)).mpr z), if_pos z]
        exact ih (k + 1) n _ (by omega) (by omega) (by omega)
      · rw [if_neg (by rw [zN_lt (by omega) (by omega)]; exact z), if_neg z]
        exact ih (k + 1) n _ (by omega) (by omega) ha
theorem zcchp {I : zI} {D : Nat → Nat → Nat} {a c V x n : Nat} {t : Nat → Nat} (hd : zMet D) (hc : c ≤ 9) (t9 : t 9 = a) (ht : ∀ i, i < c → t i < 10) (hinj : ∀ i j, i < c → j < c → t i = t j → i = j) (hl : zLg I D c t) (hx : x < c ∨ x = 9) (hV : V < 2 ^ c) (hT : zCT I D a c t (V + 1) 0) (hn : 20 < n) : Rd_cheapest n (zN V) (zN x) I = some (zN (zTq D a (zSg t V c) (t x))) := by
  have hV2 : V < 512 := Nat.lt_of_lt_of_le hV (Nat.pow_le_pow_right (n := 2) (by decide) hc)
  unfold Rd_cheapest
  by_cases q : V = 0
  · subst q
    rw [if_pos (show zN 0 = 0 from rfl), zl_90, zN_add, zat_55 I (by omega), Option.bind_some, (hl.2 9 x (Or.inr rfl) hx).1, zSg_0, zTq_0, t9]
  · have hS : zSg t V c ≠ 0 := by
      obtain ⟨b, b1, b2⟩ := zBit_ex (show V < 1024 by omega) q
      intro z
      have := (zSg_bit t V (t b) c).mpr ⟨b, zBit_lo hV b2, b2, rfl⟩
      rw [z, Nat.zero_testBit] at this
      cases this
    rw [if_neg (by rw [zl_0, zN_inj (by omega) (by decide)]; exact q), show Rd_cheapest_L22 n (zN V) (zN x) 1000000 0 I = _ from zcchL hd hc hl hx hV hT c 0 n 1000000 (by omega) (by omega) (Nat.le_refl _), Option.bind_some, zTq_s D a (t x) hS]
    congr 2
    refine zMi_img (fun i hi h => ?_) (fun b hb h => ?_)
    · refine ⟨t i, ht i hi, (zSg_bit t V (t i) c).mpr ⟨i, hi, h, rfl⟩, ?_⟩
      show _ = zTq D a (zSg t (zAn V (1 <<< i)) c) (t i) + D (t i) (t x)
      rw [zSg_an hinj hi]
    · obtain ⟨i, h1, h2, h3⟩ := (zSg_bit t V b c).mp h
      refine ⟨i, h1, h2, ?_⟩
      show zTq D a (zSg t (zAn V (1 <<< i)) c) (t i) + D (t i) (t x) = _
      rw [zSg_an hinj h1, h3]
