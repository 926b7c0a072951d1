/-! rounds: the class's table -/
theorem zN_an1 (a b : Nat) : zN a &&& (zN b ^^^ -1) = zN (zAn a b) := zN_an a b
theorem zCT_fr {I I' : zI} {D : Nat → Nat → Nat} {a c : Nat} {t : Nat → Nat} {V k : Nat} (h : zCT I D a c t V k) (e : I' 58 = I 58) : zCT I' D a c t V k := fun U i h1 h2 h3 => by
  rw [e]
  exact h U i h1 h2 h3
theorem zcs65 {D : Nat → Nat → Nat} {a c V : Nat} {t : Nat → Nat} {all : Int32} (hd : zMet D) (hc : c ≤ 9) (t9 : t 9 = a) (ht : ∀ i, i < c → t i < 10) (hinj : ∀ i j, i < c → j < c → t i = t j → i = j) (hV : V < 2 ^ c) : ∀ (j k n : Nat) (I : zI), k + j = c → j + 30 < n → zLg I D c t → zCT I D a c t V k → ∃ I', Rd_shortest_2_L65 n all (zN V) (zN k) I = some I' ∧ (∀ b, b ≠ 58 → I' b = I b) ∧ zCT I' D a c t V c := by
  have hV2 : V < 512 := Nat.lt_of_lt_of_le hV (Nat.pow_le_pow_right (n := 2) (by decide) hc)
  intro j
  induction j with
  | zero =>
    intro k n I hk hn hl hT
    obtain ⟨n, rfl⟩ : ∃ e, n = e + 1 := ⟨n - 1, by omega⟩
    have : k = c := by omega
    subst this
    rw [Rd_shortest_2_L65, hl.1, if_pos ((zN_le (by omega) (by omega)).mpr (by omega))]
    exact ⟨I, rfl, fun _ _ => rfl, hT⟩
  | succ j ih =>
    intro k n I hk hn hl hT
    obtain ⟨n, rfl⟩ : ∃ e, n = e + 1 := ⟨n - 1, by omega⟩
    rw [Rd_shortest_2_L65, hl.1, if_neg (by rw [zN_le (by omega) (by omega)]; omega), zbHas I (by omega) (by omega), Option.bind_some]
    cases q : V.testBit k
    · rw [if_pos (by decide), Option.bind_some, zl_1, zN_add]
      refine ih (k + 1) n I (by omega) (by omega) hl (fun U i h1 h2 h3 => ?_)
      refine hT U i h1 h2 ?_
      by_cases z : U = V ∧ i = k
      · rw [z.1, z.2, q] at h2
        cases h2
      · omega
    · have hlt := zAn_lt q
      rw [if_neg (by decide), zl_1, zN_shl 1 (by omega), zN_an, zcchp hd hc t9 ht hinj hl (Or.inl (by omega)) (by omega) (fun U i h1 h2 h3 => hT U i h1 h2 (Or.inl (by omega))) (by omega), Option.bind_some, show (9 : Int32) = zN 9 from rfl, zN_mul, zN_add, zput_57 _ I (by omega), Option.bind_some, Option.bind_some, zN_add]
      obtain ⟨I', e1, e2, e3⟩ := ih (k + 1) n (zUp I 58 (V * 9 + k) (zN (zTq D a (zSg t (zAn V (1 <<< k)) c) (t k)))) (by omega) (by omega) ⟨by rw [zUp_ne (by decide), hl.1], fun x y hx hy => by rw [zUp_ne (by decide)]; exact hl.2 x y hx hy⟩ (fun U i h1 h2 h3 => by
        rw [zUp_at]
        by_cases z : U = V ∧ i = k
        · rw [if_pos (by rw [z.1, z.2]), z.1, z.2]
        · rw [if_neg (by omega)]
          exact hT U i h1 h2 (by omega))
      exact ⟨I', e1, fun b hb => by rw [e2 b hb, zUp_ne hb], e3⟩
theorem zcs55 {D : Nat → Nat → Nat} {a c : Nat} {t : Nat → Nat} (hd : zMet D) (hc : c ≤ 9) (t9 : t 9 = a) (ht : ∀ i, i < c → t i < 10) (hinj : ∀ i j, i < c → j < c → t i = t j → i = j) : ∀ (j V n : Nat) (I : zI), V + j = 2 ^ c → 1 ≤ V → j + 60 < n → zLg I D c t → zCT I D a c t V 0 → ∃ I', Rd_shortest_2_L55 n (zN (2 ^ c - 1)) (zN V) I = some I' ∧ (∀ b, b ≠ 58 → I' b = I b) ∧ zCT I' D a c t (2 ^ c) 0 := by
  have hV2 : 2 ^ c ≤ 512 := Nat.pow_le_pow_right (n := 2) (by decide) hc
  intro j
  induction j with
  | zero =>
    intro V n I hk h1 hn hl hT
    obtain ⟨n, rfl⟩ : ∃ e, n = e + 1 := ⟨n - 1, by omega⟩
    rw [Rd_shortest_2_L55, if_pos ((zN_lt (by omega) (by omega)).mpr (by omega))]
    refine ⟨I, rfl, fun _ _ => rfl, ?_⟩
    rw [show 2 ^ c = V by omega]
    exact hT
  | succ j ih =>
    intro V n I hk h1 hn hl hT
    obtain ⟨n, rfl⟩ : ∃ e, n = e + 1 := ⟨n - 1, by omega⟩
    obtain ⟨I1, a1, a2, a3⟩ := zcs65 (all := zN (2 ^ c - 1)) hd hc t9 ht hinj (show V < 2 ^ c by omega) c 0 n I (by omega) (by omega) hl hT
    rw [Rd_shortest_2_L55, if_neg (by rw [zN_lt (by omega) (by omega)]; omega), show Rd_shortest_2_L65 n (zN (2 ^ c - 1)) (zN V) 0 I = _ from a1, Option.bind_some, zl_1, zN_add]
    obtain ⟨I', e1, e2, e3⟩ := ih (V + 1) n I1 (by omega) (by omega) (by omega) ⟨by rw [a2 52 (by decide), hl.1], fun x y hx hy => by rw [a2 56 (by decide)]; exact hl.2 x y hx hy⟩ (fun U i g1 g2 g3 => a3 U i g1 g2 (by omega))
    exact ⟨I', e1, fun b hb => (e2 b hb).trans (a2 b hb), e3⟩
/-- what a round costs -/
def zRn (W : Nat → Nat) (a S : Nat) : Nat := zTq (zDs W) a (zAn S (1 <<< a)) a
theorem zcsh {I : zI} {W : Nat → Nat} (hw : WC I W) (hn2 : zNet W) {a S n : Nat} (ha : a < 10) (hS : S < 1024) (hn : 5000 < n) : ∃ I', Rd_shortest_2 n (zN a) (zN S) I = some (zE (zRn W a S), I') ∧ ∀ b, b ≠ 52 → b ≠ 54 → b ≠ 56 → b ≠ 58 → I' b = I b := by
  have hd := zMet_ds hn2
  obtain ⟨I1, c, t, a1, a2, a3, hc, t9, a4, a5⟩ := zcgs (n := n) I ha hS (by omega)
  unfold Rd_shortest_2
  rw [a1, Option.bind_some, a4]
  have hT1 : zAn S (1 <<< a) < 1024 := Nat.lt_of_le_of_lt (zAn_le _ _) hS
  have hmem : ∀ b, (zAn S (1 <<< a)).testBit b = true ↔ ∃ i, i < c ∧ t i = b := by
    intro b
    rw [zAn_1i]
    constructor
    · rintro ⟨h1, h2⟩
      have hb : b < 10 := zBit_lo (c := 10) hS h1
      exact a3.2.2.2 b hb (fun z => h2 z.symm) h1
    · rintro ⟨i, h1, rfl⟩
      exact ⟨(a3.2.1 i h1).2.2, fun z => (a3.2.1 i h1).2.1 z.symm⟩
  have ht : ∀ i, i < c → t i < 10 := fun i hi => (a3.2.1 i hi).1
  have ht9 : ∀ i, i < c ∨ i = 9 → t i < 10 := fun i hi => by
    rcases hi with hi | hi
    · exact ht i hi
    · rw [hi, t9]
      exact ha
  have hinj := a3.2.2.1
  by_cases q : c = 0
  · rw [if_pos (by rw [q]; rfl)]
    have e : zAn S (1 <<< a) = 0 := zBit_ext (fun b => by
      rw [hmem b]
      constructor
      · rintro ⟨i, hi, -⟩
        omega
      · intro h
        rw [Nat.zero_testBit] at h
        cases h)
    unfold zRn
    rw [e, zTq_0, hd.2.1 a]
    exact ⟨I1, rfl, fun b b1 b2 _ _ => a2 b b1 b2⟩
  · rw [if_neg (by rw [zl_0, zN_inj (by omega) (by decide)]; exact q)]
    have hw1 := zWC_fr hw (a2 4 (by decide) (by decide))
    rw [zcre hw1 ha (by omega), Option.bind_some, zN_an1]
    have hle := zAn_le S (zRch W (1 <<< a) 9)
    by_cases q2 : zAn S (zRch W (1 <<< a) 9) = 0
    · rw [if_pos (by rw [q2]; rfl)]
      have hin : ∀ b, b < 10 → (zAn S (1 <<< a)).testBit b = true → zDs W a b < 100 := by
        intro b hb h
        rw [zAn_1i] at h
        rw [← zD_rch hn2 ha hb]
        have := zAn_bit S (zRch W (1 <<< a) 9) b
        rw [q2, Nat.zero_testBit, h.1] at this
        cases e : (zRch W (1 <<< a) 9).testBit b
        · rw [e] at this
          cases this
        · rfl
      have hit : ∀ i, i < c ∨ i = 9 → zDs W a (t i) < 100 := by
        rintro i (hi | hi)
        · exact hin _ (ht i hi) ((hmem _).mpr ⟨i, hi, rfl⟩)
        · rw [hi, t9, hd.2.1 a]
          decide
      obtain ⟨I2, b1, b2, b3, b4⟩ := zclgM hc ht9 10 0 n I1 rfl (by omega) hw1 a4 a5
      unfold Rd_measureLegs_2
      rw [show Rd_measureLegs_2_L2 n 0 I1 = _ from b1, Option.bind_some, Option.bind_some]
      have hl : zLg I2 (zDs W) c t := by
        refine ⟨by rw [b2 52 (by decide), a4], fun i j hi hj => ?_⟩
        have h1 := hd.2.2.2 a (t i) ha (ht9 i hi) (hit i hi)
        have h2 := hd.2.2.1 (t i) a (t j) (ht9 i hi) ha (ht9 j hj)
        have h3 := hd.1 (t i) (t j)
        have h4 := hd.1 (t i) a
        have h5 := hd.1 a (t j)
        have h6 := hit j hj
        refine ⟨?_, by omega⟩
        rw [b4 i (Nat.zero_le _) hi j hj, zE_lt (by omega)]
      have hp : 2 ^ c ≤ 512 := Nat.pow_le_pow_right (n := 2) (by decide) hc
      have hp1 : 1 ≤ 2 ^ c := Nat.one_le_two_pow
      have ec : zShl 1 (I2 52 3) - 1 = zN (2 ^ c - 1) := by
        rw [hl.1, zl_1, zN_shl 1 (by omega), Nat.one_shiftLeft, zN_sub hp1]
      rw [ec]
      obtain ⟨I3, c1, c2, c3⟩ := zcs55 hd hc t9 ht hinj (2 ^ c - 1) 1 n I2 (by omega) (Nat.le_refl 1) (by omega) hl (fun U i g1 g2 g3 => by
        have : U = 0 := by omega
        rw [this, Nat.zero_testBit] at g2
        cases g2)
      have hl3 : zLg I3 (zDs W) c t := ⟨by rw [c2 52 (by decide), hl.1], fun x y hx hy => by rw [c2 56 (by decide)]; exact hl.2 x y hx hy⟩
      have ec3 : zShl 1 (I3 52 3) - 1 = zN (2 ^ c - 1) := by
        rw [hl3.1, zl_1, zN_shl 1 (by omega), Nat.one_shiftLeft, zN_sub hp1]
      have ec3' : zShl 1 (I2 52 3) - 1 = zN (2 ^ c - 1) := ec
      have hfin := zcchp (n := n) hd hc t9 ht hinj hl3 (Or.inr rfl) (show 2 ^ c - 1 < 2 ^ c by omega) (by rw [show 2 ^ c - 1 + 1 = 2 ^ c by omega]; exact c3) (by omega)
      rw [show Rd_shortest_2_L55 n (zN (2 ^ c - 1)) 1 I2 = _ from c1, Option.bind_some]
      try rw [ec3]
      rw [show Rd_cheapest n (zN (2 ^ c - 1)) 9 I3 = _ from hfin, Option.bind_some]
      have eS : zSg t (2 ^ c - 1) c = zAn S (1 <<< a) := zBit_ext (fun b => by
        rw [zSg_bit, hmem b]
        constructor
        · rintro ⟨i, h1, -, h2⟩
          exact ⟨i, h1, h2⟩
        · rintro ⟨i, h1, h2⟩
          exact ⟨i, h1, by rw [Nat.testBit_two_pow_sub_one, decide_eq_true h1], h2⟩)
      have hup := zTq_up hd ha (zAn S (1 <<< a) + 1) (zAn S (1 <<< a)) a (by omega) hT1 ha (by rw [hd.2.1 a]; decide) hin
      have hpop := zPop_10 _ hT1
      unfold zRn
      rw [eS, t9, zE_lt (by omega)]
      exact ⟨I3, rfl, fun b b5 b6 b7 b8 => by rw [c2 b b8, b2 b b7, a2 b b5 b6]⟩
    · rw [if_neg (by rw [zl_0, zN_inj (by omega) (by decide)]; exact q2)]
      unfold zRn
      rw [zE_ge]
      · exact ⟨I1, rfl, fun b b1 b2 _ _ => a2 b b1 b2⟩
      · refine Nat.le_of_not_lt (fun z => ?_)
        obtain ⟨h1, h2⟩ := zTq_rch hd ha (zAn S (1 <<< a) + 1) (zAn S (1 <<< a)) a (by omega) ha z
        obtain ⟨b, b1, b2⟩ := zBit_ex (Nat.lt_of_le_of_lt hle hS) q2
        rw [zAn_bit, Bool.and_eq_true, Bool.not_eq_true'] at b2
        by_cases e : a = b
        · rw [← e] at b2
          have := (zD_rch hn2 ha ha).mpr (by rw [hd.2.1 a]; decide)
          rw [this] at b2
          cases b2.2
        · have := (zD_rch hn2 ha b1).mpr (h2 b b1 ((zAn_1i S a b).mpr ⟨b2.1, e⟩))
          rw [this] at b2
          cases b2.2
/-! rounds: the reference's -/
def zMO (I : zI) (D : Nat → Nat → Nat) : Prop := ∀ e, e < 100 → I 89 e = zE (D (e / 10) (e % 10))
theorem zWM_fr {I I' : zI} {W : Nat → Nat} (h : WM I W) (h4 : I' 74 = I 74) : WM I' W := ⟨fun b hb => by rw [h4]; exact h.1 b hb, h.2⟩
theorem zmofL {W : Nat → Nat} : ∀ (j k n : Nat) (I : zI), k + j = 100 → j + 50 < n → WM I W → ∃ I', Mo_findOff_L2 n (zN k) I = some I' ∧ (∀ b, b ≠ 89 → I' b = I b) ∧ (∀ e, e < k → I' 89 e = I 89 e) ∧ ∀ e, k ≤ e → e < 100 → I' 89 e = zE (zDs W (e / 10) (e % 10)) := by
  intro j
  induction j with
  | zero =>
    intro k n I hk hn hw
    obtain ⟨n, rfl⟩ : ∃ e, n = e + 1 := ⟨n - 1, by omega⟩
    have : k = 100 := by omega
    subst this
    rw [Mo_findOff_L2, if_pos (by decide)]
    exact ⟨I, rfl, fun _ _ => rfl, fun _ _ => rfl, fun e h1 => by omega⟩
  | succ j ih =>
    intro k n I hk hn hw
    obtain ⟨n, rfl⟩ : ∃ e, n = e + 1 := ⟨n - 1, by omega⟩
    rw [Mo_findOff_L2, if_neg (by rw [zl_100, zN_le (by decide) (by omega)]; omega), zl_10, zN_div (by omega) (by decide), zN_rem (by omega) (by decide), zmfar hw (by omega) (by omega) (by omega), Option.bind_some, if_pos ((zN_in (by omega)).mpr (by omega)), zN_tn (by omega), zl_1, zN_add]
    obtain ⟨I', e1, e2, e3, e4⟩ := ih (k + 1) n (zUp I 89 k (zE (zDs W (k / 10) (k % 10)))) (by omega) (by omega) (zWM_fr hw (zUp_ne (by decide)))
    refine ⟨I', e1, fun b hb => by rw [e2 b hb, zUp_ne hb], fun e he => by rw [e3 e (by omega), zUp_nj (by omega)], fun e h1 h2 => ?_⟩
    by_cases z : e = k
    · rw [z, e3 k (by omega), zUp_eq]
    · exact e4 e (by omega) h2
theorem zmof {W : Nat → Nat} {n : Nat} (I : zI) (hn : 200 < n) (hw : WM I W) : ∃ I', Mo_findOff n I = some I' ∧ (∀ b, b ≠ 89 → I' b = I b) ∧ zMO I' (zDs W) := by
  obtain ⟨I', e1, e2, e3, e4⟩ := zmofL 100 0 n I rfl (by omega) hw
  unfold Mo_findOff
  rw [show Mo_findOff_L2 n 0 I = _ from e1, Option.bind_some]
  exact ⟨I', rfl, e2, fun e he => e4 e (Nat.zero_le _) he⟩
def zMT (I : zI) (D : Nat → Nat → Nat) (a V k : Nat) : Prop := ∀ U i, i < 10 → U.testBit i = true → (U < V ∨ (U = V ∧ i < k)) → I 88 (10 * U + i) = zE (zTq D a (zAn U (1 <<< i)) i)
theorem zmMO {I : zI} {D : Nat → Nat → Nat} (h : zMO I D) {x y : Nat} (hx : x < 10) (hy : y < 10) : I 89 (10 * x + y) = zE (D x y) := by
  rw [h _ (by omega), show (10 * x + y) / 10 = x by omega, show (10 * x + y) % 10 = y by omega]
theorem zleast {acc f : Nat} {J : zI} (hf : f < 100) : Mo_least (zE acc) (zN f) J = some (zE (if f < acc then f else acc)) := by
  unfold Mo_least
  by_cases q : acc < 100
  · rw [if_neg (by rw [zl_0, zE_neg]; omega), if_neg (by rw [zl_0, zN_lt (by omega) (by decide)]; omega), zE_lt q]
    by_cases z : acc ≤ f
    · rw [if_pos ((zN_le (by omega) (by omega)).mpr z), if_neg (by omega), zE_lt q]
    · rw [if_neg (by rw [zN_le (by omega) (by omega)]; exact z), if_pos (by omega), zE_lt hf]
  · rw [if_pos (by rw [zl_0, zE_neg]; omega), if_pos (by omega), zE_lt hf]
theorem zleastn {acc f : Nat} (hf : 100 ≤ f) : zE acc = zE (if f < acc then f else acc) := by
  by_cases q : f < acc
  · rw [if_pos q, zE_ge hf, zE_ge (by omega)]
  · rw [if_neg q]
theorem zPop_r : ∀ w, w < 1024 → ∀ b, b < 10 → w.testBit b = true → zPop (zAn w (1 <<< b)) ≤ 9 := by
  intro w hw b hb h
  have h1 := zPop_an w hw b hb h
  have h2 := zPop_10 w hw
  omega
theorem zmrwL {I : zI} {D : Nat → Nat → Nat} {a V x : Nat} (hd : zMet D) (ha : a < 10) (hx : x < 10) (hV : V < 1024) (ho : zMO I D) (hT : zMT I D a (V + 1) 0) : ∀ (j k n acc : Nat), k + j = 10 → j < n → Mo_rowBy_L33 n (zN x) (zN V) (zE acc) (zN k) I = some (zE (zMi (fun b => V.testBit b) (fun b => zTq D a (zAn V (1 <<< b)) b + D b x) j k acc)) := by
  intro j
  induction j with
  | zero =>
    intro k n acc hk hn
    obtain ⟨n, rfl⟩ : ∃ e, n = e + 1 := ⟨n - 1, by omega⟩
    have : k = 10 := by omega
    subst this
    rw [Mo_rowBy_L33, if_pos (by decide)]
    rfl
  | succ j ih =>
    intro k n acc hk hn
    obtain ⟨n, rfl⟩ : ∃ e, n = e + 1 := ⟨n - 1, by omega⟩
    rw [Mo_rowBy_L33, if_neg (by rw [zl_10, zN_le (by decide) (by omega)]; omega), zmIsIn I (by omega) (by omega), Option.bind_some]
    unfold zMi
    cases q : V.testBit k
    · rw [if_pos (by decide), Option.bind_some, if_pos rfl, Option.bind_some, if_neg (by decide), zl_1, zN_add]
      exact ih (k + 1) n acc (by omega) (by omega)
    · have h1 := hT V k (by omega) q (Or.inl (by omega))
      have h2 := zmMO ho (show k < 10 by omega) hx
      have hle := zAn_le V (1 <<< k)
      have e10 : (10 : Int32) * zN V + zN k = zN (10 * V + k) := by rw [zl_10, zN_mul, zN_add]
      have e11 : (10 : Int32) * zN k + zN x = zN (10 * k + x) := by rw [zl_10, zN_mul, zN_add]
      have hin : zIn (zN (10 * k + x)) 100 := (zN_in (by omega)).mpr (by omega)
      have hin2 : zIn (zN (10 * V + k)) 10240 := (zN_in (by omega)).mpr (by omega)
      rw [if_neg (by decide), e10, e11, if_pos hin2, if_pos hin2, if_pos hin, if_pos hin, zN_tn (by omega), zN_tn (by omega), h1, h2, if_pos rfl]
      by_cases z1 : zTq D a (zAn V (1 <<< k)) k < 100
      · by_cases z2 : D k x < 100
        · have hr := zTq_rch hd ha _ (zAn V (1 <<< k)) k (Nat.lt_succ_self _) (by omega) z1
          have hu := zTq_up hd ha _ (zAn V (1 <<< k)) k (Nat.lt_succ_self _) (by omega) (by omega) hr.1 hr.2
          have hp := zPop_r V hV k (by omega) q
          have hd1 := hd.1 k x
          rw [if_neg (by rw [zl_0, zE_neg]; omega), if_neg (by rw [zl_0, zE_neg]; omega), Option.bind_some, if_neg (by decide), zE_lt z1, zE_lt z2, zN_add, zleast (by omega), Option.bind_some, Option.bind_some, zl_1, zN_add]
          exact ih (k + 1) n _ (by omega) (by omega)
        · rw [if_neg (by rw [zl_0, zE_neg]; omega), if_pos (by rw [zl_0, zE_neg]; omega), Option.bind_some, if_pos rfl, Option.bind_some, zl_1, zN_add, zleastn (acc := acc) (f := zTq D a (zAn V (1 <<< k)) k + D k x) (by omega)]
          exact ih (k + 1) n _ (by omega) (by omega)
      · rw [if_pos (by rw [zl_0, zE_neg]; omega), Option.bind_some, if_pos rfl, Option.bind_some, zl_1, zN_add, zleastn (acc := acc) (f := zTq D a (zAn V (1 <<< k)) k + D k x) (by omega)]
        exact ih (k + 1) n _ (by omega) (by omega)
theorem zmrw {I : zI} {D : Nat → Nat → Nat} {a V x n : Nat} (hd : zMet D) (ha : a < 10) (hx : x < 10) (hV : V < 1024) (hb : V.testBit x = true) (ho : zMO I D) (hT : zMT I D a V 0) (hn : 20 < n) : Mo_rowBy n (zN a) (zN V) (zN x) I = some (zE (zTq D a (zAn V (1 <<< x)) x)) := by
  have hlt := zAn_lt hb
  unfold Mo_rowBy
  rw [zl_1, zN_shl 1 (by omega), zN_an]
  by_cases q : zAn V (1 <<< x) = 0
  · rw [if_pos (by rw [q]; rfl), zl_10, zN_mul, zN_add, if_pos ((zN_in (by omega)).mpr (by omega)), zN_tn (by omega), zmMO ho ha hx, q, zTq_0]
  · rw [if_neg (by rw [zl_0, zN_inj (by omega) (by decide)]; exact q)]
    have := zmrwL (n := n) hd ha hx (show zAn V (1 <<< x) < 1024 by omega) ho (fun U i g1 g2 g3 => hT U i g1 g2 (by omega)) 10 0 1000000 rfl (by omega)
    rw [show Mo_rowBy_L33 n (zN x) (zN (zAn V (1 <<< x))) (-6) 0 I = _ from this, Option.bind_some, zTq_s D a x q]
theorem zmr38 {D : Nat → Nat → Nat} {a V : Nat} {v2 : Int32} (hd : zMet D) (ha : a < 10) (hV : V < 1024) : ∀ (j k n : Nat) (I : zI), k + j = 10 → j + 30 < n → zMO I D → zMT I D a V k → ∃ I', Mo_round_L38 n (zN a) v2 (zN V) (zN k) I = some I' ∧ (∀ b, b ≠ 88 → I' b = I b) ∧ zMT I' D a V 10 := by
  intro j
  induction j with
  | zero =>
    intro k n I hk hn ho hT
    obtain ⟨n, rfl⟩ : ∃ e, n = e + 1 := ⟨n - 1, by omega⟩
    have : k = 10 := by omega
    subst this
    rw [Mo_round_L38, if_pos (by decide)]
    exact ⟨I, rfl, fun _ _ => rfl, hT⟩
  | succ j ih =>
    intro k n I hk hn ho hT
    obtain ⟨n, rfl⟩ : ∃ e, n = e + 1 := ⟨n - 1, by omega⟩
    have e10 : (10 : Int32) * zN V + zN k = zN (10 * V + k) := by rw [zl_10, zN_mul, zN_add]
    rw [Mo_round_L38, if_neg (by rw [zl_10, zN_le (by decide) (by omega)]; omega), zmIsIn I (by omega) (by omega), Option.bind_some, e10, zl_1, zN_add]
    have hin : zIn (zN (10 * V + k)) 10240 := (zN_in (by omega)).mpr (by omega)
    cases q : V.testBit k
    · rw [if_pos (by decide), Option.bind_some, if_pos hin, zN_tn (by omega)]
      obtain ⟨I', e1, e2, e3⟩ := ih (k + 1) n (zUp I 88 (10 * V + k) (-6)) (by omega) (by omega) (fun e he => by rw [zUp_ne (by decide)]; exact ho e he) (fun U i g1 g2 g3 => by
        by_cases z : U = V ∧ i = k
        · rw [z.1, z.2, q] at g2
          cases g2
        · rw [zUp_nj (by omega)]
          exact hT U i g1 g2 (by omega))
      exact ⟨I', e1, fun b hb => by rw [e2 b hb, zUp_ne hb], e3⟩
    · rw [if_neg (by decide), zmrw hd ha (by omega) hV q ho (fun U i g1 g2 g3 => hT U i g1 g2 (by omega)) (by omega), Option.bind_some, Option.bind_some, if_pos hin, zN_tn (by omega)]
      obtain ⟨I', e1, e2, e3⟩ := ih (k + 1) n (zUp I 88 (10 * V + k) (zE (zTq D a (zAn V (1 <<< k)) k))) (by omega) (by omega) (fun e he => by rw [zUp_ne (by decide)]; exact ho e he) (fun U i g1 g2 g3 => by
        rw [zUp_at]
        by_cases z : U = V ∧ i = k
        · rw [if_pos (by rw [z.1, z.2]), z.1, z.2]
        · rw [if_neg (by omega)]
          exact hT U i g1 g2 (by omega))
      exact ⟨I', e1, fun b hb => by rw [e2 b hb, zUp_ne hb], e3⟩
theorem zmr30 {D : Nat → Nat → Nat} {a S : Nat} (hd : zMet D) (ha : a < 10) (hS : S < 1024) : ∀ (j V n : Nat) (I : zI), V + j = S + 1 → j + 60 < n → zMO I D → zMT I D a V 0 → ∃ I', Mo_round_L30 n (zN a) (zN S) (zN V) I = some I' ∧ (∀ b, b ≠ 88 → I' b = I b) ∧ zMT I' D a (S + 1) 0 := by
  intro j
  induction j with
  | zero =>
    intro V n I hk hn ho hT
    obtain ⟨n, rfl⟩ : ∃ e, n = e + 1 := ⟨n - 1, by omega⟩
    have : V = S + 1 := by omega
    subst this
    rw [Mo_round_L30, if_pos ((zN_lt (by omega) (by omega)).mpr (by omega))]
    exact ⟨I, rfl, fun _ _ => rfl, hT⟩
  | succ j ih =>
    intro V n I hk hn ho hT
    obtain ⟨n, rfl⟩ : ∃ e, n = e + 1 := ⟨n - 1, by omega⟩
    obtain ⟨I1, a1, a2, a3⟩ := zmr38 (v2 := zN S) hd ha (show V < 1024 by omega) 10 0 n I rfl (by omega) ho hT
    rw [Mo_round_L30, if_neg (by rw [zN_lt (by omega) (by omega)]; omega), show Mo_round_L38 n (zN a) (zN S) (zN V) 0 I = _ from a1, Option.bind_some, zl_1, zN_add]
    obtain ⟨I', e1, e2, e3⟩ := ih (V + 1) n I1 (by omega) (by omega) (fun e he => by rw [a2 89 (by decide)]; exact ho e he) (fun U i g1 g2 g3 => a3 U i g1 g2 (by omega))
    exact ⟨I', e1, fun b hb => (e2 b hb).trans (a2 b hb), e3⟩
theorem zmr105 {I : zI} {D : Nat → Nat → Nat} {a V : Nat} (hd : zMet D) (ha : a < 10) (hV : V < 1024) (ho : zMO I D) (hT : zMT I D a (V + 1) 0) : ∀ (j k n acc : Nat), k + j = 10 → j < n → Mo_round_L105 n (zN a) (zN V) (zE acc) (zN k) I = some (zE (zMi (fun b => V.testBit b) (fun b => zTq D a (zAn V (1 <<< b)) b + D b a) j k acc)) := by
  intro j
  induction j with
  | zero =>
    intro k n acc hk hn
    obtain ⟨n, rfl⟩ : ∃ e, n = e + 1 := ⟨n - 1, by omega⟩
    have : k = 10 := by omega
    subst this
    rw [Mo_round_L105, if_pos (by decide)]
    rfl
  | succ j ih =>
    intro k n acc hk hn
    obtain ⟨n, rfl⟩ : ∃ e, n = e + 1 := ⟨n - 1, by omega⟩
    rw [Mo_round_L105, if_neg (by rw [zl_10, zN_le (by decide) (by omega)]; omega), zmIsIn I (by omega) (by omega), Option.bind_some]
    unfold zMi
    cases q : V.testBit k
    · rw [if_pos (by decide), Option.bind_some, if_pos rfl, Option.bind_some, if_neg (by decide), zl_1, zN_add]
      exact ih (k + 1) n acc (by omega) (by omega)
    · have h1 := hT V k (by omega) q (Or.inl (by omega))
      have h2 := zmMO ho (show k < 10 by omega) ha
      have hle := zAn_le V (1 <<< k)
      have e10 : (10 : Int32) * zN V + zN k = zN (10 * V + k) := by rw [zl_10, zN_mul, zN_add]
      have e11 : (10 : Int32) * zN k + zN a = zN (10 * k + a) := by rw [zl_10, zN_mul, zN_add]
      have hin : zIn (zN (10 * k + a)) 100 := (zN_in (by omega)).mpr (by omega)
      have hin2 : zIn (zN (10 * V + k)) 10240 := (zN_in (by omega)).mpr (by omega)
      rw [if_neg (by decide), e10, e11, if_pos hin2, if_pos hin2, if_pos hin, zN_tn (by omega), zN_tn (by omega), h1, h2, if_pos rfl]
      by_cases z1 : zTq D a (zAn V (1 <<< k)) k < 100
      · have hr := zTq_rch hd ha _ (zAn V (1 <<< k)) k (Nat.lt_succ_self _) (by omega) z1
        have hu := zTq_up hd ha _ (zAn V (1 <<< k)) k (Nat.lt_succ_self _) (by omega) (by omega) hr.1 hr.2
        have hp := zPop_r V hV k (by omega) q
        have z2 := hd.2.2.2 a k ha (by omega) hr.1
        have hd1 := hd.1 k a
        rw [if_neg (by rw [zl_0, zE_neg]; omega), Option.bind_some, if_neg (by decide), zE_lt z1, zE_lt z2, zN_add, zleast (by omega), Option.bind_some, Option.bind_some, zl_1, zN_add]
        exact ih (k + 1) n _ (by omega) (by omega)
      · rw [if_pos (by rw [zl_0, zE_neg]; omega), Option.bind_some, if_pos rfl, Option.bind_some, zl_1, zN_add, zleastn (acc := acc) (f := zTq D a (zAn V (1 <<< k)) k + D k a) (by omega)]
        exact ih (k + 1) n _ (by omega) (by omega)
theorem zAn_no {S b : Nat} (h : S.testBit b = false) : zAn S (1 <<< b) = S := zBit_ext (fun i => by
  rw [zAn_1i]
  constructor
  · exact fun z => z.1
  · intro z
    refine ⟨z, fun e => ?_⟩
    rw [← e, h] at z
    cases z)
theorem zMi_no (f : Nat → Nat) : ∀ j k acc, zMi (fun b => (0 : Nat).testBit b) f j k acc = acc := by
  intro j
  induction j with
  | zero => exact fun _ _ => rfl
  | succ j ih =>
    intro k acc
    unfold zMi
    rw [if_neg (by rw [Nat.zero_testBit]; decide)]
    exact ih (k + 1) acc
theorem c_round {I : zI} (h : Rel I) {n : Nat} (hn : 5000 < n) (a0 a1 : Int32) : CO (BM_round n a0 a1 I) (Mo_round n a0 a1) := by
  rcases zW_c 0 9 a0 (by decide) (by decide) with ⟨a, -, ha, rfl, ea⟩ | ⟨ea, -⟩
  · rcases zW_c 0 1023 a1 (by decide) (by decide) with ⟨S, -, hS, rfl, eb⟩ | ⟨eb, -⟩
    · obtain ⟨⟨s, hc, hm, v⟩, hr⟩ := id h
      have net := VS_net v
      have hd := zMet_ds net
      obtain ⟨I1, e1, e2⟩ := zcsh (WC_of hc v) net (show a < 10 by omega) (show S < 1024 by omega) hn
      have hwm : WM I1 (s 0) := zWM_fr (WM_of hm v) (e2 74 (by decide) (by decide) (by decide) (by decide))
      obtain ⟨J1, f1, f2, f3⟩ := zmof (n := n) I1 (by omega) hwm
      obtain ⟨J2, g1, g2, g3⟩ := zmr30 hd (show a < 10 by omega) (show S < 1024 by omega) S 1 n J1 (by omega) (by omega) f3 (fun U i g1 g2 g3 => by
        have : U = 0 := by omega
        rw [this, Nat.zero_testBit] at g2
        cases g2)
      have f3' : zMO J2 (zDs (s 0)) := fun e he => by
        rw [g2 89 (by decide)]
        exact f3 e he
      refine ⟨zE (zRn (s 0) a S), I1, J2, ?_, ?_, ?_⟩
      · unfold BM_round
        rw [zbBench, ea, Option.bind_some, if_neg (by decide), zbi_0_1023, eb, Option.bind_some, if_neg (by decide), e1, Option.bind_some]
      · unfold Mo_round
        rw [zmBench, ea, Option.bind_some, if_neg (by decide), zmi_0_1023, eb, Option.bind_some, if_neg (by decide), f1, Option.bind_some, show Mo_round_L30 n (zN a) (zN S) 1 J1 = _ from g1, Option.bind_some]
        by_cases q : S = 0
        · subst q
          have hl := zmr105 hd (show a < 10 by omega) (show 0 < 1024 by decide) f3' g3 10 0 n 0 rfl (by omega)
          rw [if_pos (show zN 0 = 0 from rfl), Option.bind_some, show Mo_round_L105 n (zN a) (zN 0) 0 0 J2 = _ from hl, Option.bind_some, zMi_no]
          unfold zRn
          rw [show zAn 0 (1 <<< a) = 0 from zAn_no (Nat.zero_testBit a), zTq_0, hd.2.1 a]
        · have hl := zmr105 hd (show a < 10 by omega) (show S < 1024 by omega) f3' g3 10 0 n 1000000 rfl (by omega)
          rw [if_neg (by rw [zl_0, zN_inj (by omega) (by decide)]; exact q), Option.bind_some, show Mo_round_L105 n (zN a) (zN S) (-6) 0 J2 = _ from hl, Option.bind_some, ← zTq_s (zDs (s 0)) a a q]
          have : zTq (zDs (s 0)) a S a = zRn (s 0) a S := by
            unfold zRn
            cases z : S.testBit a
            · rw [zAn_no z]
            · exact zTq_a hd (show a < 10 by omega) z
          rw [this]
      · exact Rel_sc h (fun b hb => e2 b (by omega) (by omega) (by omega) (by omega)) ⟨fun b hb => by rw [g2 b (by omega), f2 b (by omega)], by rw [g2 82 (by decide), f2 82 (by decide)], by rw [g2 94 (by decide), f2 94 (by decide)], by rw [g2 95 (by decide), f2 95 (by decide)], by rw [g2 73 (by decide), f2 73 (by decide)]⟩ (fun b b1 b2 => by rw [g2 b (by omega), f2 b (by omega)]) (fun i _ => by rw [g2 73 (by decide), f2 73 (by decide)])
    · refine CO_bad h (r := -2) ?_ ?_
      · unfold BM_round
        rw [zbBench, ea, Option.bind_some, if_neg (by decide), zbi_0_1023, eb, Option.bind_some, if_pos (by decide)]
      · unfold Mo_round
        rw [zmBench, ea, Option.bind_some, if_neg (by decide), zmi_0_1023, eb, Option.bind_some, if_pos (by decide)]
  · refine CO_bad h (r := -1) ?_ ?_
    · unfold BM_round
      rw [zbBench, ea, Option.bind_some, if_pos (by decide)]
    · unfold Mo_round
      rw [zmBench, ea, Option.bind_some, if_pos (by decide)]
