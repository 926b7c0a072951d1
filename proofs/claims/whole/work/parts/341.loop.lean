/-! the law's loop -/
theorem zifs {c : Prop} [Decidable c] {a b : Int32} : (if c then some a else some b) = some (if c then a else b) := by
  split <;> rfl
theorem zlgc (x : Int64) : lg_cmp x x = 0 := by
  unfold lg_cmp
  simp
theorem zpure {I : zI} {x : Option Int32} {y : Option Int32} (h : ∃ r, x = some r ∧ y = some r) : ∃ r, x = some r ∧ y = some r := h
theorem zstop {L i : Nat} (hL : L ≤ 2560) (hi : i < 3000) : ((Int32.ofNat L) - 5 < zN i) ↔ L < i + 5 := by
  show (zN L - 5 < zN i) ↔ _
  by_cases q : 5 ≤ L
  · rw [show (5 : Int32) = zN 5 from rfl, zN_sub q, zN_lt (by omega) (by omega)]
    omega
  · have : ∀ l, l < 5 → zN l - 5 < 0 := by decide
    have h1 := this L (by omega)
    have h2 := zN0 (show i < 2147483648 by omega)
    rw [Int32.lt_iff_toInt_lt] at h1 ⊢
    rw [Int32.le_iff_toInt_le] at h2
    constructor
    · intro _
      omega
    · intro _
      omega
set_option maxRecDepth 100000
set_option maxHeartbeats 20000000
theorem zlawL {L : Nat} (xs : Nat → Int32) (hL : L ≤ 2560) : ∀ (j i n : Nat) (I : zI), L ≤ i + 5 * j → i ≤ 2560 → j + 5000 < n → Rel I → ∃ I', La_law_L18 L xs n (zN i) I = some (1, I') := by
  intro j
  induction j with
  | zero =>
    intro i n I h1 h2 hn h
    obtain ⟨n, rfl⟩ : ∃ e, n = e + 1 := ⟨n - 1, by omega⟩
    rw [La_law_L18]
    exact ⟨I, if_pos ((zstop hL (by omega)).mpr (by omega))⟩
  | succ j ih =>
    intro i n I h1 h2 hn h
    obtain ⟨n, rfl⟩ : ∃ e, n = e + 1 := ⟨n - 1, by omega⟩
    by_cases hs : L < i + 5
    · rw [La_law_L18]
      exact ⟨I, if_pos ((zstop hL (by omega)).mpr hs)⟩
    · have hn5 : 5000 < n := by omega
      have hz : ∀ k, k < 5 → zIn (zN i + zN k) L := fun k hk => by
        rw [zN_add]
        exact (zN_in (by omega)).mpr (by omega)
      have hz0 : zIn (zN i) L := (zN_in (by omega)).mpr (by omega)
      have hz1 : zIn (zN i + 1) L := hz 1 (by decide)
      have hz2 : zIn (zN i + 2) L := hz 2 (by decide)
      have hz3 : zIn (zN i + 3) L := hz 3 (by decide)
      have hz4 : zIn (zN i + 4) L := hz 4 (by decide)
      have hnx : ∀ I, Rel I → ∃ I', La_law_L18 L xs n (zN i + 5) I = some (1, I') := fun I hI => by
        rw [show (5 : Int32) = zN 5 from rfl, zN_add]
        exact ih (i + 5) n I (by omega) (by omega) (by omega) hI
      rw [La_law_L18, if_neg (fun z => hs ((zstop hL (by omega)).mp z)), if_pos hz0]
      generalize xs (Int32.toNatClampNeg (zN i)) &&& 31 = y
      by_cases q0 : y = 0
      · rw [if_pos q0]
        obtain ⟨r, I1, I2, e1, e2, e3⟩ := c_way h hn5 (xs (Int32.toNatClampNeg (zN i + 1))) (xs (Int32.toNatClampNeg (zN i + 2))) (if xs (Int32.toNatClampNeg (zN i + 3)) = 0 then 0 else 1)
        rw [if_pos hz1, if_pos hz2, if_pos hz3, zifs, Option.bind_some, e1, Option.bind_some]
        dsimp only
        rw [if_pos hz1, if_pos hz2, if_pos hz3, Option.bind_some, e2, Option.bind_some]
        dsimp only
        rw [if_pos rfl]
        exact hnx I2 e3
      rw [if_neg q0]
      by_cases q1 : y = 1
      · rw [if_pos q1]
        obtain ⟨r, I1, I2, e1, e2, e3⟩ := c_stand h (xs (Int32.toNatClampNeg (zN i + 1))) (xs (Int32.toNatClampNeg (zN i + 2)))
        rw [if_pos hz1, if_pos hz2, e1, Option.bind_some]
        dsimp only
        rw [if_pos hz1, if_pos hz2, e2, Option.bind_some]
        dsimp only
        rw [if_pos rfl]
        exact hnx I2 e3
      rw [if_neg q1]
      by_cases q2 : y = 2
      · rw [if_pos q2]
        obtain ⟨r, I1, I2, e1, e2, e3⟩ := c_give h hn5 (xs (Int32.toNatClampNeg (zN i + 1))) (xs (Int32.toNatClampNeg (zN i + 2)))
        rw [if_pos hz1, if_pos hz2, e1, Option.bind_some]
        dsimp only
        rw [if_pos hz1, if_pos hz2, e2, Option.bind_some]
        dsimp only
        rw [if_pos rfl]
        exact hnx I2 e3
      rw [if_neg q2]
      by_cases q3 : y = 3
      · rw [if_pos q3]
        obtain ⟨r, I1, I2, e1, e2, e3⟩ := c_lay h hn5 (xs (Int32.toNatClampNeg (zN i + 1))) (xs (Int32.toNatClampNeg (zN i + 2))) (xs (Int32.toNatClampNeg (zN i + 3)))
        rw [if_pos hz1, if_pos hz2, if_pos hz3, e1, Option.bind_some]
        dsimp only
        rw [if_pos hz1, if_pos hz2, if_pos hz3, e2, Option.bind_some]
        dsimp only
        rw [if_pos rfl]
        exact hnx I2 e3
      rw [if_neg q3]
      by_cases q4 : y = 4
      · rw [if_pos q4]
        obtain ⟨r, I1, I2, e1, e2, e3⟩ := c_forget h hn5 (xs (Int32.toNatClampNeg (zN i + 1)))
        rw [if_pos hz1, e1, Option.bind_some]
        dsimp only
        rw [if_pos hz1, e2, Option.bind_some]
        dsimp only
        rw [if_pos rfl]
        exact hnx I2 e3
      rw [if_neg q4]
      by_cases q5 : y = 5
      · rw [if_pos q5]
        obtain ⟨r, I1, I2, e1, e2, e3⟩ := c_say h (xs (Int32.toNatClampNeg (zN i + 1)))
        rw [if_pos hz1, e1, Option.bind_some]
        dsimp only
        rw [if_pos hz1, e2, Option.bind_some]
        dsimp only
        rw [if_pos rfl]
        exact hnx I2 e3
      rw [if_neg q5]
      by_cases q6 : y = 6
      · rw [if_pos q6]
        obtain ⟨r, I1, I2, e1, e2, e3⟩ := c_wipe h 
        rw [e1, Option.bind_some]
        dsimp only
        rw [e2, Option.bind_some]
        dsimp only
        rw [if_pos rfl]
        exact hnx I2 e3
      rw [if_neg q6]
      by_cases q7 : y = 7
      · rw [if_pos q7]
        obtain ⟨r, I2, e1, e2, e3⟩ := c_fault h hn5 
        rw [e1, Option.bind_some]
        rw [e2, Option.bind_some]
        dsimp only
        rw [if_pos rfl]
        exact hnx I2 e3
      rw [if_neg q7]
      by_cases q8 : y = 8
      · rw [if_pos q8]
        obtain ⟨r, I1, I2, e1, e2, e3⟩ := c_judge h hn5 (xs (Int32.toNatClampNeg (zN i + 1)))
        rw [if_pos hz1, e1, Option.bind_some]
        dsimp only
        rw [if_pos hz1, e2, Option.bind_some]
        dsimp only
        rw [if_pos rfl]
        exact hnx I2 e3
      rw [if_neg q8]
      by_cases q9 : y = 9
      · rw [if_pos q9]
        obtain ⟨r, I1, I2, e1, e2, e3⟩ := c_behind h hn5 (xs (Int32.toNatClampNeg (zN i + 1))) (xs (Int32.toNatClampNeg (zN i + 2)))
        rw [if_pos hz1, if_pos hz2, e1, Option.bind_some]
        dsimp only
        rw [if_pos hz1, if_pos hz2, e2, Option.bind_some]
        dsimp only
        rw [if_pos rfl]
        exact hnx I2 e3
      rw [if_neg q9]
      by_cases q10 : y = 10
      · rw [if_pos q10]
        obtain ⟨r, I1, I2, e1, e2, e3⟩ := c_lies h hn5 (xs (Int32.toNatClampNeg (zN i + 1))) (xs (Int32.toNatClampNeg (zN i + 2)))
        rw [if_pos hz1, if_pos hz2, e1, Option.bind_some]
        dsimp only
        rw [if_pos hz1, if_pos hz2, e2, Option.bind_some]
        dsimp only
        rw [if_pos rfl]
        exact hnx I2 e3
      rw [if_neg q10]
      by_cases q11 : y = 11
      · rw [if_pos q11]
        obtain ⟨r, I1, I2, e1, e2, e3⟩ := c_hands h hn5 (xs (Int32.toNatClampNeg (zN i + 1))) (xs (Int32.toNatClampNeg (zN i + 2)))
        rw [if_pos hz1, if_pos hz2, e1, Option.bind_some]
        dsimp only
        rw [if_pos hz1, if_pos hz2, e2, Option.bind_some]
        dsimp only
        rw [if_pos rfl]
        exact hnx I2 e3
      rw [if_neg q11]
      by_cases q12 : y = 12
      · rw [if_pos q12]
        obtain ⟨r, I1, I2, e1, e2, e3⟩ := c_most h hn5 
        rw [e1, Option.bind_some]
        dsimp only
        rw [e2, Option.bind_some]
        dsimp only
        rw [if_pos rfl]
        exact hnx I2 e3
      rw [if_neg q12]
      by_cases q13 : y = 13
      · rw [if_pos q13]
        obtain ⟨r, I1, I2, e1, e2, e3⟩ := c_done h hn5 
        rw [e1, Option.bind_some]
        dsimp only
        rw [e2, Option.bind_some]
        dsimp only
        rw [if_pos rfl]
        exact hnx I2 e3
      rw [if_neg q13]
      by_cases q14 : y = 14
      · rw [if_pos q14]
        obtain ⟨r, e1, e2⟩ := c_steps h hn5 (xs (Int32.toNatClampNeg (zN i + 1))) (xs (Int32.toNatClampNeg (zN i + 2)))
        rw [if_pos hz1, if_pos hz2, e1, Option.bind_some]
        rw [if_pos hz1, if_pos hz2, e2, Option.bind_some]
        rw [if_pos rfl]
        exact hnx I h
      rw [if_neg q14]
      by_cases q15 : y = 15
      · rw [if_pos q15]
        obtain ⟨r, e1, e2⟩ := c_get h hn5 (xs (Int32.toNatClampNeg (zN i + 1))) (xs (Int32.toNatClampNeg (zN i + 2)))
        rw [if_pos hz1, if_pos hz2, e1, Option.bind_some]
        rw [if_pos hz1, if_pos hz2, e2, Option.bind_some]
        rw [if_pos rfl]
        exact hnx I h
      rw [if_neg q15]
      by_cases q16 : y = 16
      · rw [if_pos q16]
        obtain ⟨r, I1, I2, e1, e2, e3⟩ := c_round h hn5 (xs (Int32.toNatClampNeg (zN i + 1))) (xs (Int32.toNatClampNeg (zN i + 2)))
        rw [if_pos hz1, if_pos hz2, e1, Option.bind_some]
        dsimp only
        rw [if_pos hz1, if_pos hz2, e2, Option.bind_some]
        dsimp only
        rw [if_pos rfl]
        exact hnx I2 e3
      rw [if_neg q16]
      by_cases q17 : y = 17
      · rw [if_pos q17]
        obtain ⟨r, I1, I2, e1, e2, e3⟩ := c_walk h hn5 (xs (Int32.toNatClampNeg (zN i + 1))) (xs (Int32.toNatClampNeg (zN i + 2)))
        rw [if_pos hz1, if_pos hz2, e1, Option.bind_some]
        dsimp only
        rw [if_pos hz1, if_pos hz2, e2, Option.bind_some]
        dsimp only
        rw [if_pos rfl]
        exact hnx I2 e3
      rw [if_neg q17]
      by_cases q18 : y = 18
      · rw [if_pos q18]
        obtain ⟨r, I1, I2, e1, e2, e3⟩ := c_right h hn5 (xs (Int32.toNatClampNeg (zN i + 1))) (xs (Int32.toNatClampNeg (zN i + 2)))
        rw [if_pos hz1, if_pos hz2, e1, Option.bind_some]
        dsimp only
        rw [if_pos hz1, if_pos hz2, e2, Option.bind_some]
        dsimp only
        rw [if_pos rfl]
        exact hnx I2 e3
      rw [if_neg q18]
      by_cases q19 : y = 19
      · rw [if_pos q19]
        obtain ⟨r, I1, I2, e1, e2, e3⟩ := c_seen h (xs (Int32.toNatClampNeg (zN i + 1))) (xs (Int32.toNatClampNeg (zN i + 2))) (if xs (Int32.toNatClampNeg (zN i + 3)) = 0 then 0 else 1)
        rw [if_pos hz1, if_pos hz2, if_pos hz3, zifs, Option.bind_some, e1, Option.bind_some]
        dsimp only
        rw [if_pos hz1, if_pos hz2, if_pos hz3, Option.bind_some, e2, Option.bind_some]
        dsimp only
        rw [if_pos rfl]
        exact hnx I2 e3
      rw [if_neg q19]
      by_cases q20 : y = 20
      · rw [if_pos q20]
        obtain ⟨r, I1, I2, e1, e2, e3⟩ := c_clear h 
        rw [e1, Option.bind_some]
        dsimp only
        rw [e2, Option.bind_some]
        dsimp only
        rw [if_pos rfl]
        exact hnx I2 e3
      rw [if_neg q20]
      by_cases q21 : y = 21
      · rw [if_pos q21]
        obtain ⟨r, I1, e1, e2, e3⟩ := c_fits h hn5 (xs (Int32.toNatClampNeg (zN i + 1)))
        rw [if_pos hz1, e1, Option.bind_some]
        dsimp only
        rw [if_pos hz1, e2, Option.bind_some]
        rw [if_pos rfl]
        exact hnx I1 e3
      rw [if_neg q21]
      by_cases q22 : y = 22
      · rw [if_pos q22]
        obtain ⟨r, I1, I2, e1, e2, e3⟩ := c_ask h hn5 (xs (Int32.toNatClampNeg (zN i + 1)))
        rw [if_pos hz1, e1, Option.bind_some]
        dsimp only
        rw [if_pos hz1, e2, Option.bind_some]
        dsimp only
        rw [if_pos rfl]
        exact hnx I2 e3
      rw [if_neg q22]
      by_cases q23 : y = 23
      · rw [if_pos q23]
        obtain ⟨r, I2, e1, e2, e3⟩ := c_take h hn5 (xs (Int32.toNatClampNeg (zN i + 1))) (xs (Int32.toNatClampNeg (zN i + 2)))
        rw [if_pos hz1, if_pos hz2, e1, Option.bind_some]
        rw [if_pos hz1, if_pos hz2, e2, Option.bind_some]
        dsimp only
        rw [if_pos rfl]
        exact hnx I2 e3
      rw [if_neg q23]
      by_cases q24 : y = 24
      · rw [if_pos q24]
        obtain ⟨r, e1, e2⟩ := c_evenings (I := I) hn5 (xs (Int32.toNatClampNeg (zN i + 1))) (xs (Int32.toNatClampNeg (zN i + 2))) (xs (Int32.toNatClampNeg (zN i + 3))) (xs (Int32.toNatClampNeg (zN i + 4)))
        rw [if_pos hz1, if_pos hz2, if_pos hz3, if_pos hz4, e1, Option.bind_some]
        rw [if_pos hz1, if_pos hz2, if_pos hz3, if_pos hz4, e2, Option.bind_some]
        rw [if_pos (zlgc r)]
        exact hnx I h
      rw [if_neg q24]
      by_cases q25 : y = 25
      · rw [if_pos q25]
        obtain ⟨r, I1, I2, e1, e2, e3⟩ := c_season h hn5 (xs (Int32.toNatClampNeg (zN i + 1))) (xs (Int32.toNatClampNeg (zN i + 2))) (xs (Int32.toNatClampNeg (zN i + 3)))
        rw [if_pos hz1, if_pos hz2, if_pos hz3, e1, Option.bind_some]
        dsimp only
        rw [if_pos hz1, if_pos hz2, if_pos hz3, e2, Option.bind_some]
        dsimp only
        rw [if_pos rfl]
        exact hnx I2 e3
      rw [if_neg q25]
      by_cases q26 : y = 26
      · rw [if_pos q26]
        obtain ⟨r, I1, I2, e1, e2, e3⟩ := c_image h hn5 (xs (Int32.toNatClampNeg (zN i + 1)))
        rw [if_pos hz1, e1, Option.bind_some]
        dsimp only
        rw [if_pos hz1, e2, Option.bind_some]
        dsimp only
        rw [if_pos rfl]
        exact hnx I2 e3
      rw [if_neg q26]
      by_cases q27 : y = 27
      · rw [if_pos q27]
        obtain ⟨r, I1, I2, e1, e2, e3⟩ := c_restore h hn5 (xs (Int32.toNatClampNeg (zN i + 1)))
        rw [if_pos hz1, e1, Option.bind_some]
        dsimp only
        rw [if_pos hz1, e2, Option.bind_some]
        dsimp only
        rw [if_pos rfl]
        exact hnx I2 e3
      rw [if_neg q27]
      by_cases q28 : y = 28
      · rw [if_pos q28]
        obtain ⟨r, e1, e2⟩ := c_told h hn5 (xs (Int32.toNatClampNeg (zN i + 1)))
        rw [if_pos hz1, e1, Option.bind_some]
        rw [if_pos hz1, e2, Option.bind_some]
        rw [if_pos rfl]
        exact hnx I h
      rw [if_neg q28]
      exact hnx I h
