/-! rounds: the least cost of all of a set, then of one more -/
/-- the least of f where p, from k on, j of them -/
def zMi (p : Nat → Bool) (f : Nat → Nat) : Nat → Nat → Nat → Nat
  | 0, _, acc => acc
  | j + 1, k, acc => zMi p f j (k + 1) (if p k = true then (if f k < acc then f k else acc) else acc)
theorem zMi_acc (p : Nat → Bool) (f : Nat → Nat) : ∀ j k acc, zMi p f j k acc ≤ acc := by
  intro j
  induction j with
  | zero => exact fun _ _ => Nat.le_refl _
  | succ j ih =>
    intro k acc
    refine Nat.le_trans (ih _ _) ?_
    split
    · split <;> omega
    · exact Nat.le_refl _
theorem zMi_le (p : Nat → Bool) (f : Nat → Nat) {b : Nat} (hp : p b = true) : ∀ j k acc, k ≤ b → b < k + j → zMi p f j k acc ≤ f b := by
  intro j
  induction j with
  | zero =>
    intro k acc h1 h2
    omega
  | succ j ih =>
    intro k acc h1 h2
    unfold zMi
    by_cases q : b = k
    · subst q
      refine Nat.le_trans (zMi_acc p f _ _ _) ?_
      rw [if_pos hp]
      split <;> omega
    · exact ih _ _ (by omega) (by omega)
theorem zMi_or (p : Nat → Bool) (f : Nat → Nat) : ∀ j k acc, zMi p f j k acc = acc ∨ ∃ b, k ≤ b ∧ b < k + j ∧ p b = true ∧ zMi p f j k acc = f b := by
  intro j
  induction j with
  | zero => exact fun _ _ => Or.inl rfl
  | succ j ih =>
    intro k acc
    unfold zMi
    rcases ih (k + 1) (if p k = true then (if f k < acc then f k else acc) else acc) with h | ⟨b, h1, h2, h3, h4⟩
    · by_cases q : p k = true
      · rw [if_pos q] at h ⊢
        by_cases q2 : f k < acc
        · rw [if_pos q2] at h ⊢
          exact Or.inr ⟨k, Nat.le_refl _, by omega, q, h⟩
        · rw [if_neg q2] at h ⊢
          exact Or.inl h
      · rw [if_neg q] at h ⊢
        exact Or.inl h
    · exact Or.inr ⟨b, by omega, by omega, h3, h4⟩
theorem zMi_con (p : Nat → Bool) {f g : Nat → Nat} : ∀ j k acc, (∀ b, k ≤ b → b < k + j → p b = true → f b = g b) → zMi p f j k acc = zMi p g j k acc := by
  intro j
  induction j with
  | zero => exact fun _ _ _ => rfl
  | succ j ih =>
    intro k acc h
    unfold zMi
    rw [ih (k + 1) _ (fun b h1 h2 h3 => h b (by omega) (by omega) h3)]
    by_cases q : p k = true
    · rw [if_pos q, if_pos q, h k (Nat.le_refl _) (by omega) q]
    · rw [if_neg q, if_neg q]
/-- two ways of naming the same -/
theorem zMi_img {p q : Nat → Bool} {f g : Nat → Nat} {m n acc : Nat} (h1 : ∀ i, i < m → p i = true → ∃ b, b < n ∧ q b = true ∧ g b = f i) (h2 : ∀ b, b < n → q b = true → ∃ i, i < m ∧ p i = true ∧ f i = g b) : zMi p f m 0 acc = zMi q g n 0 acc := by
  refine Nat.le_antisymm ?_ ?_
  · rcases zMi_or q g n 0 acc with e | ⟨b, b1, b2, b3, b4⟩
    · rw [e]
      exact zMi_acc p f m 0 acc
    · obtain ⟨i, i1, i2, i3⟩ := h2 b (by omega) b3
      rw [b4, ← i3]
      exact zMi_le p f i2 m 0 acc (Nat.zero_le _) (by omega)
  · rcases zMi_or p f m 0 acc with e | ⟨b, b1, b2, b3, b4⟩
    · rw [e]
      exact zMi_acc q g n 0 acc
    · obtain ⟨i, i1, i2, i3⟩ := h1 b (by omega) b3
      rw [b4, ← i3]
      exact zMi_le q g i2 n 0 acc (Nat.zero_le _) (by omega)
def zCo (D : Nat → Nat → Nat) (a : Nat) : Nat → Nat → Nat → Nat
  | 0, _, _ => 0
  | n + 1, S, x => if S = 0 then D a x else zMi (fun b => S.testBit b) (fun b => zCo D a n (zAn S (1 <<< b)) b + D b x) 10 0 1000000
/-- the least cost from a by all of S to x -/
def zTq (D : Nat → Nat → Nat) (a S x : Nat) : Nat := zCo D a (S + 1) S x
theorem zAn_lt {S b : Nat} (h : S.testBit b = true) : zAn S (1 <<< b) < S := by
  have h1 := zAn_le S (1 <<< b)
  have h2 : zAn S (1 <<< b) ≠ S := by
    intro e
    have := zAn_bit S (1 <<< b) b
    rw [e, h, z1_bit, decide_eq_true rfl] at this
    cases this
  omega
theorem zCo_st (D : Nat → Nat → Nat) (a : Nat) : ∀ n m S x, S < n → S < m → zCo D a n S x = zCo D a m S x := by
  intro n
  induction n with
  | zero =>
    intro m S x h
    omega
  | succ n ih =>
    intro m S x h1 h2
    obtain ⟨m, rfl⟩ : ∃ e, m = e + 1 := ⟨m - 1, by omega⟩
    unfold zCo
    by_cases q : S = 0
    · rw [if_pos q, if_pos q]
    · rw [if_neg q, if_neg q]
      refine zMi_con _ 10 0 _ (fun b _ _ hb => ?_)
      have := zAn_lt hb
      rw [ih m _ b (by omega) (by omega)]
theorem zTq_0 (D : Nat → Nat → Nat) (a x : Nat) : zTq D a 0 x = D a x := by
  unfold zTq zCo
  rw [if_pos rfl]
theorem zTq_s (D : Nat → Nat → Nat) (a : Nat) {S : Nat} (x : Nat) (h : S ≠ 0) : zTq D a S x = zMi (fun b => S.testBit b) (fun b => zTq D a (zAn S (1 <<< b)) b + D b x) 10 0 1000000 := by
  conv => lhs; unfold zTq zCo
  rw [if_neg h]
  refine zMi_con _ 10 0 _ (fun b _ _ hb => ?_)
  have := zAn_lt hb
  unfold zTq
  rw [zCo_st D a S (zAn S (1 <<< b) + 1) _ b (by omega) (by omega)]
/-- what a distance must be -/
def zMet (D : Nat → Nat → Nat) : Prop := (∀ x y, D x y < 10 ∨ D x y = 100) ∧ (∀ x, D x x = 0) ∧ (∀ x y z, x < 10 → y < 10 → z < 10 → D x z ≤ D x y + D y z) ∧ ∀ x y, x < 10 → y < 10 → D x y < 100 → D y x < 100
theorem zMet_ds {W : Nat → Nat} (hw : zNet W) : zMet (zDs W) := ⟨zDs_lt W, zD_self W, fun _ _ _ hx hy hz => zD_tri hw hx hy hz, fun _ _ hx hy h => zD_sy hw hx hy h⟩
theorem zTq_le (D : Nat → Nat → Nat) (a : Nat) {S b : Nat} (x : Nat) (hb : b < 10) (h : S.testBit b = true) : zTq D a S x ≤ zTq D a (zAn S (1 <<< b)) b + D b x := by
  rw [zTq_s D a x (fun z => by rw [z, Nat.zero_testBit] at h; cases h)]
  exact zMi_le _ _ h 10 0 _ (Nat.zero_le _) (by omega)
theorem zTq_or (D : Nat → Nat → Nat) (a : Nat) {S : Nat} (x : Nat) (h : S ≠ 0) : zTq D a S x = 1000000 ∨ ∃ b, b < 10 ∧ S.testBit b = true ∧ zTq D a S x = zTq D a (zAn S (1 <<< b)) b + D b x := by
  rw [zTq_s D a x h]
  rcases zMi_or (fun b => S.testBit b) (fun b => zTq D a (zAn S (1 <<< b)) b + D b x) 10 0 1000000 with e | ⟨b, b1, b2, b3, b4⟩
  · exact Or.inl e
  · exact Or.inr ⟨b, by omega, b3, b4⟩
theorem zTq_lt {D : Nat → Nat → Nat} (hd : zMet D) (a S x : Nat) : zTq D a S x ≤ 1000000 := by
  by_cases q : S = 0
  · subst q
    rw [zTq_0]
    have := hd.1 a x
    omega
  · rw [zTq_s D a x q]
    exact zMi_acc _ _ _ _ _
/-- by way of one more it is no shorter -/
theorem zTq_tri {D : Nat → Nat → Nat} (hd : zMet D) {a x y : Nat} (ha : a < 10) (hx : x < 10) (hy : y < 10) (S : Nat) : zTq D a S x ≤ zTq D a S y + D y x := by
  by_cases q : S = 0
  · subst q
    rw [zTq_0, zTq_0]
    exact hd.2.2.1 a y x ha hy hx
  · rcases zTq_or D a y q with e | ⟨b, b1, b2, b3⟩
    · rw [e]
      have := zTq_lt hd a S x
      omega
    · have h1 := zTq_le D a x b1 b2
      have h2 := hd.2.2.1 b y x b1 hy hx
      omega
theorem zAn_com (S a b : Nat) : zAn (zAn S a) b = zAn (zAn S b) a := Nat.eq_of_testBit_eq (fun i => by
  rw [zAn_bit, zAn_bit, zAn_bit, zAn_bit]
  cases S.testBit i <;> cases a.testBit i <;> cases b.testBit i <;> rfl)
theorem zAn_1 (S b i : Nat) : (zAn S (1 <<< b)).testBit i = (S.testBit i && !decide (b = i)) := by
  rw [zAn_bit, z1_bit]
theorem zAn_1t {S b i : Nat} (h : S.testBit i = true) (h2 : b ≠ i) : (zAn S (1 <<< b)).testBit i = true := by
  rw [zAn_1, h, decide_eq_false h2]
  rfl
/-- the start needs no visit of its own -/
theorem zTq_a1 {D : Nat → Nat → Nat} (hd : zMet D) {a : Nat} (ha : a < 10) : ∀ n S x, S < n → x < 10 → S.testBit a = true → zTq D a (zAn S (1 <<< a)) x ≤ zTq D a S x := by
  intro n
  induction n with
  | zero =>
    intro S x h
    omega
  | succ n ih =>
    intro S x h1 hx h2
    rcases zTq_or D a (S := S) x (fun z => by rw [z, Nat.zero_testBit] at h2; cases h2) with e | ⟨b, b1, b2, b3⟩
    · rw [e]
      exact zTq_lt hd a _ x
    · rw [b3]
      by_cases q : b = a
      · subst q
        exact zTq_tri hd ha hx ha _
      · have hl := zAn_lt b2
        have h3 := ih (zAn S (1 <<< b)) b (by omega) b1 (zAn_1t h2 q)
        have h4 := zTq_le D a (S := zAn S (1 <<< a)) x b1 (zAn_1t b2 (fun z => q z.symm))
        rw [zAn_com S (1 <<< a) (1 <<< b)] at h4
        omega
theorem zTq_a {D : Nat → Nat → Nat} (hd : zMet D) {a S : Nat} (ha : a < 10) (h : S.testBit a = true) : zTq D a S a = zTq D a (zAn S (1 <<< a)) a := by
  refine Nat.le_antisymm ?_ (zTq_a1 hd ha (S + 1) S a (by omega) ha h)
  have := zTq_le D a (S := S) a ha h
  rw [hd.2.1 a] at this
  omega
/-- what can be gone round is reached -/
theorem zTq_rch {D : Nat → Nat → Nat} (hd : zMet D) {a : Nat} (ha : a < 10) : ∀ n S x, S < n → x < 10 → zTq D a S x < 100 → D a x < 100 ∧ ∀ b, b < 10 → S.testBit b = true → D a b < 100 := by
  intro n
  induction n with
  | zero =>
    intro S x h
    omega
  | succ n ih =>
    intro S x h1 hx h2
    by_cases q : S = 0
    · subst q
      rw [zTq_0] at h2
      exact ⟨h2, fun b _ h => by rw [Nat.zero_testBit] at h; cases h⟩
    · rcases zTq_or D a x q with e | ⟨b, b1, b2, b3⟩
      · omega
      · have hl := zAn_lt b2
        obtain ⟨h3, h4⟩ := ih (zAn S (1 <<< b)) b (by omega) b1 (by omega)
        refine ⟨?_, fun c hc h => ?_⟩
        · have := hd.2.2.1 a b x ha b1 hx
          have e1 := hd.1 a b
          have e2 := hd.1 b x
          omega
        · by_cases q2 : b = c
          · rw [← q2]
            exact h3
          · exact h4 c hc (zAn_1t h q2)
theorem zPop_an : ∀ w, w < 1024 → ∀ b, b < 10 → w.testBit b = true → zPop (zAn w (1 <<< b)) + 1 = zPop w := by decide +kernel
theorem zPop_z : ∀ w, w < 1024 → zPop w = 0 → w = 0 := by decide +kernel
theorem zPop_10 : ∀ w, w < 1024 → zPop w ≤ 10 := by decide +kernel
theorem zBit_ex {S : Nat} (hs : S < 1024) (h : S ≠ 0) : ∃ b, b < 10 ∧ S.testBit b = true := Classical.byContradiction (fun z => h (zBit_eq hs (by decide) (fun i hi => ⟨fun e => absurd ⟨i, hi, e⟩ z, fun e => by rw [Nat.zero_testBit] at e; cases e⟩)))
/-- what is reached can be gone round -/
theorem zTq_up {D : Nat → Nat → Nat} (hd : zMet D) {a : Nat} (ha : a < 10) : ∀ n S x, S < n → S < 1024 → x < 10 → D a x < 100 → (∀ b, b < 10 → S.testBit b = true → D a b < 100) → zTq D a S x ≤ 9 * (zPop S + 1) := by
  intro n
  induction n with
  | zero =>
    intro S x h
    omega
  | succ n ih =>
    intro S x h1 hs hx h2 h3
    by_cases q : S = 0
    · subst q
      rw [zTq_0, zPop_0]
      have := hd.1 a x
      omega
    · obtain ⟨b, b1, b2⟩ := zBit_ex hs q
      have hl := zAn_lt b2
      have h4 := ih (zAn S (1 <<< b)) b (by omega) (by omega) b1 (h3 b b1 b2) (fun c hc h => h3 c hc (by
        rw [zAn_1] at h
        cases e : S.testBit c
        · rw [e] at h
          cases h
        · rfl))
      have h5 := zTq_le D a x b1 b2
      have h6 := zPop_an S hs b b1 b2
      have h7 := hd.2.2.2 a b ha b1 (h3 b b1 b2)
      have h8 := hd.2.2.1 b a x b1 ha hx
      have e1 := hd.1 b x
      have e2 := hd.1 b a
      have e3 := hd.1 a x
      omega
