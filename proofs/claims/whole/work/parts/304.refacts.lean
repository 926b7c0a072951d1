/-! THE REFERENCE'S acts -/
theorem zN0 {a : Nat} (h : a < 2147483648) : (0 : Int32) ≤ zN a := (zN_le (by decide) h).mpr (Nat.zero_le a)
theorem zmwhy {I : zI} {s : zA} (h : GM I s) (v : VS s) {a k t : Nat} {t' : Int32} (ha : a < 6) (hk : k < 8) (ht : zTok a t) (ht' : a = 0 ∨ a = 2 ∨ a = 4 → t' = zN t) : Mo_whyNot (zN a) (zN k) t' I = some (zN (zWhy s a k t)) := by
  unfold Mo_whyNot
  have hb := vs_p v k hk
  have hw := vs_w v _ hb
  have t1 := zN_tn (show k < 2147483648 by omega)
  have t2 := zN_tn (show s 1 k < 2147483648 by omega)
  rcases z6 ha with rfl | rfl | rfl | rfl | rfl | rfl
  · have h1 := ht.1 rfl
    rw [if_pos (by decide), ht' (Or.inl rfl), zWhy_0]
    simp only [t1, gm_p h hk, t2, gm_w h hb]
    rw [if_pos ((zN_in (by omega)).mpr hk), if_pos ((zN_in (by omega)).mpr hb), zmIsIn I (by omega) (by omega), Option.bind_some]
    cases (s 0 (s 1 k)).testBit t <;> rfl
  · rw [if_neg (by decide), if_pos (by decide), zWhy_1]
    unfold Mo_whyNoSeat
    simp only [t1, gm_p h hk, t2, gm_cu h, gm_h h hk, gm_t h hb, zl_0, zE_pos]
    rw [if_pos ((zN_in (by omega)).mpr hk), zmIsIn I (by have := vs_cu v; omega) (by omega), Option.bind_some]
    cases (s 5 0).testBit (s 1 k)
    · rw [if_pos (show zB false = zN 0 from rfl), if_pos ((zN_in (by omega)).mpr hk), if_pos ((zN_in (by omega)).mpr hb)]
      by_cases h1 : s 3 k < 100
      · simp only [if_pos h1]
        try rfl
      · by_cases h2 : s 3 (10 + s 1 k) < 100
        · simp only [if_neg h1, if_pos h2]
          try rfl
        · simp only [if_neg h1, if_neg h2]
          try rfl
    · rfl
  · have h1 := ht.2.1 rfl
    have hb2 := vs_p v t h1
    rw [if_neg (by decide), if_neg (by decide), if_pos (by decide), ht' (Or.inr (Or.inl rfl)), zWhy_2]
    unfold Mo_whyNoChange
    have e1 : (zN k = zN t) ↔ k = t := zN_inj (by omega) (by omega)
    have e2 : (zN (s 1 k) = zN (s 1 t)) ↔ s 1 k = s 1 t := zN_inj (by omega) (by omega)
    have e3 : ∀ {x y : Option Int32}, (if zIn (zN k) 8 then x else y) = x := fun {x y} => if_pos ((zN_in (by omega)).mpr hk)
    have e4 : ∀ {x y : Option Int32}, (if zIn (zN t) 8 then x else y) = x := fun {x y} => if_pos ((zN_in (by omega)).mpr h1)
    simp only [e3, e4, t1, zN_tn (show t < 2147483648 by omega), gm_p h hk, gm_p h h1, gm_h h hk, gm_h h h1, zl_0, zE_pos, e1, e2]
    by_cases h2 : s 3 k < 100
    · by_cases h3 : k = t
      · simp only [if_pos h2, if_pos h3]
        try rfl
      · by_cases h4 : s 1 k = s 1 t
        · simp only [if_pos h2, if_neg h3, if_pos h4]
          try rfl
        · simp only [if_pos h2, if_neg h3, if_neg h4]
          try rfl
    · by_cases h5 : s 3 t < 100
      · by_cases h3 : k = t
        · simp only [if_neg h2, if_pos h5, if_pos h3]
          try rfl
        · by_cases h4 : s 1 k = s 1 t
          · simp only [if_neg h2, if_pos h5, if_neg h3, if_pos h4]
            try rfl
          · simp only [if_neg h2, if_pos h5, if_neg h3, if_neg h4]
            try rfl
      · simp only [if_neg h2, if_neg h5]
        try rfl
  · rw [if_neg (by decide), if_neg (by decide), if_neg (by decide), if_pos (by decide), if_pos ((zN_in (by omega)).mpr hk), t1, gm_h h hk, zl_0, zWhy_3]
    simp only [zE_pos]
    by_cases h2 : s 3 k < 100
    · simp only [if_pos h2]
      try rfl
    · simp only [if_neg h2]
      try rfl
  · rfl
  · rw [if_neg (by decide), if_neg (by decide), if_neg (by decide), if_neg (by decide), if_neg (by decide), if_pos (by decide), gm_day h, zl_99, zWhy_5]
    have := vs_day v
    have e := zN_inj (a := s 5 1) (b := 99) (by omega) (by decide)
    by_cases h2 : s 5 1 < 99
    · rw [if_neg (fun q => by have := e.mp q; omega), if_pos h2]
      rfl
    · rw [if_pos (e.mpr (by omega)), if_neg h2]
      rfl
/-- hands through which memories went: one hand more -/
def yHd (g : Nat → Nat) (x : Nat) : Nat → Nat := fun m => if m = x then g m + 1 else g m
def yHA (s : zA) (g : Nat → Nat) (a k t : Nat) : Nat → Nat := if a = 1 then yHd g (s 3 (10 + s 1 k)) else if a = 2 then yHd (yHd g (s 3 t)) (s 3 k) else g
/-- comeTo: what is changed -/
theorem zcome {I : zI} {k x : Nat} (hk : k < 8) (hx : x < 12 ∨ x = 100) : ∃ I', Mo_comeTo (zN k) (zE x) I = some I' ∧ (∀ b, b ≠ 76 → b ≠ 86 → I' b = I b) ∧ (∀ i, I' 76 i = if i = k then zE x else I 76 i) ∧ (∀ g : Nat → Nat, (∀ m, m < 12 → I 86 m = zN (g m)) → ∀ m, m < 12 → I' 86 m = zN (yHd g x m)) := by
  unfold Mo_comeTo
  rcases hx with hx | hx
  · simp only [zE_lt (show x < 100 by omega), zN_tn (show k < 2147483648 by omega), zN_tn (show x < 2147483648 by omega), zl_0, zl_1]
    rw [if_pos ((zN_in (by omega)).mpr hk), if_neg (by rw [zN_lt (by omega) (by decide)]; omega), if_pos ((zN_in (by omega)).mpr hx), if_pos ((zN_in (by omega)).mpr hx)]
    refine ⟨_, rfl, fun b b1 b2 => by rw [zUp_ne b2, zUp_ne b1], fun i => ?_, fun g hg m hm => ?_⟩
    · rw [zUp_ne (by decide), zUp_at]
    · rw [zUp_at, zUp_ne (by decide), hg x hx, zN_add]
      unfold yHd
      by_cases q : m = x
      · rw [if_pos q, if_pos q, q]
      · rw [if_neg q, if_neg q, hg m hm]
  · rw [hx, if_pos ((zN_in (by omega)).mpr hk), if_pos (by decide), zN_tn (by omega)]
    refine ⟨_, rfl, fun b b1 b2 => by rw [zUp_ne b1], fun i => ?_, fun g hg m hm => ?_⟩
    · rw [zUp_at]
    · rw [zUp_ne (by decide), hg m hm]
      unfold yHd
      rw [if_neg (by omega)]
theorem zmsit {I : zI} {s : zA} (h : GM I s) (v : VS s) {k : Nat} (hk : k < 8) : ∃ I', Mo_sit (zN k) I = some I' ∧ GM I' (zDo s 1 k 0) ∧ (∀ b, b ≠ 76 → b ≠ 77 → b ≠ 78 → b ≠ 86 → I' b = I b) ∧ (∀ g : Nat → Nat, (∀ m, m < 12 → I 86 m = zN (g m)) → ∀ m, m < 12 → I' 86 m = zN (yHd g (s 3 (10 + s 1 k)) m)) := by
  have hb := vs_p v k hk
  have hpl := vs_pl v
  have o1 := zPl_o hpl (show k < 20 by omega)
  have o2 := zPl_o hpl (show 10 + s 1 k < 20 by omega)
  unfold Mo_sit
  simp only [zN_tn (show k < 2147483648 by omega), zN_tn (show s 1 k < 2147483648 by omega), gm_p h hk, gm_t h hb, gm_h h hk]
  rw [if_pos ((zN_in (by omega)).mpr hk), if_pos ((zN_in (by omega)).mpr hk), if_pos ((zN_in (by omega)).mpr hb)]
  obtain ⟨I1, e1, e2, e3, e4⟩ := zcome (I := I) hk o2
  rw [e1, Option.bind_some, if_pos ((zN_in (by omega)).mpr hb)]
  have ex : ∃ x, (if (0 : Int32) ≤ zE (s 3 k) then some (9 : Int32) else some (-6)) = some x ∧ x = (if s 3 k < 100 then zN 9 else -(zN 6)) := by
    by_cases q : s 3 k < 100
    · exact ⟨_, if_pos ((zE_pos _).mpr q), by rw [if_pos q]; rfl⟩
    · exact ⟨_, if_neg (fun z => q ((zE_pos _).mp z)), by rw [if_neg q]; rfl⟩
  obtain ⟨x, x1, x2⟩ := ex
  rw [x1, Option.bind_some, if_pos ((zN_in (by omega)).mpr hb)]
  refine ⟨_, rfl, ?_, fun b b1 b2 b3 b4 => by rw [zUp_ne b3, zUp_ne b2, e2 b b1 b4], fun g hg m hm => ?_⟩
  · show GM _ (yPs s (zX2 (s 2) k (10 + s 1 k)) (zX3 (s 3) k (10 + s 1 k)) (fun m => if m = s 3 k then 9 else s 4 m))
    have hI : ∀ b, b ≠ 76 → b ≠ 77 → b ≠ 78 → zUp (zUp I1 77 (s 1 k) (zE (s 3 k))) 78 (s 1 k) x b = if b = 86 then I1 b else I b := by
      intro b b1 b2 b3
      rw [zUp_ne b3, zUp_ne b2]
      split
      · rfl
      · exact e2 b b1 (by assumption)
    have hG : GM (fun b => if b = 86 then I1 b else I b) s := GM_fr h (fun b b1 b2 => if_neg (by omega)) rfl rfl rfl
    refine GM_ps hG hI (fun i hi => ?_) (fun b hb2 => ?_) (fun b hb2 => ?_)
    · rw [zUp_ne (by decide), zUp_ne (by decide), e3]
      unfold zX3
      by_cases q : i = k
      · rw [if_pos q, if_pos q]
      · rw [if_neg q, if_neg q, if_neg (by omega), gm_h h hi]
    · rw [zUp_ne (by decide), zUp_at]
      unfold zX3
      by_cases q : b = s 1 k
      · rw [if_pos q, if_neg (by omega), if_pos (by omega)]
      · rw [if_neg q, if_neg (by omega), if_neg (by omega), e2 77 (by decide) (by decide), gm_t h hb2]
    · rw [zUp_at]
      by_cases q : b = s 1 k
      · have z : zX3 (s 3) k (10 + s 1 k) (10 + b) = s 3 k := by
          unfold zX3
          rw [if_neg (by omega), if_pos (by omega)]
        rw [if_pos q, z, x2, if_pos rfl]
      · have z : zX3 (s 3) k (10 + s 1 k) (10 + b) = s 3 (10 + b) := by
          unfold zX3
          rw [if_neg (by omega), if_neg (by omega)]
        rw [if_neg q, z, zUp_ne (by decide), e2 78 (by decide) (by decide), gm_f h hb2]
        by_cases q2 : s 3 (10 + b) < 100
        · have o3 := zPl_o hpl (show 10 + b < 20 by omega)
          have o4 := zPl_i hpl (show s 3 (10 + b) < 12 by omega) (show 10 + b < 20 by omega)
          have o5 := zPl_i hpl (show s 3 (10 + b) < 12 by omega) (show k < 20 by omega)
          have o6 := o4.mpr rfl
          rw [if_pos q2, if_pos q2, if_neg (fun z2 => by have := o5.mpr z2.symm; omega)]
        · rw [if_neg q2, if_neg q2]
  · rw [zUp_ne (by decide), zUp_ne (by decide)]
    exact e4 g hg m hm
theorem zmchange {I : zI} {s : zA} (h : GM I s) (v : VS s) {k t : Nat} (hk : k < 8) (ht : t < 8) : ∃ I', Mo_change (zN k) (zN t) I = some I' ∧ GM I' (zDo s 2 k t) ∧ (∀ b, b ≠ 76 → b ≠ 77 → b ≠ 78 → b ≠ 86 → I' b = I b) ∧ (∀ g : Nat → Nat, (∀ m, m < 12 → I 86 m = zN (g m)) → ∀ m, m < 12 → I' 86 m = zN (yHd (yHd g (s 3 t)) (s 3 k) m)) := by
  have hpl := vs_pl v
  have o1 := zPl_o hpl (show k < 20 by omega)
  have o2 := zPl_o hpl (show t < 20 by omega)
  unfold Mo_change
  rw [if_pos ((zN_in (by omega)).mpr hk), if_pos ((zN_in (by omega)).mpr ht), zN_tn (by omega), zN_tn (by omega), gm_h h hk, gm_h h ht]
  obtain ⟨I1, e1, e2, e3, e4⟩ := zcome (I := I) hk o2
  rw [e1, Option.bind_some]
  obtain ⟨I2, f1, f2, f3, f4⟩ := zcome (I := I1) ht o1
  rw [f1, Option.bind_some]
  refine ⟨I2, rfl, ?_, fun b b1 b2 b3 b4 => by rw [f2 b b1 b4, e2 b b1 b4], fun g hg m hm => f4 _ (e4 g hg) m hm⟩
  show GM _ (yPs s (zX2 (s 2) k t) (zX3 (s 3) k t) (s 4))
  have hG : GM (fun b => if b = 86 then I2 b else I b) s := GM_fr h (fun b b1 b2 => if_neg (by omega)) rfl rfl rfl
  refine GM_ps hG (fun b b1 b2 b3 => ?_) (fun i hi => ?_) (fun b hb2 => ?_) (fun b hb2 => ?_)
  · by_cases q : b = 86
    · exact (if_pos q).symm
    · rw [f2 b b1 q, e2 b b1 q]
      exact (if_neg q).symm
  · rw [f3, e3]
    unfold zX3
    by_cases q : i = k
    · by_cases q2 : i = t
      · rw [if_pos q2, if_pos q, ← q, ← q2]
      · rw [if_neg q2, if_pos q, if_pos q]
    · by_cases q2 : i = t
      · rw [if_pos q2, if_neg q, if_pos q2]
      · rw [if_neg q2, if_neg q, if_neg q, if_neg q2, gm_h h hi]
  · have z : zX3 (s 3) k t (10 + b) = s 3 (10 + b) := by
      unfold zX3
      rw [if_neg (by omega), if_neg (by omega)]
    rw [f2 77 (by decide) (by decide), e2 77 (by decide) (by decide), gm_t h hb2, z]
  · have z : zX3 (s 3) k t (10 + b) = s 3 (10 + b) := by
      unfold zX3
      rw [if_neg (by omega), if_neg (by omega)]
    rw [f2 78 (by decide) (by decide), e2 78 (by decide) (by decide), gm_f h hb2, z]
def zFo (f : Nat → Nat) (x : Nat) : Int32 := if x < 100 then zN (f x) else -(zN 6)
theorem zmevL {s : zA} (v : VS s) : ∀ (j k n : Nat) (I : zI), k + j = 10 → j < n → (∀ b, b < 10 → I 77 b = zE (if b < k then zEv3 s (10 + b) else s 3 (10 + b))) → (∀ b, b < 10 → I 78 b = if b < k then zFo (zEv4 s) (zEv3 s (10 + b)) else zFo (s 4) (s 3 (10 + b))) → ∃ I', Mo_evening_L2 n (zN k) I = some I' ∧ (∀ b, b ≠ 77 → b ≠ 78 → I' b = I b) ∧ (∀ b, b < 10 → I' 77 b = zE (zEv3 s (10 + b))) ∧ (∀ b, b < 10 → I' 78 b = zFo (zEv4 s) (zEv3 s (10 + b))) := by
  intro j
  induction j with
  | zero =>
    intro k n I hk hn h1 h2
    obtain ⟨n, rfl⟩ : ∃ e, n = e + 1 := ⟨n - 1, by omega⟩
    rw [Mo_evening_L2, zl_10, if_pos ((zN_le (by decide) (by omega)).mpr (by omega))]
    refine ⟨I, rfl, fun b _ _ => rfl, fun m hm => ?_, fun m hm => ?_⟩
    · rw [h1 m hm, if_pos (by omega)]
    · rw [h2 m hm, if_pos (by omega)]
  | succ j ih =>
    intro k n I hk hn h1 h2
    obtain ⟨n, rfl⟩ : ∃ e, n = e + 1 := ⟨n - 1, by omega⟩
    have hpl := vs_pl v
    have ho := zPl_o hpl (show 10 + k < 20 by omega)
    have e3 : ∀ {x y : Option zI}, (if zIn (zN k) 10 then x else y) = x := fun {x y} => if_pos ((zN_in (by omega)).mpr (by omega))
    rw [Mo_evening_L2, zl_10, if_neg (by rw [zN_le (by decide) (by omega)]; omega)]
    simp only [e3, zN_tn (show k < 2147483648 by omega)]
    rw [h1 k (by omega), if_neg (Nat.lt_irrefl k), h2 k (by omega), if_neg (Nat.lt_irrefl k), zl_0, zl_1, zN_add]
    by_cases g : s 3 (10 + k) < 100
    · have oi := zPl_i hpl (show s 3 (10 + k) < 12 by omega) (show 10 + k < 20 by omega)
      have oc := oi.mpr rfl
      have hfr := vs_fr v _ (show s 3 (10 + k) < 12 by omega) (by omega) (by omega)
      have z4 : zEv4 s (s 3 (10 + k)) = s 4 (s 3 (10 + k)) - 1 := by
        unfold zEv4
        rw [if_pos (by omega)]
      rw [if_neg (by rw [zE_neg]; omega), Option.bind_some, zUp_eq]
      unfold zFo
      rw [if_pos g, zN_sub hfr.1]
      by_cases g2 : s 4 (s 3 (10 + k)) ≤ 1
      · have z3 : zEv3 s (10 + k) = 100 := by
          unfold zEv3
          rw [if_pos ⟨by omega, g, g2⟩]
        rw [if_pos (by rw [zN_inj (by omega) (by decide)]; omega), Option.bind_some]
        refine Exists.elim (ih (k + 1) n (zUp (zUp (zUp I 78 k (zN (s 4 (s 3 (10 + k)) - 1))) 77 k (-6)) 78 k (-6)) (by omega) (by omega) (fun b hb => ?_) (fun b hb => ?_)) (fun I' hq => ?_)
        · rw [zUp_ne (by decide), zUp_at]
          by_cases q : b = k
          · rw [if_pos q, if_pos (by omega), q, z3]
            rfl
          · rw [if_neg q, zUp_ne (by decide), h1 b hb]
            by_cases q2 : b < k
            · rw [if_pos q2, if_pos (by omega)]
            · rw [if_neg q2, if_neg (by omega)]
        · rw [zUp_at]
          by_cases q : b = k
          · rw [if_pos q, if_pos (by omega), q, z3]
            rfl
          · rw [if_neg q, zUp_ne (by decide), zUp_nj q, h2 b hb]
            by_cases q2 : b < k
            · rw [if_pos q2, if_pos (by omega)]
            · rw [if_neg q2, if_neg (by omega)]
        · obtain ⟨q1, q2, q3, q4⟩ := hq
          exact ⟨I', q1, fun b b1 b2 => by rw [q2 b b1 b2, zUp_ne b2, zUp_ne b1, zUp_ne b2], q3, q4⟩
      · have z3 : zEv3 s (10 + k) = s 3 (10 + k) := by
          unfold zEv3
          rw [if_neg (fun z => g2 z.2.2)]
        rw [if_neg (by rw [zN_inj (by omega) (by decide)]; omega), Option.bind_some]
        refine Exists.elim (ih (k + 1) n (zUp I 78 k (zN (s 4 (s 3 (10 + k)) - 1))) (by omega) (by omega) (fun b hb => ?_) (fun b hb => ?_)) (fun I' hq => ?_)
        · rw [zUp_ne (by decide), h1 b hb]
          by_cases q : b = k
          · rw [if_neg (by omega), if_pos (by omega), q, z3]
          · by_cases q2 : b < k
            · rw [if_pos q2, if_pos (by omega)]
            · rw [if_neg q2, if_neg (by omega)]
        · rw [zUp_at]
          by_cases q : b = k
          · rw [if_pos q, if_pos (by omega), q, z3]
            unfold zFo
            rw [if_pos g, z4]
          · rw [if_neg q, h2 b hb]
            by_cases q2 : b < k
            · rw [if_pos q2, if_pos (by omega)]
            · rw [if_neg q2, if_neg (by omega)]
        · obtain ⟨q1, q2, q3, q4⟩ := hq
          exact ⟨I', q1, fun b b1 b2 => by rw [q2 b b1 b2, zUp_ne b2], q3, q4⟩
    · have z3 : zEv3 s (10 + k) = s 3 (10 + k) := by
        unfold zEv3
        rw [if_neg (fun z => g z.2.1)]
      rw [if_pos ((zE_neg _).mpr (by omega)), Option.bind_some, h2 k (by omega), if_neg (Nat.lt_irrefl k)]
      have hz : zFo (s 4) (s 3 (10 + k)) = -(zN 6) := by
        unfold zFo
        rw [if_neg g]
      rw [hz, if_neg (by decide), Option.bind_some]
      refine ih (k + 1) n I (by omega) (by omega) (fun b hb => ?_) (fun b hb => ?_)
      · rw [h1 b hb]
        by_cases q : b = k
        · rw [if_neg (by omega), if_pos (by omega), q, z3]
        · by_cases q2 : b < k
          · rw [if_pos q2, if_pos (by omega)]
          · rw [if_neg q2, if_neg (by omega)]
      · rw [h2 b hb]
        by_cases q : b = k
        · rw [if_neg (by omega), if_pos (by omega), q, z3]
          unfold zFo
          rw [if_neg g, if_neg g]
        · by_cases q2 : b < k
          · rw [if_pos q2, if_pos (by omega)]
          · rw [if_neg q2, if_neg (by omega)]
theorem zEvP {s : zA} (v : VS s) : zPl (zEv2 s) (zEv3 s) := by
  have hpl := vs_pl v
  refine ⟨fun m hm => ?_, fun p hp => ?_, fun m p hm hp => ?_⟩
  · have := zPl_c hpl hm
    unfold zEv2
    split
    · omega
    · exact this
  · have := zPl_o hpl hp
    unfold zEv3
    split
    · omega
    · exact this
  · have h1 := zPl_i hpl hm hp
    have h2 := zPl_o hpl hp
    unfold zEv2 zEv3
    by_cases q : s 2 m = p
    · have q2 := h1.mp q
      rw [q, q2]
      by_cases q3 : 10 ≤ p ∧ s 4 m ≤ 1
      · rw [if_pos ⟨q3.1, by omega, q3.2⟩, if_pos ⟨q3.1, by omega, q3.2⟩]
        constructor
        · intro e
          omega
        · intro e
          omega
      · rw [if_neg (fun z => q3 ⟨z.1, z.2.2⟩), if_neg (fun z => q3 ⟨z.1, z.2.2⟩)]
        exact ⟨fun _ => rfl, fun _ => rfl⟩
    · constructor
      · intro e
        split at e
        · omega
        · exact absurd e q
      · intro e
        split at e
        · omega
        · exact absurd (h1.mpr e) q
theorem zmhap {I : zI} {s : zA} (h : GM I s) (v : VS s) {n a k t : Nat} {t' : Int32} (ha : a < 6) (hk : k < 8) (ht : zTok a t) (ht' : a = 0 ∨ a = 2 ∨ a = 4 → t' = zN t) (hn : 12 < n) (hw : zWhy s a k t = 0) : ∃ I', Mo_happen n (zN a) (zN k) t' I = some I' ∧ GM I' (zDo s a k t) ∧ (∀ b, b ≠ 73 → b ≠ 75 → b ≠ 76 → b ≠ 77 → b ≠ 78 → b ≠ 86 → I' b = I b) ∧ (∀ i, i ≠ 5 → i ≠ 6 → I' 73 i = I 73 i) ∧ (∀ g : Nat → Nat, (∀ m, m < 12 → I 86 m = zN (g m)) → ∀ m, m < 12 → I' 86 m = zN (yHA s g a k t m)) := by
  unfold Mo_happen
  have hpl := vs_pl v
  rcases z6 ha with rfl | rfl | rfl | rfl | rfl | rfl
  · have h1 := ht.1 rfl
    rw [if_pos (by decide), ht' (Or.inl rfl), if_pos ((zN_in (by omega)).mpr hk), zN_tn (by omega)]
    exact ⟨_, rfl, GM_up1 h, fun b b1 b2 b3 b4 b5 b6 => zUp_ne b2, fun i _ _ => by rw [zUp_ne (by decide)], fun g hg m hm => by rw [zUp_ne (by decide)]; exact hg m hm⟩
  · rw [if_neg (by decide), if_pos (by decide)]
    obtain ⟨I', e1, e2, e3, e4⟩ := zmsit h v hk
    rw [e1, Option.bind_some]
    exact ⟨I', rfl, e2, fun b b1 b2 b3 b4 b5 b6 => e3 b b3 b4 b5 b6, fun i _ _ => by rw [e3 73 (by decide) (by decide) (by decide) (by decide)], e4⟩
  · have h1 := ht.2.1 rfl
    rw [if_neg (by decide), if_neg (by decide), if_pos (by decide), ht' (Or.inr (Or.inl rfl))]
    obtain ⟨I', e1, e2, e3, e4⟩ := zmchange h v hk h1
    rw [e1, Option.bind_some]
    exact ⟨I', rfl, e2, fun b b1 b2 b3 b4 b5 b6 => e3 b b3 b4 b5 b6, fun i _ _ => by rw [e3 73 (by decide) (by decide) (by decide) (by decide)], e4⟩
  · have hs : s 3 k < 100 := by
      unfold zWhy at hw
      simp at hw
      exact hw
    have o1 := zPl_o hpl (show k < 20 by omega)
    have oi := zPl_i hpl (show s 3 k < 12 by omega) (show k < 20 by omega)
    have oc := oi.mpr rfl
    have hz3 : ∀ b, b < 10 → zG3 (s 2) (s 3) (s 3 k) 100 (10 + b) = s 3 (10 + b) := by
      intro b hb
      unfold zG3
      rw [if_neg (by omega), if_neg (by omega)]
    rw [if_neg (by decide), if_neg (by decide), if_neg (by decide), if_pos (by decide), if_pos ((zN_in (by omega)).mpr hk), zN_tn (by omega)]
    refine ⟨_, rfl, GM_ps h (fun b b1 b2 b3 => zUp_ne b1) (fun i hi => ?_) (fun b hb => ?_) (fun b hb => ?_), fun b b1 b2 b3 b4 b5 b6 => zUp_ne b3, fun i _ _ => by rw [zUp_ne (by decide)], fun g hg m hm => by rw [zUp_ne (by decide)]; exact hg m hm⟩
    · rw [zUp_at]
      unfold zG3
      by_cases q : i = k
      · rw [if_pos q, if_neg (by omega), if_pos (by omega)]
        rfl
      · rw [if_neg q, if_neg (by omega), if_neg (by omega), gm_h h hi]
    · rw [zUp_ne (by decide), gm_t h hb, hz3 b hb]
    · rw [zUp_ne (by decide), gm_f h hb, hz3 b hb]
  · have h1 := ht.2.2 rfl
    rw [if_neg (by decide), if_neg (by decide), if_neg (by decide), if_neg (by decide), if_pos (by decide), ht' (Or.inr (Or.inr rfl)), gm_cu h, zl_1, zN_shl _ (by omega), zN_xor]
    exact ⟨_, rfl, GM_sl5 h, fun b b1 b2 b3 b4 b5 b6 => zUp_ne b1, fun i i1 _ => zUp_nj i1, fun g hg m hm => by rw [zUp_ne (by decide)]; exact hg m hm⟩
  · rw [if_neg (by decide), if_neg (by decide), if_neg (by decide), if_neg (by decide), if_neg (by decide)]
    unfold Mo_evening
    obtain ⟨I', e1, e2, e3, e4⟩ := zmevL v 10 0 n I rfl (by omega) (fun b hb => by rw [gm_t h hb, if_neg (by omega)]) (fun b hb => by rw [gm_f h hb, if_neg (Nat.not_lt_zero b)]; rfl)
    rw [show (0 : Int32) = zN 0 from rfl, e1, Option.bind_some, Option.bind_some, e2 73 (by decide) (by decide), gm_day h, zl_1, zN_add]
    refine ⟨_, rfl, ?_, fun b b1 b2 b3 b4 b5 b6 => by rw [zUp_ne b1, e2 b b4 b5], fun i _ i2 => by rw [zUp_nj i2, e2 73 (by decide) (by decide)], fun g hg m hm => by rw [zUp_ne (by decide), e2 86 (by decide) (by decide)]; exact hg m hm⟩
    show GM _ (yPs (zUp s 5 1 (s 5 1 + 1)) (zEv2 s) (zEv3 s) (zEv4 s))
    refine GM_ps (GM_sl6 (v := s 5 1 + 1) h) (fun b b1 b2 b3 => ?_) (fun i hi => ?_) (fun b hb => ?_) (fun b hb => ?_)
    · by_cases q : b = 73
      · subst q
        funext i
        rw [zUp_at, zUp_at, e2 73 (by decide) (by decide)]
      · rw [zUp_ne q, zUp_ne q, e2 b b2 b3]
    · rw [zUp_ne (by decide), e2 76 (by decide) (by decide), gm_h h hi]
      unfold zEv3
      rw [if_neg (by omega)]
    · rw [zUp_ne (by decide), e3 b hb]
    · rw [zUp_ne (by decide), e4 b hb]
      rfl
