/-! walks: the class's -/
theorem zNtz : ∀ w, w < 1024 → w ≠ 0 → In_ntz (zN w) (fun _ _ => 0) = some (zN (zLob w)) := by decide +kernel
theorem zntz {w : Nat} (I : zI) (h : w < 1024) (h0 : w ≠ 0) : In_ntz (zN w) I = some (zN (zLob w)) := zNtz w h h0
/-- the class's table: where walks by just a set begin -/
def zSW (I : zI) (W : Nat → Nat) (R V : Nat) : Prop := ∀ T, T ≠ 0 → T < V → zAn T R = 0 → ∃ w, I 61 T = zN w ∧ w < 1024 ∧ ∀ b, b < 10 → (w.testBit b = true ↔ zHm W (zPop T - 1) T b)
theorem zPop_b {T b : Nat} (h : T < 1024) (hb : b < 10) (hT : T.testBit b = true) : zPop T - 1 = zPop (zAn T (1 <<< b)) := by
  have := zPop_an T h b hb hT
  omega
theorem zAnS {T R : Nat} : zAn T R = 0 ↔ ∀ i, T.testBit i = true → R.testBit i = true := by
  constructor
  · intro h i hi
    have := zAn_bit T R i
    rw [h, Nat.zero_testBit, hi] at this
    cases e : R.testBit i
    · rw [e] at this
      cases this
    · rfl
  · intro h
    refine zBit_ext (fun i => ?_)
    rw [zAn_bit, Bool.and_eq_true, Bool.not_eq_true', Nat.zero_testBit]
    constructor
    · rintro ⟨h1, h2⟩
      rw [h i h1] at h2
      exact h2.symm
    · intro z
      cases z
theorem zAnd0 {w v : Nat} (hw : w < 1024) : (w &&& v ≠ 0) ↔ ∃ c, c < 10 ∧ w.testBit c = true ∧ v.testBit c = true := by
  constructor
  · intro h
    obtain ⟨b, b1, b2⟩ := zBit_ex (Nat.lt_of_le_of_lt Nat.and_le_left hw) h
    rw [Nat.testBit_and, Bool.and_eq_true] at b2
    exact ⟨b, b1, b2.1, b2.2⟩
  · rintro ⟨c, -, h1, h2⟩ z
    have := Nat.testBit_and w v c
    rw [z, Nat.zero_testBit, h1, h2] at this
    cases this
theorem zstL {I : zI} {W : Nat → Nat} {R T : Nat} (hw : WC I W) (hT : T < 1024) (hR : zAn T R = 0) (hS : zSW I W R T) : ∀ (j k n f : Nat), k + j = 10 → j < n → f < 1024 → (∀ b, b < 10 → (f.testBit b = true ↔ (b < k ∧ zHm W (zPop T - 1) T b))) → ∃ w, Wa_startsOf_2_L5 n (zN T) (zN f) (zN k) I = some (zN w) ∧ w < 1024 ∧ ∀ b, b < 10 → (w.testBit b = true ↔ zHm W (zPop T - 1) T b) := by
  intro j
  induction j with
  | zero =>
    intro k n f hk hn hf h
    obtain ⟨n, rfl⟩ : ∃ e, n = e + 1 := ⟨n - 1, by omega⟩
    have : k = 10 := by omega
    subst this
    rw [Wa_startsOf_2_L5, if_pos (by decide)]
    exact ⟨f, rfl, hf, fun b hb => (h b hb).trans ⟨fun z => z.2, fun z => ⟨hb, z⟩⟩⟩
  | succ j ih =>
    intro k n f hk hn hf h
    obtain ⟨n, rfl⟩ : ∃ e, n = e + 1 := ⟨n - 1, by omega⟩
    rw [Wa_startsOf_2_L5, if_neg (by rw [zl_10, zN_le (by decide) (by omega)]; omega), zbHas I (by omega) (by omega), Option.bind_some]
    cases q : T.testBit k
    · rw [if_pos (by decide), Option.bind_some, zl_1, zN_add]
      refine ih (k + 1) n f (by omega) (by omega) hf (fun b hb => (h b hb).trans ⟨fun z => ⟨by omega, z.2⟩, fun z => ⟨?_, z.2⟩⟩)
      by_cases e : b = k
      · have := zHm_bit W z.2
        rw [e, q] at this
        cases this
      · omega
    · have hle := zAn_le T (1 <<< k)
      have hlt := zAn_lt q
      have hp := zPop_b hT (show k < 10 by omega) q
      -- what the class finds of k
      have hg : ∃ g : Bool, (if zN T &&& ((zShl (1 : Int32) (zN k)) ^^^ (-1 : Int32)) = 0 then some (1 : Int32) else (Rw_at_60 (zN T &&& ((zShl (1 : Int32) (zN k)) ^^^ (-1 : Int32))) I).bind fun x260 => (Ga_waysFrom_2 (zN k) I).bind fun x262 => if x260 &&& x262 = 0 then some 0 else some 1) = some (zB g) ∧ (g = true ↔ zHm W (zPop T - 1) T k) := by
        have e1 : zN T &&& ((zShl (1 : Int32) (zN k)) ^^^ (-1 : Int32)) = zN (zAn T (1 <<< k)) := by
          rw [show zShl (1 : Int32) (zN k) = zN (1 <<< k) from zN_shl 1 (by omega), zN_an1]
        rw [e1, hp]
        by_cases q2 : zAn T (1 <<< k) = 0
        · rw [if_pos (by rw [q2]; rfl), q2, zPop_0]
          refine ⟨true, rfl, fun _ => ?_, fun _ => rfl⟩
          show T = 1 <<< k
          refine zBit_ext (fun i => ?_)
          rw [z1_bit, decide_eq_true_eq]
          constructor
          · intro hi
            by_cases z : k = i
            · exact z
            · have := (zAn_1i T k i).mpr ⟨hi, z⟩
              rw [q2, Nat.zero_testBit] at this
              cases this
          · intro hi
            rw [← hi]
            exact q
        · obtain ⟨w, w1, w2, w3⟩ := hS (zAn T (1 <<< k)) q2 (by omega) (by
            rw [zAnS] at hR ⊢
            exact fun i hi => hR i ((zAn_1i T k i).mp hi).1)
          obtain ⟨p, hp2⟩ : ∃ p, zPop (zAn T (1 <<< k)) = p + 1 := by
            refine ⟨zPop (zAn T (1 <<< k)) - 1, ?_⟩
            by_cases z : zPop (zAn T (1 <<< k)) = 0
            · exact absurd (zPop_z _ (by omega) z) q2
            · omega
          rw [if_neg (by rw [zl_0, zN_inj (by omega) (by decide)]; exact q2), zat_60 I (by omega), Option.bind_some]
          unfold Ga_waysFrom_2
          rw [zat_3 I (by omega), Option.bind_some, Option.bind_some, hw.1 k (by omega), w1, zN_and]
          have hand : w &&& W k ≤ w := Nat.and_le_left
          refine ⟨decide (w &&& W k ≠ 0), ?_, ?_⟩
          · by_cases z : w &&& W k = 0
            · rw [if_pos (by rw [z]; rfl), decide_eq_false (fun y => y z)]
              rfl
            · rw [if_neg (by rw [zl_0, zN_inj (by omega) (by decide)]; exact z), decide_eq_true z]
              rfl
          · rw [decide_eq_true_eq, zAnd0 w2, hp2]
            constructor
            · rintro ⟨c, c1, c2, c3⟩
              refine ⟨q, c, c1, c3, ?_⟩
              have := (w3 c c1).mp c2
              rw [hp2] at this
              exact this
            · rintro ⟨-, c, c1, c2, c3⟩
              refine ⟨c, c1, (w3 c c1).mpr ?_, c2⟩
              rw [hp2]
              exact c3
      obtain ⟨g, g1, g2⟩ := hg
      rw [if_neg (by decide), g1, Option.bind_some]
      cases g with
      | false =>
        rw [if_pos (by decide), Option.bind_some, Option.bind_some, show (0 : Int32) = zN 0 from rfl, zN_or, Nat.or_zero, zl_1, zN_add]
        refine ih (k + 1) n f (by omega) (by omega) hf (fun b hb => (h b hb).trans ⟨fun z => ⟨by omega, z.2⟩, fun z => ⟨?_, z.2⟩⟩)
        by_cases e : b = k
        · rw [e] at z
          exact absurd (g2.mpr z.2) (by decide)
        · omega
      | true =>
        rw [if_neg (by decide), Option.bind_some, Option.bind_some, zl_1, zN_shl 1 (by omega), zN_or, zN_add]
        refine ih (k + 1) n (f ||| 1 <<< k) (by omega) (by omega) (Nat.or_lt_two_pow (n := 10) hf (z1_lt (by omega))) (fun b hb => ?_)
        rw [zOr_1i, h b hb]
        constructor
        · rintro (z | z)
          · exact ⟨by omega, z.2⟩
          · rw [← z]
            exact ⟨by omega, g2.mp rfl⟩
        · rintro ⟨z1, z2⟩
          by_cases e : k = b
          · exact Or.inr e
          · exact Or.inl ⟨by omega, z2⟩
theorem zexL {W : Nat → Nat} {R : Nat} (hR : R < 1024) : ∀ (j V n : Nat) (I : zI), V + j = 1024 → 1 ≤ V → j + 30 < n → WC I W → I 59 1 = zN R → zSW I W R V → ∃ I', Wa_explore_2_L16 n (zN V) I = some I' ∧ (∀ b, b ≠ 61 → I' b = I b) ∧ zSW I' W R 1024 := by
  intro j
  induction j with
  | zero =>
    intro V n I hk h1 hn hw h59 hS
    obtain ⟨n, rfl⟩ : ∃ e, n = e + 1 := ⟨n - 1, by omega⟩
    have : V = 1024 := by omega
    subst this
    rw [Wa_explore_2_L16, if_pos (by decide)]
    exact ⟨I, rfl, fun _ _ => rfl, hS⟩
  | succ j ih =>
    intro V n I hk h1 hn hw h59 hS
    obtain ⟨n, rfl⟩ : ∃ e, n = e + 1 := ⟨n - 1, by omega⟩
    have hle := zAn_le V R
    rw [Wa_explore_2_L16, if_neg (by rw [zl_1024, zN_le (by decide) (by omega)]; omega), h59, zN_an1]
    by_cases q : zAn V R = 0
    · obtain ⟨w, w1, w2, w3⟩ := zstL hw (show V < 1024 by omega) q hS 10 0 n 0 rfl (by omega) (by decide) (fun b hb => by
        rw [Nat.zero_testBit]
        exact ⟨fun z => (by cases z), fun z => by omega⟩)
      rw [if_pos (by rw [q]; rfl)]
      unfold Wa_startsOf_2
      rw [show Wa_startsOf_2_L5 n (zN V) 0 0 I = _ from w1, Option.bind_some, Option.bind_some, zput_60 _ I (by omega), Option.bind_some, Option.bind_some, zl_1, zN_add]
      obtain ⟨I', e1, e2, e3⟩ := ih (V + 1) n (zUp I 61 V (zN w)) (by omega) (by omega) (by omega) (zWC_fr hw (zUp_ne (by decide))) (by rw [zUp_ne (by decide), h59]) (fun T t1 t2 t3 => by
        by_cases z : T = V
        · rw [z, zUp_eq]
          exact ⟨w, rfl, w2, w3⟩
        · rw [zUp_nj z]
          exact hS T t1 (by omega) t3)
      exact ⟨I', e1, fun b hb => by rw [e2 b hb, zUp_ne hb], e3⟩
    · rw [if_neg (by rw [zl_0, zN_inj (by omega) (by decide)]; exact q), Option.bind_some, zl_1, zN_add]
      refine ih (V + 1) n I (by omega) (by omega) (by omega) hw h59 (fun T t1 t2 t3 => ?_)
      by_cases z : T = V
      · rw [z] at t3
        exact absurd t3 q
      · exact hS T t1 (by omega) t3
/-- so many steps at most -/
def zIs (W : Nat → Nat) (S a v : Nat) : Prop := zPw W v S a ∧ ¬ zPw W (v + 1) S a
theorem zlgL {I : zI} {W : Nat → Nat} {R a : Nat} (hR : R < 1024) (ha : a < 10) (hcl : ∀ i j, i < 10 → j < 10 → R.testBit i = true → (W i).testBit j = true → R.testBit j = true) (hRa : R.testBit a = true) (h59 : I 59 1 = zN R) (hS : zSW I W R 1024) : ∀ (v n m : Nat), v < n → (∀ i, v.testBit i = true → R.testBit i = true) → v < 1024 → 1 ≤ m → m ≤ 10 → zPw W (m - 1) (1 <<< a) a → (∀ T, T < 1024 → v < T → (∀ i, T.testBit i = true → R.testBit i = true) → zHm W (zPop T - 1) T a → zPop T ≤ m) → ∃ m', Wa_longestFrom_L7 n (zN a) (zN m) (zN v) I = some (zN m') ∧ 1 ≤ m' ∧ m' ≤ 10 ∧ zIs W (1 <<< a) a (m' - 1) := by
  intro v
  induction v using Nat.strongRecOn with
  | _ v ih =>
    intro n m hn hv hv2 hm hm2 h1 h2
    obtain ⟨n, rfl⟩ : ∃ e, n = e + 1 := ⟨n - 1, by omega⟩
    rw [Wa_longestFrom_L7]
    by_cases q : v = 0
    · rw [if_pos (by rw [q]; decide)]
      refine ⟨m, rfl, hm, hm2, h1, fun z => ?_⟩
      rw [show m - 1 + 1 = m by omega] at z
      obtain ⟨T, t1, t2, t3⟩ := zHm_up W m (1 <<< a) a ha (by rw [z1_bit, decide_eq_true_eq]) z
      have hp := zHm_pop W m T a t1 ha t2
      have hT0 : T ≠ 0 := by
        intro e
        rw [e, zPop_0] at hp
        omega
      have := h2 T t1 (by omega) (zHm_sub W hcl m T a ha t2 hRa) (by rw [hp, Nat.add_sub_cancel]; exact t2)
      omega
    · have hz : zAn v R = 0 := zAnS.mpr hv
      obtain ⟨w, w1, w2, w3⟩ := hS v q hv2 hz
      have hand : (v - 1) &&& R ≤ v - 1 := Nat.and_le_left
      have hsub : ∀ i, ((v - 1) &&& R).testBit i = true → R.testBit i = true := fun i hi => by
        rw [Nat.testBit_and, Bool.and_eq_true] at hi
        exact hi.2
      have hnext : ∀ T, T < 1024 → (v - 1) &&& R < T → (∀ i, T.testBit i = true → R.testBit i = true) → T = v ∨ v < T := by
        intro T t1 t2 t3
        by_cases z : T < v
        · have := zSubm 10 R v T hv2 t3 hv z
          omega
        · omega
      rw [if_neg (by rw [zl_0, zN_le (by omega) (by decide)]; omega), zat_60 I (by omega), Option.bind_some, w1, zbHas I (by omega) (by omega), Option.bind_some, h59]
      have e3 : (zN v - 1) &&& zN R = zN ((v - 1) &&& R) := by
        rw [zl_1, zN_sub (by omega), zN_and]
      cases q2 : w.testBit a
      · rw [if_pos (by decide), Option.bind_some, e3]
        refine ih _ (by omega) n m (by omega) hsub (by omega) hm hm2 h1 (fun T t1 t2 t3 t4 => ?_)
        rcases hnext T t1 t2 t3 with z | z
        · rw [z] at t4
          have := (w3 a ha).mpr t4
          rw [q2] at this
          cases this
        · exact h2 T t1 z t3 t4
      · have hh := (w3 a ha).mp q2
        have hp1 : zPop v ≤ 10 := zPop_10 v hv2
        have hp0 : 1 ≤ zPop v := by
          by_cases z : zPop v = 0
          · exact absurd (zPop_z v hv2 z) q
          · omega
        rw [if_neg (by decide), zbc I hv2, Option.bind_some, Option.bind_some, e3]
        by_cases q3 : m < zPop v
        · rw [if_pos ((zN_lt (by omega) (by omega)).mpr q3)]
          refine ih _ (by omega) n (zPop v) (by omega) hsub (by omega) hp0 hp1 ?_ (fun T t1 t2 t3 t4 => ?_)
          · refine zHm_dn W _ v a _ hh (fun i _ hne => ?_)
            rw [z1_bit, decide_eq_false_iff_not]
            exact fun z => hne z.symm
          · rcases hnext T t1 t2 t3 with z | z
            · rw [z]
              exact Nat.le_refl _
            · have := h2 T t1 z t3 t4
              omega
        · rw [if_neg (by rw [zN_lt (by omega) (by omega)]; exact q3)]
          refine ih _ (by omega) n m (by omega) hsub (by omega) hm hm2 h1 (fun T t1 t2 t3 t4 => ?_)
          rcases hnext T t1 t2 t3 with z | z
          · rw [z]
            omega
          · exact h2 T t1 z t3 t4
/-- where walks by so many of F begin -/
theorem zswL {I : zI} {W : Nat → Nat} {R F l : Nat} (hF : F < 1024) (hFR : ∀ i, F.testBit i = true → R.testBit i = true) (hl : l ≤ 20) (hS : zSW I W R 1024) : ∀ (v n f : Nat), v < n → (∀ i, v.testBit i = true → F.testBit i = true) → v < 1024 → f < 1024 → (∀ b, b < 10 → (f.testBit b = true ↔ ∃ T, T < 1024 ∧ v < T ∧ (∀ i, T.testBit i = true → F.testBit i = true) ∧ zPop T = l ∧ zHm W (l - 1) T b)) → ∃ w, Wa_startsOfWalks_L5 n (zN F) (zN l) (zN f) (zN v) I = some (zN w) ∧ w < 1024 ∧ ∀ b, b < 10 → (w.testBit b = true ↔ ∃ T, T < 1024 ∧ 0 < T ∧ (∀ i, T.testBit i = true → F.testBit i = true) ∧ zPop T = l ∧ zHm W (l - 1) T b) := by
  intro v
  induction v using Nat.strongRecOn with
  | _ v ih =>
    intro n f hn hv hv2 hf h2
    obtain ⟨n, rfl⟩ : ∃ e, n = e + 1 := ⟨n - 1, by omega⟩
    rw [Wa_startsOfWalks_L5]
    by_cases q : v = 0
    · rw [if_pos (by rw [q]; decide)]
      rw [q] at h2
      exact ⟨f, rfl, hf, h2⟩
    · obtain ⟨w, w1, w2, w3⟩ := hS v q hv2 (zAnS.mpr (fun i hi => hFR i (hv i hi)))
      have hand : (v - 1) &&& F ≤ v - 1 := Nat.and_le_left
      have hsub : ∀ i, ((v - 1) &&& F).testBit i = true → F.testBit i = true := fun i hi => by
        rw [Nat.testBit_and, Bool.and_eq_true] at hi
        exact hi.2
      have hnext : ∀ T, T < 1024 → (v - 1) &&& F < T → (∀ i, T.testBit i = true → F.testBit i = true) → T = v ∨ v < T := by
        intro T t1 t2 t3
        by_cases z : T < v
        · have := zSubm 10 F v T hv2 t3 hv z
          omega
        · omega
      have hp1 : zPop v ≤ 10 := zPop_10 v hv2
      have e3 : (zN v - 1) &&& zN F = zN ((v - 1) &&& F) := by
        rw [zl_1, zN_sub (by omega), zN_and]
      rw [if_neg (by rw [zl_0, zN_le (by omega) (by decide)]; omega), zbc I hv2, Option.bind_some, e3]
      by_cases q2 : zPop v = l
      · rw [if_pos (by rw [q2]), zat_60 I (by omega), Option.bind_some, w1, zN_or, Option.bind_some]
        refine ih _ (by omega) n (f ||| w) (by omega) hsub (by omega) (Nat.or_lt_two_pow (n := 10) hf w2) (fun b hb => ?_)
        rw [Nat.testBit_or, Bool.or_eq_true, h2 b hb, w3 b hb]
        constructor
        · rintro (⟨T, t1, t2, t3⟩ | z)
          · exact ⟨T, t1, by omega, t3⟩
          · exact ⟨v, hv2, by omega, hv, q2, by rw [← q2]; exact z⟩
        · rintro ⟨T, t1, t2, t3, t4, t5⟩
          rcases hnext T t1 t2 t3 with z | z
          · right
            rw [q2, ← z]
            exact t5
          · exact Or.inl ⟨T, t1, z, t3, t4, t5⟩
      · rw [if_neg (by rw [zN_inj (by omega) (by omega)]; exact q2), Option.bind_some]
        refine ih _ (by omega) n f (by omega) hsub (by omega) hf (fun b hb => ?_)
        rw [h2 b hb]
        constructor
        · rintro ⟨T, t1, t2, t3⟩
          exact ⟨T, t1, by omega, t3⟩
        · rintro ⟨T, t1, t2, t3, t4, t5⟩
          rcases hnext T t1 t2 t3 with z | z
          · rw [z] at t4
            exact absurd t4 q2
          · exact ⟨T, t1, z, t3, t4, t5⟩
