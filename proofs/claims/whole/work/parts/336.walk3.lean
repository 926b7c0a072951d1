/-! walks: the reference's -/
def zMW (I : zI) (W : Nat → Nat) (V k : Nat) : Prop := ∀ U i, U < 1024 → i < 10 → U.testBit i = true → (V < U ∨ (U = V ∧ i < k)) → ∃ v, I 88 (10 * U + i) = zN v ∧ zIs W U i v
theorem zIs_le {W : Nat → Nat} {S a v : Nat} (hS : S < 1024) (h : zIs W S a v) : v ≤ 10 := by
  have := zPw_pop W v S a hS h.1
  omega
theorem zgt_or {S b : Nat} (h : S.testBit b = false) : S < S ||| 1 <<< b := by
  have h1 : S ≤ S ||| 1 <<< b := Nat.left_le_or
  have h2 : S ≠ S ||| 1 <<< b := by
    intro e
    have := (zOr_1i S b b).mpr (Or.inr rfl)
    rw [← e, h] at this
    cases this
  omega
theorem zmgoL {I : zI} {W : Nat → Nat} (hw : WM I W) {S a : Nat} (hS : S < 1024) (ha : a < 10) (hT : zMW I W S 0) : ∀ (j k n v : Nat), k + j = 10 → j < n → v ≤ 10 → zPw W v S a → (∀ b, b < k → (W a).testBit b = true → S.testBit b = false → ¬ zPw W v (S ||| 1 <<< b) b) → ∃ v', Mo_goesOn_L5 n (zN S) (zN a) (zN v) (zN k) I = some (zN v') ∧ zIs W S a v' := by
  intro j
  induction j with
  | zero =>
    intro k n v hk hn hv h1 h2
    obtain ⟨n, rfl⟩ : ∃ e, n = e + 1 := ⟨n - 1, by omega⟩
    have : k = 10 := by omega
    subst this
    rw [Mo_goesOn_L5, if_pos (by decide)]
    refine ⟨v, rfl, h1, ?_⟩
    rintro ⟨b, b1, b2, b3, b4⟩
    exact h2 b b1 b2 b3 b4
  | succ j ih =>
    intro k n v hk hn hv h1 h2
    obtain ⟨n, rfl⟩ : ∃ e, n = e + 1 := ⟨n - 1, by omega⟩
    have hwa := hw.2 a ha
    rw [Mo_goesOn_L5, if_neg (by rw [zl_10, zN_le (by decide) (by omega)]; omega), if_pos ((zN_in (by omega)).mpr ha), zN_tn (by omega), hw.1 a ha, zmIsIn I (by omega) (by omega), Option.bind_some]
    cases q1 : (W a).testBit k
    · rw [if_pos (by decide), Option.bind_some, if_pos rfl, Option.bind_some, if_pos (show (0 : Int32) ≤ zN v from zN0 (by omega)), Option.bind_some, zl_1, zN_add]
      refine ih (k + 1) n v (by omega) (by omega) hv h1 (fun b b1 b2 => ?_)
      by_cases z : b = k
      · rw [z, q1] at b2
        cases b2
      · exact h2 b (by omega) b2
    · rw [if_neg (by decide), zmIsIn I (by omega) (by omega), Option.bind_some]
      cases q2 : S.testBit k
      · have hU : S ||| 1 <<< k < 1024 := Nat.or_lt_two_pow (n := 10) hS (z1_lt (by omega))
        obtain ⟨r, r1, r2⟩ := hT (S ||| 1 <<< k) k hU (by omega) ((zOr_1i S k k).mpr (Or.inr rfl)) (Or.inl (zgt_or q2))
        have r3 := zIs_le hU r2
        have e10 : (10 : Int32) * (zN S ||| zN (1 <<< k)) + zN k = zN (10 * (S ||| 1 <<< k) + k) := by rw [zN_or, zl_10, zN_mul, zN_add]
        rw [if_pos (by decide), Option.bind_some, if_neg (by decide), if_neg (by decide), zl_1, zN_shl 1 (by omega), Option.bind_some, e10, if_pos ((zN_in (by omega)).mpr (by omega)), zN_tn (by omega), r1, zN_add, Option.bind_some, zN_add]
        by_cases z : 1 + r ≤ v
        · rw [if_pos ((zN_le (by omega) (by omega)).mpr z), Option.bind_some]
          refine ih (k + 1) n v (by omega) (by omega) hv h1 (fun b b1 b2 b3 b4 => ?_)
          by_cases y : b = k
          · rw [y] at b4
            exact r2.2 (zPw_le W b4 (by omega))
          · exact h2 b (by omega) b2 b3 b4
        · rw [if_neg (by rw [zN_le (by omega) (by omega)]; exact z), Option.bind_some]
          have hnew : zPw W (1 + r) S a := by
            rw [Nat.add_comm]
            exact ⟨k, by omega, q1, q2, r2.1⟩
          have hb := zPw_pop W (1 + r) S a hS hnew
          refine ih (k + 1) n (1 + r) (by omega) (by omega) (by omega) hnew (fun b b1 b2 b3 b4 => ?_)
          by_cases y : b = k
          · rw [y] at b4
            exact r2.2 (by rw [Nat.add_comm]; exact b4)
          · exact h2 b (by omega) b2 b3 (zPw_le W b4 (by omega))
      · rw [if_neg (by decide), Option.bind_some, if_pos rfl, Option.bind_some, if_pos (show (0 : Int32) ≤ zN v from zN0 (by omega)), Option.bind_some, zl_1, zN_add]
        refine ih (k + 1) n v (by omega) (by omega) hv h1 (fun b b1 b2 b3 => ?_)
        by_cases z : b = k
        · rw [z, q2] at b3
          cases b3
        · exact h2 b (by omega) b2 b3
theorem zmgo {I : zI} {W : Nat → Nat} (hw : WM I W) {S a n : Nat} (hS : S < 1024) (ha : a < 10) (hT : zMW I W S 0) (hn : 20 < n) : ∃ v, Mo_goesOn n (zN S) (zN a) I = some (zN v) ∧ zIs W S a v := by
  obtain ⟨v, e1, e2⟩ := zmgoL hw hS ha hT 10 0 n 0 rfl (by omega) (by omega) trivial (fun b hb => by omega)
  unfold Mo_goesOn
  rw [show Mo_goesOn_L5 n (zN S) (zN a) 0 0 I = _ from e1, Option.bind_some]
  exact ⟨v, rfl, e2⟩
theorem zmw33 {W : Nat → Nat} {V : Nat} {v1 v2 : Int32} (hV : V < 1024) : ∀ (j k n : Nat) (I : zI), k + j = 10 → j + 30 < n → WM I W → zMW I W V k → ∃ I', Mo_walk_L33 n v1 v2 (zN V) (zN k) I = some I' ∧ (∀ b, b ≠ 88 → I' b = I b) ∧ zMW I' W V 10 := by
  intro j
  induction j with
  | zero =>
    intro k n I hk hn hw hT
    obtain ⟨n, rfl⟩ : ∃ e, n = e + 1 := ⟨n - 1, by omega⟩
    have : k = 10 := by omega
    subst this
    rw [Mo_walk_L33, if_pos (by decide)]
    exact ⟨I, rfl, fun _ _ => rfl, hT⟩
  | succ j ih =>
    intro k n I hk hn hw hT
    obtain ⟨n, rfl⟩ : ∃ e, n = e + 1 := ⟨n - 1, by omega⟩
    have e10 : (10 : Int32) * zN V + zN k = zN (10 * V + k) := by rw [zl_10, zN_mul, zN_add]
    rw [Mo_walk_L33, if_neg (by rw [zl_10, zN_le (by decide) (by omega)]; omega), zmIsIn I (by omega) (by omega), Option.bind_some, e10, zl_1, zN_add]
    have hin : zIn (zN (10 * V + k)) 10240 := (zN_in (by omega)).mpr (by omega)
    cases q : V.testBit k
    · rw [if_pos (by decide), Option.bind_some, if_pos hin, zN_tn (by omega)]
      obtain ⟨I', e1, e2, e3⟩ := ih (k + 1) n (zUp I 88 (10 * V + k) 0) (by omega) (by omega) (zWM_fr hw (zUp_ne (by decide))) (fun U i g0 g1 g2 g3 => by
        by_cases z : U = V ∧ i = k
        · rw [z.1, z.2, q] at g2
          cases g2
        · rw [zUp_nj (by omega)]
          exact hT U i g0 g1 g2 (by omega))
      exact ⟨I', e1, fun b hb => by rw [e2 b hb, zUp_ne hb], e3⟩
    · obtain ⟨v, v1, v2⟩ := zmgo (n := n) hw hV (show k < 10 by omega) (fun U i g0 g1 g2 g3 => hT U i g0 g1 g2 (by omega)) (by omega)
      rw [if_neg (by decide), v1, Option.bind_some, Option.bind_some, if_pos hin, zN_tn (by omega)]
      obtain ⟨I', e1, e2, e3⟩ := ih (k + 1) n (zUp I 88 (10 * V + k) (zN v)) (by omega) (by omega) (zWM_fr hw (zUp_ne (by decide))) (fun U i g0 g1 g2 g3 => by
        rw [zUp_at]
        by_cases z : U = V ∧ i = k
        · rw [if_pos (by rw [z.1, z.2]), z.1, z.2]
          exact ⟨v, rfl, v2⟩
        · rw [if_neg (by omega)]
          exact hT U i g0 g1 g2 (by omega))
      exact ⟨I', e1, fun b hb => by rw [e2 b hb, zUp_ne hb], e3⟩
theorem zN_dec {V : Nat} (h : 1 ≤ V) : zN V + -1 = zN (V - 1) := zN_subn (b := 1) h
theorem zmw26 {W : Nat → Nat} {v1 v2 : Int32} : ∀ (V n : Nat) (I : zI), V < 1024 → V + 60 < n → WM I W → zMW I W V 0 → ∃ I', Mo_walk_L26 n v1 v2 (zN V) I = some I' ∧ (∀ b, b ≠ 88 → I' b = I b) ∧ zMW I' W 0 0 := by
  intro V
  induction V with
  | zero =>
    intro n I hV hn hw hT
    obtain ⟨n, rfl⟩ : ∃ e, n = e + 1 := ⟨n - 1, by omega⟩
    rw [Mo_walk_L26, if_pos (by decide)]
    exact ⟨I, rfl, fun _ _ => rfl, hT⟩
  | succ V ih =>
    intro n I hV hn hw hT
    obtain ⟨n, rfl⟩ : ∃ e, n = e + 1 := ⟨n - 1, by omega⟩
    obtain ⟨I1, a1, a2, a3⟩ := zmw33 (v1 := v1) (v2 := v2) hV 10 0 n I rfl (by omega) hw hT
    rw [Mo_walk_L26, if_neg (by rw [zl_0, zN_le (by omega) (by decide)]; omega), show Mo_walk_L33 n v1 v2 (zN (V + 1)) 0 I = _ from a1, Option.bind_some, zN_dec (by omega), Nat.add_sub_cancel]
    obtain ⟨I', e1, e2, e3⟩ := ih n I1 (by omega) (by omega) (zWM_fr hw (a2 74 (by decide))) (fun U i g0 g1 g2 g3 => a3 U i g0 g1 g2 (by omega))
    exact ⟨I', e1, fun b hb => (e2 b hb).trans (a2 b hb), e3⟩
/-! told walks -/
/-- b can be the next -/
def zNxw (W : Nat → Nat) (l S a b : Nat) : Prop := (W a).testBit b = true ∧ S.testBit b = false ∧ zPw W (l - 1) (S ||| 1 <<< b) b
theorem zm128 {I : zI} {W : Nat → Nat} (hw : WM I W) {S a l c : Nat} {v6 : Int32} (hS : S < 1024) (ha : a < 10) (hl : 1 ≤ l) (hl2 : l ≤ 10) (hT : zMW I W 0 0) (hno : ¬ zPw W (l + 1) S a) (hc : c < 10) (hx : zNxw W l S a c) (hm : ∀ i, i < c → ¬ zNxw W l S a i) : ∀ (k n : Nat) (nx : Int32), k ≤ 10 → k < n → (k ≤ c → nx = zN c) → Mo_walk_L128 n (zN S) (zN a) (zN l) v6 nx (zN k - 1) I = some (zN c) := by
  intro k
  induction k with
  | zero =>
    intro n nx hk hn h
    obtain ⟨n, rfl⟩ : ∃ e, n = e + 1 := ⟨n - 1, by omega⟩
    rw [Mo_walk_L128, if_pos (by decide), h (Nat.zero_le _)]
  | succ k ih =>
    intro n nx hk hn h
    obtain ⟨n, rfl⟩ : ∃ e, n = e + 1 := ⟨n - 1, by omega⟩
    have hwa := hw.2 a ha
    have ej : zN k + -1 = zN k - 1 := Int32.add_neg_eq_sub
    rw [zN_p k (by omega), Mo_walk_L128, if_neg (by rw [zl_0, zN_lt (by omega) (by decide)]; omega), if_pos ((zN_in (by omega)).mpr ha), zN_tn (by omega), hw.1 a ha, zmIsIn I (by omega) (by omega), Option.bind_some, ej]
    cases q1 : (W a).testBit k
    · rw [if_pos (by decide), Option.bind_some, if_pos rfl, Option.bind_some]
      refine ih n nx (by omega) (by omega) (fun z => h ?_)
      by_cases y : k = c
      · have := hx.1
        rw [← y, q1] at this
        cases this
      · omega
    · rw [if_neg (by decide), zmIsIn I (by omega) (by omega), Option.bind_some]
      cases q2 : S.testBit k
      · have hU : S ||| 1 <<< k < 1024 := Nat.or_lt_two_pow (n := 10) hS (z1_lt (by omega))
        have hgt := zgt_or q2
        obtain ⟨r, r1, r2⟩ := hT (S ||| 1 <<< k) k hU (by omega) ((zOr_1i S k k).mpr (Or.inr rfl)) (Or.inl (by omega))
        have r3 := zIs_le hU r2
        have e10 : (10 : Int32) * (zN S ||| zShl (1 : Int32) (zN k)) + zN k = zN (10 * (S ||| 1 <<< k) + k) := by rw [show zShl (1 : Int32) (zN k) = zN (1 <<< k) from zN_shl 1 (by omega), zN_or, zl_10, zN_mul, zN_add]
        have el : zN l - 1 = zN (l - 1) := by rw [zl_1, zN_sub hl]
        rw [if_pos (by decide), e10, if_pos ((zN_in (by omega)).mpr (by omega)), zN_tn (by omega), r1, el]
        have hiff : r = l - 1 ↔ zNxw W l S a k := by
          constructor
          · intro z
            refine ⟨q1, q2, ?_⟩
            rw [← z]
            exact r2.1
          · rintro ⟨-, -, z⟩
            have h1 : ¬ r + 1 ≤ l - 1 := fun y => r2.2 (zPw_le W z y)
            have h2 : ¬ l ≤ r := fun y => hno ⟨k, by omega, q1, q2, zPw_le W r2.1 y⟩
            omega
        by_cases z : r = l - 1
        · rw [if_pos (by rw [z]), Option.bind_some, if_neg (by decide), Option.bind_some]
          refine ih n (zN k) (by omega) (by omega) (fun y => ?_)
          by_cases x : k = c
          · rw [x]
          · exact absurd (hiff.mp z) (hm k (by omega))
        · rw [if_neg (by rw [zN_inj (by omega) (by omega)]; exact z), Option.bind_some, if_pos rfl, Option.bind_some]
          refine ih n nx (by omega) (by omega) (fun y => h ?_)
          by_cases x : k = c
          · rw [← x] at hx
            exact absurd (hiff.mpr hx) z
          · omega
      · rw [if_neg (by decide), Option.bind_some, if_pos rfl, Option.bind_some]
        refine ih n nx (by omega) (by omega) (fun z => h ?_)
        by_cases y : k = c
        · have := hx.2.1
          rw [← y, q2] at this
          cases this
        · omega
/-- the same, by sets of what is free -/
theorem zNxw_T {W : Nat → Nat} {R S F l a b : Nat} (hcl : ∀ i j, i < 10 → j < 10 → R.testBit i = true → (W i).testBit j = true → R.testBit j = true) (ha : a < 10) (hb : b < 10) (hRa : R.testBit a = true) (hW : (W a).testBit b = true) (hl : 1 ≤ l) (hF : ∀ i, F.testBit i = true ↔ (R.testBit i = true ∧ S.testBit i = false)) : zNxw W l S a b ↔ ∃ T, T < 1024 ∧ 0 < T ∧ (∀ i, T.testBit i = true → F.testBit i = true) ∧ zPop T = l ∧ zHm W (l - 1) T b := by
  constructor
  · rintro ⟨-, h1, h2⟩
    obtain ⟨T, t1, t2, t3⟩ := zHm_up W (l - 1) (S ||| 1 <<< b) b hb ((zOr_1i S b b).mpr (Or.inr rfl)) h2
    have hp := zHm_pop W _ T b t1 hb t2
    have hbit := zHm_bit W t2
    refine ⟨T, t1, ?_, fun i hi => ?_, by omega, t2⟩
    · refine Nat.pos_of_ne_zero (fun e => ?_)
      rw [e, Nat.zero_testBit] at hbit
      cases hbit
    · rw [hF]
      refine ⟨zHm_sub W hcl _ T b hb t2 (hcl a b ha hb hRa hW) i hi, ?_⟩
      by_cases z : i = b
      · rw [z]
        exact h1
      · exact ((zOr_1f S b i).mp (t3 i hi z)).1
  · rintro ⟨T, t1, t2, t3, t4, t5⟩
    have hbit := (hF b).mp (t3 b (zHm_bit W t5))
    refine ⟨hW, hbit.2, zHm_dn W _ T b _ t5 (fun i hi hne => ?_)⟩
    rw [zOr_1f]
    exact ⟨((hF i).mp (t3 i hi)).2, fun z => hne z.symm⟩
theorem ztw {I J : zI} {W : Nat → Nat} {R : Nat} (hwc : WC I W) (hwm : WM J W) (hR : R < 1024) (hcl : ∀ i j, i < 10 → j < 10 → R.testBit i = true → (W i).testBit j = true → R.testBit j = true) (hS : zSW I W R 1024) (hT : zMW J W 0 0) : ∀ (l S a F n m : Nat) (told : Int32), l + 1200 < n → l + 30 < m → S < 1024 → a < 10 → F < 1024 → S.testBit a = true → R.testBit a = true → zPw W l S a → ¬ zPw W (l + 1) S a → (∀ i, (zAn F (1 <<< a)).testBit i = true ↔ (R.testBit i = true ∧ S.testBit i = false)) → ∃ r, Wa_firstFrom_2_L15 n told (zN a) (zN F) (zN l) I = some r ∧ Mo_walk_L115 m (zN S) (zN a) (zN l) told J = some r := by
  intro l
  induction l with
  | zero =>
    intro S a F n m told hn hm _ _ _ _ _ _ _ _
    obtain ⟨n, rfl⟩ : ∃ e, n = e + 1 := ⟨n - 1, by omega⟩
    obtain ⟨m, rfl⟩ : ∃ e, m = e + 1 := ⟨m - 1, by omega⟩
    rw [Wa_firstFrom_2_L15, Mo_walk_L115, if_pos (by decide), if_pos (by decide)]
    exact ⟨told, rfl, rfl⟩
  | succ l ih =>
    intro S a F n m told hn hm hS2 ha hF2 hSa hRa h1 h2 hF
    obtain ⟨n, rfl⟩ : ∃ e, n = e + 1 := ⟨n - 1, by omega⟩
    obtain ⟨m, rfl⟩ : ∃ e, m = e + 1 := ⟨m - 1, by omega⟩
    have hpop := zPw_pop W _ S a hS2 h1
    have hle := zAn_le F (1 <<< a)
    have hwa := hwc.2 a ha
    obtain ⟨c, hc, hx, hmin⟩ := zLeast (p := zNxw W (l + 1) S a) (n := 10) (by
      obtain ⟨b, b1, b2, b3, b4⟩ := h1
      exact ⟨b, b1, b2, b3, b4⟩)
    obtain ⟨w, w1, w2, w3⟩ := zswL (I := I) (W := W) (R := R) (F := zAn F (1 <<< a)) (l := l + 1) (by omega) (fun i hi => ((hF i).mp hi).1) (by omega) hS (zAn F (1 <<< a)) n 0 (by omega) (fun _ h => h) (by omega) (by decide) (fun b hb => by
      rw [Nat.zero_testBit]
      constructor
      · intro z
        cases z
      · rintro ⟨T, t1, t2, t3, -⟩
        have : zAn T (zAn F (1 <<< a)) = 0 := zAnS.mpr t3
        have h5 : T = T &&& zAn F (1 <<< a) := zBit_ext (fun i => by
          rw [Nat.testBit_and, Bool.and_eq_true]
          exact ⟨fun y => ⟨y, t3 i y⟩, fun y => y.1⟩)
        have h6 : T &&& zAn F (1 <<< a) ≤ zAn F (1 <<< a) := Nat.and_le_right
        omega)
    have hbit : ∀ b, b < 10 → ((W a &&& w).testBit b = true ↔ zNxw W (l + 1) S a b) := by
      intro b hb
      rw [Nat.testBit_and, Bool.and_eq_true, w3 b hb]
      constructor
      · rintro ⟨z1, z2⟩
        exact (zNxw_T hcl ha hb hRa z1 (by omega) hF).mpr z2
      · intro z
        exact ⟨z.1, (zNxw_T hcl ha hb hRa z.1 (by omega) hF).mp z⟩
    have hbc := (hbit c hc).mpr hx
    have hlow : zLob (W a &&& w) = c := zLwL_is hbc (fun i hi => by
      cases e : (W a &&& w).testBit i
      · rfl
      · exact absurd ((hbit i (by omega)).mp e) (hmin i hi)) 10 0 (Nat.zero_le _) (by omega)
    have hne : W a &&& w ≠ 0 := by
      intro e
      rw [e, Nat.zero_testBit] at hbc
      cases hbc
    have hlt : W a &&& w < 1024 := Nat.lt_of_le_of_lt Nat.and_le_left hwa
    have hno2 : ¬ zPw W (l + 1) (S ||| 1 <<< c) c := fun z => h2 ⟨c, hc, hx.1, hx.2.1, z⟩
    have e1 : zN F &&& ((zShl (1 : Int32) (zN a)) ^^^ (-1 : Int32)) = zN (zAn F (1 <<< a)) := by
      rw [show zShl (1 : Int32) (zN a) = zN (1 <<< a) from zN_shl 1 (by omega), zN_an1]
    have e2 : zN (l + 1) + -1 = zN l := by
      rw [zN_dec (by omega), Nat.add_sub_cancel]
    have e3 : zN S ||| zShl (1 : Int32) (zN c) = zN (S ||| 1 <<< c) := by
      rw [show zShl (1 : Int32) (zN c) = zN (1 <<< c) from zN_shl 1 (by omega), zN_or]
    have hm := zm128 (v6 := told) hwm hS2 ha (show 1 ≤ l + 1 by omega) (by omega) hT h2 hc hx hmin 10 m (-6) (Nat.le_refl _) (by omega) (fun z => by omega)
    rw [Wa_firstFrom_2_L15, Mo_walk_L115, if_neg (by rw [zl_0, zN_le (by omega) (by decide)]; omega), if_neg (by rw [zl_0, zN_le (by omega) (by decide)]; omega)]
    unfold Ga_waysFrom_2 Wa_startsOfWalks
    rw [zat_3 I ha, Option.bind_some, Option.bind_some, hwc.1 a ha, e1, show Wa_startsOfWalks_L5 n (zN (zAn F (1 <<< a))) (zN (l + 1)) 0 (zN (zAn F (1 <<< a))) I = _ from w1, Option.bind_some, Option.bind_some, zN_and, zntz I hlt hne, Option.bind_some, hlow, e2, show Mo_walk_L128 m (zN S) (zN a) (zN (l + 1)) told (-6) 9 J = _ from hm, Option.bind_some, e3, show (10 : Int32) * told = told * 10 from Int32.mul_comm _ _]
    refine ih (S ||| 1 <<< c) c (zAn F (1 <<< a)) n m (told * 10 + zN c) (by omega) (by omega) (Nat.or_lt_two_pow (n := 10) hS2 (z1_lt hc)) hc (by omega) ((zOr_1i S c c).mpr (Or.inr rfl)) (hcl a c ha hc hRa hx.1) hx.2.2 hno2 (fun i => ?_)
    rw [zAn_1i, hF i, zOr_1f]
    exact ⟨fun z => ⟨z.1.1, z.1.2, z.2⟩, fun z => ⟨⟨z.1, z.2.1⟩, z.2.2⟩⟩
theorem c_walk {I : zI} (h : Rel I) {n : Nat} (hn : 5000 < n) (a0 a1 : Int32) : CO (BM_walk n a0 a1 I) (Mo_walk n a0 a1) := by
  rcases zW_c 0 9 a0 (by decide) (by decide) with ⟨a, -, ha, rfl, ea⟩ | ⟨ea, -⟩
  · rcases zW_c 0 1 a1 (by decide) (by decide) with ⟨t, -, ht, rfl, eb⟩ | ⟨eb, -⟩
    · obtain ⟨⟨s, hc, hm, v⟩, hr⟩ := id h
      have ha10 : a < 10 := by omega
      have net := VS_net v
      have hwc := WC_of hc v
      have hR := zRch_lt net.1 (z1_lt (n := 10) ha10) 9
      have hRa : (zRch (s 0) (1 <<< a) 9).testBit a = true := (zD_rch net ha10 ha10).mpr (by rw [zD_self]; decide)
      have hcl : ∀ i j, i < 10 → j < 10 → (zRch (s 0) (1 <<< a) 9).testBit i = true → (s 0 i).testBit j = true → (zRch (s 0) (1 <<< a) 9).testBit j = true := fun i j hi hj h1 h2 => zRch_cl net ha10 hi hj h1 h2
      obtain ⟨I1, b1, b2, b3⟩ := zexL hR 1023 1 n (zUp I 59 1 (zN (zRch (s 0) (1 <<< a) 9))) rfl (Nat.le_refl 1) (by omega) (zWC_fr hwc (zUp_ne (by decide))) (zUp_eq _ _ _ _) (fun T t1 t2 _ => absurd (show T = 0 by omega) t1)
      have h59 : I1 59 1 = zN (zRch (s 0) (1 <<< a) 9) := by rw [b2 59 (by decide), zUp_eq]
      have hfr : ∀ b, b ≠ 59 → b ≠ 61 → I1 b = I b := fun b c1 c2 => by rw [b2 b c2, zUp_ne c1]
      have hwc1 := zWC_fr hwc (hfr 4 (by decide) (by decide))
      have hex : Wa_explore_2 n (zN a) I = some I1 := by
        unfold Wa_explore_2
        rw [zcre hwc ha10 (by omega), Option.bind_some, show Wa_explore_2_L16 n 1 (zUp I 59 1 (zN (zRch (s 0) (1 <<< a) 9))) = _ from b1, Option.bind_some]
      obtain ⟨m, c1, c2, c3, c4⟩ := zlgL hR ha10 hcl hRa h59 b3 (zRch (s 0) (1 <<< a) 9) n 1 (by omega) (fun _ z => z) hR (Nat.le_refl 1) (by decide) trivial (fun T t1 t2 t3 _ => by
        have h5 : T = T &&& zRch (s 0) (1 <<< a) 9 := zBit_ext (fun i => by
          rw [Nat.testBit_and, Bool.and_eq_true]
          exact ⟨fun y => ⟨y, t3 i y⟩, fun y => y.1⟩)
        have h6 : T &&& zRch (s 0) (1 <<< a) 9 ≤ zRch (s 0) (1 <<< a) 9 := Nat.and_le_right
        omega)
      have hlo : Wa_longestFrom n (zN a) I1 = some (zN (m - 1)) := by
        unfold Wa_longestFrom
        rw [h59, show Wa_longestFrom_L7 n (zN a) 1 (zN (zRch (s 0) (1 <<< a) 9)) I1 = _ from c1, Option.bind_some, zl_1, zN_sub c2]
      have hwm : WM I1 (s 0) := zWM_fr (WM_of hm v) (hfr 74 (by decide) (by decide))
      obtain ⟨J, d1, d2, d3⟩ := zmw26 (v1 := zN a) (v2 := zN t) 1023 n I1 (by decide) (by omega) hwm (fun U i g0 g1 g2 g3 => by omega)
      have h1lt : 1 <<< a < 1024 := z1_lt (n := 10) ha10
      obtain ⟨x, x1, x2⟩ := d3 (1 <<< a) a h1lt ha10 (by rw [z1_bit, decide_eq_true_eq]) (Or.inl (by rw [Nat.one_shiftLeft]; exact Nat.two_pow_pos a))
      have hx : x = m - 1 := by
        have g1 : ¬ x + 1 ≤ m - 1 := fun z => x2.2 (zPw_le _ c4.1 z)
        have g2 : ¬ (m - 1) + 1 ≤ x := fun z => c4.2 (zPw_le _ x2.1 z)
        omega
      have hwmJ : WM J (s 0) := zWM_fr hwm (d2 74 (by decide))
      have e10 : (10 : Int32) * (zShl (1 : Int32) (zN a)) + zN a = zN (10 * (1 <<< a) + a) := by rw [show zShl (1 : Int32) (zN a) = zN (1 <<< a) from zN_shl 1 (by omega), zl_10, zN_mul, zN_add]
      have hin : zIn (zN (10 * (1 <<< a) + a)) 10240 := (zN_in (by omega)).mpr (by omega)
      have rel : Rel J := Rel_sc h (fun b hb => hfr b (by omega) (by omega)) ⟨fun b hb => d2 b (by omega), d2 82 (by decide), d2 94 (by decide), d2 95 (by decide), by rw [d2 73 (by decide)]⟩ (fun b k1 k2 => d2 b (by omega)) (fun i _ => by rw [d2 73 (by decide)])
      rcases (show t = 0 ∨ t = 1 by omega) with rfl | rfl
      · refine ⟨zN (m - 1), I1, J, ?_, ?_, rel⟩
        · unfold BM_walk
          rw [zbBench, ea, Option.bind_some, if_neg (by decide), zbi_0_1, eb, Option.bind_some, if_neg (by decide), hex, Option.bind_some, hlo, Option.bind_some, if_pos (show zN 0 = 0 from rfl)]
        · unfold Mo_walk
          rw [zmBench, ea, Option.bind_some, if_neg (by decide), zmi_0_1, eb, Option.bind_some, if_neg (by decide), show Mo_walk_L26 n (zN a) (zN 0) 1023 I1 = _ from d1, Option.bind_some, e10, if_pos hin, if_pos (show zN 0 = 0 from rfl), zN_tn (by omega), x1, hx]
      · have hF : ∀ i, (zAn (zRch (s 0) (1 <<< a) 9) (1 <<< a)).testBit i = true ↔ ((zRch (s 0) (1 <<< a) 9).testBit i = true ∧ (1 <<< a).testBit i = false) := by
          intro i
          rw [zAn_1i, z1_bit, decide_eq_false_iff_not]
        obtain ⟨r, r1, r2⟩ := ztw hwc1 hwmJ hR hcl b3 d3 (m - 1) (1 <<< a) a (zRch (s 0) (1 <<< a) 9) n n 0 (by omega) (by omega) h1lt ha10 hR (by rw [z1_bit, decide_eq_true_eq]) hRa c4.1 c4.2 hF
        refine ⟨r, I1, J, ?_, ?_, rel⟩
        · unfold BM_walk
          rw [zbBench, ea, Option.bind_some, if_neg (by decide), zbi_0_1, eb, Option.bind_some, if_neg (by decide), hex, Option.bind_some, hlo, Option.bind_some, if_neg (by decide)]
          unfold Wa_firstFrom_2
          rw [h59, r1, Option.bind_some, Option.bind_some]
        · unfold Mo_walk
          rw [zmBench, ea, Option.bind_some, if_neg (by decide), zmi_0_1, eb, Option.bind_some, if_neg (by decide), show Mo_walk_L26 n (zN a) (zN 1) 1023 I1 = _ from d1, Option.bind_some, e10, if_pos hin, if_neg (by decide), zN_tn (by omega), x1, hx, show zShl (1 : Int32) (zN a) = zN (1 <<< a) from zN_shl 1 (by omega), r2, Option.bind_some]
    · refine CO_bad h (r := -2) ?_ ?_
      · unfold BM_walk
        rw [zbBench, ea, Option.bind_some, if_neg (by decide), zbi_0_1, eb, Option.bind_some, if_pos (by decide)]
      · unfold Mo_walk
        rw [zmBench, ea, Option.bind_some, if_neg (by decide), zmi_0_1, eb, Option.bind_some, if_pos (by decide)]
  · refine CO_bad h (r := -1) ?_ ?_
    · unfold BM_walk
      rw [zbBench, ea, Option.bind_some, if_pos (by decide)]
    · unfold Mo_walk
      rw [zmBench, ea, Option.bind_some, if_pos (by decide)]
