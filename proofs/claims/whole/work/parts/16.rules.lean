/-! rules for walking the interpreter -/
theorem zEv_ret {xs : zX} {d M : Nat} {f : zFr} {h h' : zH} {v : Option Value} (k : Nat) (hb : ∀ n, zrun xs (n + k) d M f h = some (v, h')) : zEv xs d M f h v h' := ⟨0 + k, hb 0⟩
theorem zEv_go {xs : zX} {d M : Nat} {f f1 : zFr} {h h1 h' : zH} {v : Option Value} (k : Nat) (hb : ∀ n, zrun xs (n + k) d M f h = zrun xs n d M f1 h1) (kk : zEv xs d M f1 h1 v h') : zEv xs d M f h v h' := by
  obtain ⟨n, hn⟩ := kk
  exact ⟨n + k, (hb n).trans hn⟩
theorem zEv_if {xs : zX} {d M : Nat} {f f1 f2 : zFr} {h h1 h' : zH} {v : Option Value} (k : Nat) {c : Prop} [Decidable c] (hb : ∀ n, zrun xs (n + k) d M f h = if c then zrun xs n d M f1 h1 else zrun xs n d M f2 h1) (k1 : c → zEv xs d M f1 h1 v h') (k2 : ¬ c → zEv xs d M f2 h1 v h') : zEv xs d M f h v h' := by
  by_cases hc : c
  · obtain ⟨n, hn⟩ := k1 hc
    exact ⟨n + k, (hb n).trans ((if_pos hc).trans hn)⟩
  · obtain ⟨n, hn⟩ := k2 hc
    exact ⟨n + k, (hb n).trans ((if_neg hc).trans hn)⟩
theorem zEv_gd {xs : zX} {d M : Nat} {f f1 : zFr} {h h1 h' : zH} {v : Option Value} (k : Nat) {c : Prop} [Decidable c] (hb : ∀ n, zrun xs (n + k) d M f h = if c then zrun xs n d M f1 h1 else none) (hc : c) (k1 : zEv xs d M f1 h1 v h') : zEv xs d M f h v h' := by
  obtain ⟨n, hn⟩ := k1
  exact ⟨n + k, (hb n).trans ((if_pos hc).trans hn)⟩
theorem zEv_rt {xs : zX} {d M : Nat} {f : zFr} {h h' : zH} {v : Option Value} (k : Nat) {c : Prop} [Decidable c] (hb : ∀ n, zrun xs (n + k) d M f h = if c then some (v, h') else none) (hc : c) : zEv xs d M f h v h' := ⟨0 + k, (hb 0).trans (if_pos hc)⟩
theorem zGd_inv {α : Type} {c : Prop} [Decidable c] {a : Option α} {r : α} (h : (if c then a else none) = some r) : c ∧ a = some r := by
  by_cases hc : c
  · rw [if_pos hc] at h
    exact ⟨hc, h⟩
  · rw [if_neg hc] at h
    cases h
/-- more steps -/
theorem zdo_imp {xs : zX} {d o M : Nat} {K K' : zFr → zH → zR} {C C' : Nat → List Value → zH → (Option Value → zH → zR) → zR} {i : Instr} {len pc : Nat} {L : List (Option Value)} {st : List Value} {h : zH} {R : Option Value × zH}
    (hK : ∀ f h1 R, K f h1 = some R → K' f h1 = some R) (hC : ∀ N vs h1 k k' R, (∀ v h2 R, k v h2 = some R → k' v h2 = some R) → C N vs h1 k = some R → C' N vs h1 k' = some R)
    (hr : zdo xs d o M K C i len pc L st h = some R) : zdo xs d o M K' C' i len pc L st h = some R := by
  sorry
theorem zrun_more {xs : zX} : ∀ (n k : Nat) {d M : Nat} {f : zFr} {h : zH} {R : Option Value × zH}, zrun xs n d M f h = some R → zrun xs (n + k) d M f h = some R := by
  sorry
/-- what isn't told of the locals -/
def zLw : List (Option Value) → List (Option Value) → Prop
  | [], [] => True
  | none :: t, _ :: t' => zLw t t'
  | some v :: t, some v' :: t' => v = v' ∧ zLw t t'
  | _, _ => False
theorem zEv_weak {xs : zX} {d M pc : Nat} {L L' : List (Option Value)} {st : List Value} {h h' : zH} {v : Option Value} (hl : zLw L L') (kk : zEv xs d M (pc, L, st) h v h') : zEv xs d M (pc, L', st) h v h' := by
  sorry
theorem zEv_call {xs : zX} {d M N : Nat} {f : zFr} {h h1 h' : zH} {L : List (Option Value)} {vs rest : List Value} {v v1 : Option Value} {pc : Nat} (k : Nat)
    (hb : ∀ n, zrun xs (n + k) (d + 1) M f h = (match zrun none n d N (zEnt (zMl N) vs) h with
      | some (v, h') => zKeep h h' L rest v (zrun xs n (d + 1) M (pc, L, v.toList ++ rest) h')
      | none => none)) (hc : zCall d N vs h v1 h1) (hv : zNr v1 = true) (hl : h1.1.length = h.1.length) (kk : zEv xs (d + 1) M (pc, L, v1.toList ++ rest) h1 v h') : zEv xs (d + 1) M f h v h' := by
  obtain ⟨n1, hn1⟩ := hc
  obtain ⟨n2, hn2⟩ := kk
  refine ⟨n1 + n2 + k, (hb _).trans ?_⟩
  have e1 := zrun_more n1 n2 hn1
  have e2 := zrun_more n2 n1 hn2
  rw [Nat.add_comm n2 n1] at e2
  rw [e1]
  show zKeep h h1 L rest v1 (zrun xs (n1 + n2) (d + 1) M (pc, L, v1.toList ++ rest) h1) = _
  unfold zKeep zGo
  rw [if_pos hv, if_pos hl, e2]
abbrev zIn (i : Int32) (n : Nat) : Prop := ¬ (i < 0 ∨ n ≤ i.toNatClampNeg)
def zRem (x y : Int32) : Int32 := x - x / y * y
def zShl (x y : Int32) : Int32 := x <<< (y &&& 31)
def zShr (x y : Int32) : Int32 := x >>> (y &&& 31)
def zUsh (x y : Int32) : Int32 := (x.toUInt32 >>> (y.toUInt32 &&& Int32.toUInt32 31)).toInt32
def zLrem (x y : Int64) : Int64 := x - x / y * y
def zLshl (x : Int64) (y : Int32) : Int64 := x <<< (y.toInt64 &&& 63)
def zLush (x : Int64) (y : Int32) : Int64 := (x.toUInt64 >>> (y.toInt64.toUInt64 &&& Int64.toUInt64 63)).toInt64
theorem zEv_tsk {xs : zX} {d M pc len : Nat} {L : List (Option Value)} {r : List Value} {h h' : zH} {v : Option Value} {df lo hi : Int} {offs : Array Int} {x : Int32} {off : Int} {t : Nat} (k : Int) (hz : zin M pc = some (.tableswitch df lo hi offs, len)) (hx : x = Int32.ofInt k) (h1 : ¬ ((Int32.ofInt k).toInt < lo ∨ hi < (Int32.ofInt k).toInt)) (h2 : offs[((Int32.ofInt k).toInt - lo).toNat]? = some off) (ht : (pc : Int) + off = .ofNat t) (kk : zEv xs d M (t, L, r) h v h') : zEv xs d M (pc, L, .int x :: r) h v h' := by
  subst hx
  obtain ⟨n, hn⟩ := kk
  refine ⟨n + 1, ?_⟩
  unfold zrun
  simp only [hz]
  unfold zdo
  simp only [zI1]
  rw [if_neg h1, h2]
  simp only [zTo]
  rw [ht]
  exact hn
theorem zEv_tsd {xs : zX} {d M pc len : Nat} {L : List (Option Value)} {r : List Value} {h h' : zH} {v : Option Value} {df lo hi : Int} {offs : Array Int} {x : Int32} {t : Nat} (hz : zin M pc = some (.tableswitch df lo hi offs, len)) (h1 : x.toInt < lo ∨ hi < x.toInt) (ht : (pc : Int) + df = .ofNat t) (kk : zEv xs d M (t, L, r) h v h') : zEv xs d M (pc, L, .int x :: r) h v h' := by
  obtain ⟨n, hn⟩ := kk
  refine ⟨n + 1, ?_⟩
  unfold zrun
  simp only [hz]
  unfold zdo
  simp only [zI1]
  rw [if_pos h1]
  simp only [zTo]
  rw [ht]
  exact hn
theorem zEv_ls {xs : zX} {d M pc len : Nat} {L : List (Option Value)} {r : List Value} {h h' : zH} {v : Option Value} {df : Int} {ps : Array (Int × Int)} {x : Int32} {off : Int} {t : Nat} (hz : zin M pc = some (.lookupswitch df ps, len)) (hp : (ps.toList.zip (ps.toList.drop 1)).all (fun (a, next) => a.1 < next.1) = true) (ho : Op.lookupswitch.offset ps.toList df x.toInt = off) (ht : (pc : Int) + off = .ofNat t) (kk : zEv xs d M (t, L, r) h v h') : zEv xs d M (pc, L, .int x :: r) h v h' := by
  obtain ⟨n, hn⟩ := kk
  refine ⟨n + 1, ?_⟩
  unfold zrun
  simp only [hz]
  unfold zdo
  simp only [zI1]
  unfold zGo
  rw [if_pos hp, ho]
  simp only [zTo]
  rw [ht]
  exact hn
theorem zNt {x : Int32} {k : Int} (h : ¬ x = Int32.ofInt k) (hk : (Int32.ofInt k).toInt = k) : ¬ x.toInt = k := fun q => h (Int32.toInt_inj.mp (q.trans hk.symm))
