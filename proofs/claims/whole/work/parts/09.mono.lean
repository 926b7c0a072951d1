theorem zI1_inv {st : List Value} {k : Int32 → List Value → zR} {R : Option Value × zH} (h : zI1 st k = some R) : ∃ x r, st = .int x :: r ∧ k x r = some R := by
  unfold zI1 at h
  split at h
  · exact ⟨_, _, rfl, h⟩
  · cases h
theorem zI2_inv {st : List Value} {k : Int32 → Int32 → List Value → zR} {R : Option Value × zH} (h : zI2 st k = some R) : ∃ x y r, st = .int y :: .int x :: r ∧ k x y r = some R := by
  unfold zI2 at h
  split at h
  · exact ⟨_, _, _, rfl, h⟩
  · cases h
theorem zJ1_inv {st : List Value} {k : Int64 → List Value → zR} {R : Option Value × zH} (h : zJ1 st k = some R) : ∃ x r, st = .long x :: r ∧ k x r = some R := by
  unfold zJ1 at h
  split at h
  · exact ⟨_, _, rfl, h⟩
  · cases h
theorem zJ2_inv {st : List Value} {k : Int64 → Int64 → List Value → zR} {R : Option Value × zH} (h : zJ2 st k = some R) : ∃ x y r, st = .long y :: .long x :: r ∧ k x y r = some R := by
  unfold zJ2 at h
  split at h
  · exact ⟨_, _, _, rfl, h⟩
  · cases h
theorem zA1_inv {st : List Value} {k : Nat → List Value → zR} {R : Option Value × zH} (h : zA1 st k = some R) : ∃ a r, st = .ref a :: r ∧ k a r = some R := by
  unfold zA1 at h
  split at h
  · exact ⟨_, _, rfl, h⟩
  · cases h
theorem zTo_inv {pc : Nat} {off : Int} {k : Nat → zR} {R : Option Value × zH} (h : zTo pc off k = some R) : ∃ t : Nat, (pc : Int) + off = (t : Int) ∧ k t = some R := by
  unfold zTo at h
  split at h
  · rename_i t ht
    exact ⟨t, ht, h⟩
  · cases h
theorem zGo_inv {c : Prop} [Decidable c] {k : zR} {R : Option Value × zH} (h : zGo c k = some R) : c ∧ k = some R := by
  unfold zGo at h
  split at h
  · rename_i hc
    exact ⟨hc, h⟩
  · cases h
theorem zCp_inv {o i kind : Nat} {k : Nat → Nat → Int → zR} {R : Option Value × zH} (h : zCp o i kind k = some R) : ∃ a b c, zcp o i = some (kind, a, b, c) ∧ k a b c = some R := by
  unfold zCp at h
  split at h
  · rename_i q a b c hq
    split at h
    · rename_i he
      subst he
      exact ⟨a, b, c, hq, h⟩
    · cases h
  · cases h
theorem zLI_inv {L : List (Option Value)} {i : Nat} {k : Int32 → zR} {R : Option Value × zH} (h : zLI L i k = some R) : ∃ x, L[i]? = some (some (.int x)) ∧ k x = some R := by
  unfold zLI at h
  split at h
  · rename_i x hx
    exact ⟨x, hx, h⟩
  · cases h
theorem zLJ_inv {L : List (Option Value)} {i : Nat} {k : Int64 → zR} {R : Option Value × zH} (h : zLJ L i k = some R) : ∃ x, L[i]? = some (some (.long x)) ∧ k x = some R := by
  unfold zLJ at h
  split at h
  · rename_i x hx
    exact ⟨x, hx, h⟩
  · cases h
theorem zLA_inv {L : List (Option Value)} {i : Nat} {k : Nat → zR} {R : Option Value × zH} (h : zLA L i k = some R) : ∃ x, L[i]? = some (some (.ref x)) ∧ k x = some R := by
  unfold zLA at h
  split at h
  · rename_i x hx
    exact ⟨x, hx, h⟩
  · cases h
theorem zKeep_inv {h h' : zH} {L : List (Option Value)} {st : List Value} {v : Option Value} {k : zR} {R : Option Value × zH} (hr : zKeep h h' L st v k = some R) : (zNr v = true ∧ (h'.1.length = h.1.length ∨ zVs h.1.length L st = true)) ∧ k = some R := by
  unfold zKeep at hr
  obtain ⟨hv, hr⟩ := zGo_inv hr
  split at hr
  · rename_i he
    exact ⟨⟨hv, Or.inl he⟩, hr⟩
  · obtain ⟨a, b⟩ := zGo_inv hr
    exact ⟨⟨hv, Or.inr a⟩, b⟩
theorem zCnd_inv {c : Jvm.ClassFile.Cond} {x y : Int32} {k1 k2 : zR} {R : Option Value × zH} (h : zCnd c x y k1 k2 = some R) : k1 = some R ∨ k2 = some R := by
  unfold zCnd at h
  split at h <;> split at h <;> first | exact Or.inl h | exact Or.inr h
def zSl (h : zH) : Nat := (h.1.map fun q => q.2.2).sum
def zLe (h h' : zH) : Prop := h.1.length ≤ h'.1.length ∧ zSl h ≤ zSl h'
theorem zLe.rf {h : zH} : zLe h h := ⟨Nat.le_refl _, Nat.le_refl _⟩
theorem zLe.tr {a b c : zH} (h1 : zLe a b) (h2 : zLe b c) : zLe a c := ⟨Nat.le_trans h1.1 h2.1, Nat.le_trans h1.2 h2.2⟩
theorem zLe.same {h h1 h' : zH} (e : h1.1 = h.1) (k : zLe h1 h') : zLe h h' := by
  unfold zLe zSl at *
  rw [e] at k
  exact k
theorem zSl_push {h : zH} {sh : Nat × Nat × Nat} {F : zRl} {G : Nat → Nat → Int32} : zSl (h.1 ++ [sh], F, G) = zSl h + sh.2.2 := by
  unfold zSl
  simp
theorem zLe.push {h h' : zH} {sh : Nat × Nat × Nat} {F : zRl} {G : Nat → Nat → Int32} (k : zLe (h.1 ++ [sh], F, G) h') : zLe h h' := by
  unfold zLe at *
  rw [zSl_push] at k
  simp only [List.length_append, List.length_cons, List.length_nil] at k
  omega
set_option maxHeartbeats 4000000 in
theorem zdo_mono {xs : zX} {d o M : Nat} {K : zFr → zH → zR} {C : Nat → List Value → zH → (Option Value → zH → zR) → zR} {i : Instr} {len pc : Nat} {L : List (Option Value)} {st : List Value} {h h' : zH} {v : Option Value}
    (hK : ∀ f h1, K f h1 = some (v, h') → zLe h1 h') (hC : ∀ N vs h1 k, C N vs h1 k = some (v, h') → ∃ v1 h2, zLe h1 h2 ∧ k v1 h2 = some (v, h'))
    (hr : zdo xs d o M K C i len pc L st h = some (v, h')) : zLe h h' := by
  unfold zdo at hr
  split at hr
  all_goals first
    | (obtain ⟨_, _, hr⟩ := zLI_inv hr; exact hK _ _ hr)
    | (obtain ⟨_, _, hr⟩ := zLJ_inv hr; exact hK _ _ hr)
    | (obtain ⟨_, _, hr⟩ := zLA_inv hr; exact hK _ _ hr)
    | exact hK _ _ hr
    | (obtain ⟨_, _, _, _, hr⟩ := zCp_inv hr; exact hK _ _ hr)
    | (obtain ⟨_, _, _, hr⟩ := zI1_inv hr; obtain ⟨_, hr⟩ := zGo_inv hr; exact hK _ _ hr)
    | (obtain ⟨_, _, _, hr⟩ := zA1_inv hr; obtain ⟨_, hr⟩ := zGo_inv hr; exact hK _ _ hr)
    | (obtain ⟨_, _, _, hr⟩ := zJ1_inv hr; obtain ⟨_, hr⟩ := zGo_inv hr; exact hK _ _ hr)
    | (obtain ⟨_, _, hr⟩ := zTo_inv hr; exact hK _ _ hr)
    | (obtain ⟨_, _, _, _, hr⟩ := zI2_inv hr; obtain ⟨_, _, hr⟩ := zTo_inv hr; rcases zCnd_inv hr with hr | hr <;> exact hK _ _ hr)
    | (obtain ⟨_, _, _, hr⟩ := zI1_inv hr; obtain ⟨_, _, hr⟩ := zTo_inv hr; rcases zCnd_inv hr with hr | hr <;> exact hK _ _ hr)
    | (obtain ⟨_, _, _, hr⟩ := zA1_inv hr; exact hK _ _ hr)
    | (obtain ⟨_, _, _, hr⟩ := zA1_inv hr; obtain ⟨_, _, hr⟩ := zTo_inv hr; exact hK _ _ hr)
    | (obtain ⟨_, _, _, hr⟩ := zI1_inv hr; obtain ⟨_, hr⟩ := zGo_inv hr; obtain ⟨_, _, hr⟩ := zTo_inv hr; exact hK _ _ hr)
    | (obtain ⟨_, _, _, _, hr⟩ := zI2_inv hr; exact hK _ _ hr)
    | (obtain ⟨_, _, _, _, hr⟩ := zJ2_inv hr; exact hK _ _ hr)
    | (obtain ⟨_, _, _, _, hr⟩ := zI2_inv hr; obtain ⟨_, hr⟩ := zGo_inv hr; exact hK _ _ hr)
    | (obtain ⟨_, _, _, _, hr⟩ := zJ2_inv hr; obtain ⟨_, hr⟩ := zGo_inv hr; exact hK _ _ hr)
    | (obtain ⟨_, _, _, hr⟩ := zI1_inv hr; obtain ⟨_, _, _, hr⟩ := zJ1_inv hr; exact hK _ _ hr)
    | (obtain ⟨_, _, _, hr⟩ := zI1_inv hr; exact hK _ _ hr)
    | (obtain ⟨_, _, _, hr⟩ := zJ1_inv hr; exact hK _ _ hr)
    | (cases hr; done)
    | skip
  · obtain ⟨_, _, _, hr⟩ := zI1_inv hr
    split at hr
    · obtain ⟨_, _, hr⟩ := zTo_inv hr
      exact hK _ _ hr
    · split at hr
      · obtain ⟨_, _, hr⟩ := zTo_inv hr
        exact hK _ _ hr
      · cases hr
  · split at hr
    · exact hK _ _ (zGo_inv hr).2
    · cases hr
  · split at hr
    · exact hK _ _ (zGo_inv hr).2
    · cases hr
  · obtain ⟨_, _, _, hr⟩ := zA1_inv hr
    obtain ⟨_, _, _, _, hr⟩ := zCp_inv hr
    split at hr
    · obtain ⟨_, hr⟩ := zGo_inv hr
      split at hr
      · exact hK _ _ hr
      · exact hK _ _ hr
      · cases hr
    · cases hr
  · split at hr
    · obtain ⟨_, _, _, _, hr⟩ := zCp_inv hr
      split at hr
      · obtain ⟨_, hr⟩ := zGo_inv hr
        split at hr
        · have q := hK _ _ hr; exact q
        · have q := hK _ _ (zGo_inv hr).2; exact q
        · cases hr
      · cases hr
    · obtain ⟨_, _, _, _, hr⟩ := zCp_inv hr
      split at hr
      · obtain ⟨_, hr⟩ := zGo_inv hr
        split at hr
        · have q := hK _ _ (zGo_inv hr).2; exact q
        · cases hr
      · cases hr
    · cases hr
  · obtain ⟨_, _, _, hr⟩ := zI1_inv hr
    obtain ⟨_, _, _, hr⟩ := zA1_inv hr
    split at hr
    · exact hK _ _ (zGo_inv hr).2
    · cases hr
    · split at hr
      · exact hK _ _ (zGo_inv hr).2
      · cases hr
  · obtain ⟨_, _, _, hr⟩ := zI1_inv hr
    obtain ⟨_, _, _, hr⟩ := zA1_inv hr
    split at hr
    · exact hK _ _ (zGo_inv hr).2
    · cases hr
  · obtain ⟨_, _, _, _, hr⟩ := zI2_inv hr
    obtain ⟨_, _, _, hr⟩ := zA1_inv hr
    split at hr
    · have q := hK _ _ (zGo_inv hr).2; exact q
    · cases hr
  · obtain ⟨_, _, _, _, hr⟩ := zI2_inv hr
    obtain ⟨_, _, _, hr⟩ := zA1_inv hr
    split at hr
    · have q := hK _ _ (zGo_inv hr).2; exact q
    · cases hr
  · obtain ⟨_, _, _, hr⟩ := zA1_inv hr
    split at hr
    · exact hK _ _ hr
    · cases hr
    · split at hr
      · exact hK _ _ hr
      · cases hr
  · obtain ⟨_, _, _, hr⟩ := zI1_inv hr
    split at hr
    · exact zLe.push (hK _ _ (zGo_inv hr).2)
    · exact zLe.push (hK _ _ (zGo_inv hr).2)
    · cases hr
  · obtain ⟨_, _, _, _, hr⟩ := zCp_inv hr
    exact zLe.push (hK _ _ (zGo_inv hr).2)
  · split at hr
    · obtain ⟨_, hr⟩ := zGo_inv hr
      obtain ⟨_, _, h1, hr⟩ := hC _ _ _ _ hr
      exact h1.tr (hK _ _ (zKeep_inv hr).2)
    · split at hr
      · split at hr
        · have q := hK _ _ (zGo_inv hr).2; exact q
        · cases hr
      · cases hr
    · obtain ⟨_, _, _, _, hr⟩ := zI2_inv hr
      exact hK _ _ (zGo_inv hr).2
    · obtain ⟨_, _, _, _, hr⟩ := zI2_inv hr
      exact hK _ _ (zGo_inv hr).2
    · obtain ⟨_, _, _, _, hr⟩ := zJ2_inv hr
      exact hK _ _ (zGo_inv hr).2
    · cases hr
  · obtain ⟨_, _, _, _, hr⟩ := zCp_inv hr
    split at hr
    · split at hr
      · obtain ⟨_, hr⟩ := zGo_inv hr
        obtain ⟨_, _, h1, hr⟩ := hC _ _ _ _ hr
        exact h1.tr (hK _ _ (zKeep_inv hr).2)
      · cases hr
    · cases hr
  · split at hr
    · split at hr
      · obtain ⟨_, hr⟩ := zGo_inv hr
        obtain ⟨_, _, h1, hr⟩ := hC _ _ _ _ hr
        exact h1.tr (hK _ _ (zKeep_inv hr).2)
      · cases hr
    · split at hr
      · exact hK _ _ (zGo_inv hr).2
      · cases hr
    · cases hr
  · split at hr
    · split at hr
      · cases hr
        exact zLe.rf
      · cases (zGo_inv hr).2
        exact zLe.rf
      · cases hr
    · cases hr
  · split at hr
    · cases (zGo_inv hr).2
      exact zLe.rf
    · cases hr
  · split at hr
    · cases (zGo_inv hr).2
      exact zLe.rf
    · cases hr
theorem zrun_mono : ∀ (n : Nat) {xs : zX} {d M : Nat} {f : zFr} {h h' : zH} {v : Option Value}, zrun xs n d M f h = some (v, h') → zLe h h'
  | 0, xs, d, M, f, h, h', v, hr => by cases hr
  | n + 1, xs, d, M, f, h, h', v, hr => by
    unfold zrun at hr
    split at hr
    · cases hr
    · refine zdo_mono (fun f h1 hk => zrun_mono n hk) (fun N vs h1 k hk => ?_) hr
      cases d with
      | zero => cases hk
      | succ d =>
        obtain ⟨_, hk⟩ := zGo_inv hk
        split at hk
        · rename_i v1 h2 hz
          exact ⟨v1, h2, zrun_mono n hz, hk⟩
        · cases hk
