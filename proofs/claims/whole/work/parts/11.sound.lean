/-! THE INTERPRETER IS SOUND: what it answers, the machine answers -/
def zCx (p : Program) (s : State) (m : MethodId) (args : Array Value) (meth : Method) (c : Code) (D : va_G) (cI cZ : ClassId) (A : Nat → Prop) (M : Nat) : Prop :=
  p.tables.exec = Jvm.exec ∧ c.code = zBy M ∧ c.maxLocals = zMl M ∧ s.vm.findClass (zOn (zOw M)) = some m.cls ∧ (∀ w ∈ zZW, w.before args s = true) ∧ zNK s ∧ va_K D zcls (zTys cI cZ) s ∧ meth.sig.returnType = zRt M ∧ meth.locks = false ∧ (zKd M = 2 → meth.name = "<init>") ∧ (∀ q, s.heap.size ≤ q → A q)
def zG (D : va_G) (cI cZ : ClassId) (A : Nat → Prop) (b : Nat) (s : State) (σ : List Nat) (h : zH) (H : Heap) (locs : List Loc) : Prop :=
  va_P D zcls (zWl cI cZ b σ h) H ∧ va_D A (zWl cI cZ b σ h) ∧ va_S A s.heap H locs ∧ σ.length = h.1.length
def zXs (A : Nat → Prop) (b : Nat) (s : State) : zX → Prop
  | none => True
  | some (L, g) => va_X b L g s s.heap ∧ b < s.heap.size ∧ ¬ A b
def zFin (M pc : Nat) (v : Option Value) : Prop := match v with
  | none => decode (zBy M) pc = .ok (.return_, 1) ∧ zRt M = none
  | some (.int x) => decode (zBy M) pc = .ok (.ireturn, 1) ∧ (zRt M = some .int ∨ zRt M = some .boolean ∧ (x = 0 ∨ x = 1))
  | some (.long _) => decode (zBy M) pc = .ok (.lreturn, 1) ∧ zRt M = some .long
  | _ => False
def zEn (p : Program) (l : Launch) (e : Env) (R : Room) (s : State) (m : MethodId) (args : Array Value) (below : List Frame) (meth : Method) (c : Code) (Q : State → Prop) (D : va_G) (cI cZ : ClassId) (A : Nat → Prop) (b M tc ts : Nat) (σ : List Nat) (v : Option Value) (h' : zH) : Prop :=
  ∀ (σ' : List Nat) (H' : Heap) (locs' : List Loc) (pc : Nat) (ls' : Array Slot), zG D cI cZ A b s σ' h' H' locs' → σ <+: σ' → zFin M pc v → W p l e R s m args below meth c H' locs' tc ts Q (F0 m pc ls' v.toList)
def zWst (l : Launch) (D : va_G) (cI cZ : ClassId) (n : Nat) : Prop :=
  ∀ (p : Program) (e : Env) (R : Room) (s : State) (m : MethodId) (args : Array Value) (below : List Frame) (meth : Method) (c : Code) (Q : State → Prop) (A : Nat → Prop) (b M tc ts : Nat) (xs : zX) (d : Nat) (f : zFr) (h h' : zH) (v : Option Value) (σ : List Nat) (H : Heap) (locs : List Loc) (cells slots : Nat) (ls : Array Slot),
    zrun xs n d M f h = some (v, h') → zCx p s m args meth c D cI cZ A M → d ≤ R.frames → 42 * d ≤ R.locals → tc ≤ R.cells → ts ≤ R.slots → cells + h'.1.length = tc + h.1.length → slots + zSl h' = ts + zSl h →
    zG D cI cZ A b s σ h H locs → zXs A b s xs → zLc b σ (zMl M) f.2.1 ls → zEn p l e R s m args below meth c Q D cI cZ A b M tc ts σ v h' →
    W p l e R s m args below meth c H locs cells slots Q (F0 m f.1 ls (f.2.2.map (zVal b σ)))
/-- a method's contract, out of its run -/
theorem z_met {l : Launch} {D : va_G} {cI cZ : ClassId} {n : Nat} (hn : zWst l D cI cZ n) {N d : Nat} {vs : List Value} {h h' : zH} {v : Option Value} (hk : zKd N ≤ 2) (hi : zKd N = 2 → (zYn N).name = "<init>") (hL : (zArgs vs).length ≤ zMl N) (hr : zrun none n d N (zEnt (zMl N) vs) h = some (v, h')) (b : Nat) (σ : List Nat) (sz : Nat) (hσ : σ.length = h.1.length) :
    Met l (zYn N) (zWs N) { frames := d, cells := h'.1.length - h.1.length, slots := zSl h' - zSl h, locals := 42 * d } (zPre D cI cZ b vs σ h sz) (zQc D cI cZ b σ h' v (va_A (zWl cI cZ b σ h) sz)) (h'.1.length - h.1.length) (zSl h' - zSl h) (va_A (zWl cI cZ b σ h) sz) := by
  obtain ⟨hy, hown0, -, -, -⟩ := zHd hk
  refine Met.ofW (cc := zBy N) (maxL := zMl N) (ret := zRt N) hy rfl ?_
  intro p e s m args below meth c s₁ B hml hv
  obtain ⟨rfl, hsz, hP, hK, hD0, hNK⟩ := hv
  have hts := atoms_spec (ws := zWs N) B.pre
  subst hsz
  have hD := hD0.self (sz := s.heap.size)
  have hmo := zrun_mono n hr
  have e1 : entryFrame m ((vs.map (zVal b σ)).toArray) (zMl N) = F0 m 0 ((lg_sl (vs.map (zVal b σ)) ++ List.replicate (zMl N - (lg_sl (vs.map (zVal b σ))).length) Slot.unset).toArray) [] := lg_entry_eq _ _ _
  rw [e1]
  refine hn p e _ s m _ below meth c _ (va_A (zWl cI cZ b σ h) s.heap.size) b N (h'.1.length - h.1.length) (zSl h' - zSl h) none d (zEnt (zMl N) vs) h h' v σ s.heap [] 0 0 _ hr ?_ (Nat.le_refl _) (Nat.le_refl _) (Nat.le_refl _) (Nat.le_refl _) ?_ ?_ ⟨hP, hD, va_S.rf, hσ⟩ trivial (zLc_entry hL) ?_
  · refine ⟨B.exec, B.bytes, hml, ?_, fun w hw => hts w (List.mem_cons_of_mem _ hw), hNK, hK, B.returns, B.notSynchronized, fun h2 => ?_, fun q hq => Or.inr hq⟩
    · rw [← hown0]
      exact findClass_of_methodNamed B.named
    · rw [(name_of_methodNamed B.named B.method).1]
      exact hi h2
  · have := hmo.1
    omega
  · have := hmo.2
    omega
  · intro σ' H' locs' pc ls' hG hp hf
    obtain ⟨hP', hD', hS', hl'⟩ := hG
    have post : ∀ t : State, t.heap = H' → zQc D cI cZ b σ h' v (va_A (zWl cI cZ b σ h) s.heap.size) (vs.map (zVal b σ)).toArray s (.returned v) t := fun t ht => ⟨⟨σ', rfl, hp, hl', by rw [ht]; exact hP', hD'⟩, hS'.F ht⟩
    match v, hf, post with
    | none, hf, post => exact W.vret B.exec B.bytes (B.returns.trans hf.2) (fun t ht _ => post t ht) hS'.2.2 hf.1 B.notSynchronized
    | some (.int x), hf, post =>
      obtain ⟨hd, hr2⟩ := hf
      rcases hr2 with hr2 | ⟨hr2, hx⟩
      · exact W.iret B.exec B.bytes (B.returns.trans hr2) (fun t ht _ => post t ht) hS'.2.2 hd B.notSynchronized
      · exact W.zret B.exec B.bytes (B.returns.trans hr2) (by rcases hx with rfl | rfl <;> decide +kernel) (fun t ht _ => post t ht) hS'.2.2 hd B.notSynchronized
    | some (.long x), hf, post => exact W.lret B.exec B.bytes (B.returns.trans hf.2) (fun t ht _ => post t ht) hS'.2.2 hf.1 B.notSynchronized
/-- behind a call -/
theorem z_call {p : Program} {l : Launch} {e : Env} {R : Room} {s : State} {m : MethodId} {args : Array Value} {below : List Frame} {meth : Method} {c : Code} {Q : State → Prop} {H : Heap} {locs : List Loc} {cells slots mc ms pc : Nat} {ls : Array Slot} {st0 rest : List Value} {D : va_G} {cI cZ : ClassId} {A A1 : Nat → Prop} {b : Nat} {σ : List Nat} {h' : zH} {v : Option Value} {a : Array Value} {free : Addr → Prop}
    (hr : va_Run p l e R s m args below meth c H locs cells slots mc ms (F0 m pc ls st0) rest (zQc D cI cZ b σ h' v A1 a) free) (hS : va_S A s.heap H locs) (hA : ∀ q, A1 q → A q) (hf : ∀ q, free q → A q)
    (kk : ∀ (σ' : List Nat) (H1 : Heap) (locs1 : List Loc), zG D cI cZ A b s σ' h' H1 locs1 → σ <+: σ' → W p l e R s m args below meth c H1 locs1 (cells + mc) (slots + ms) Q (F0 m (pc + 3) ls (v.toList ++ rest))) :
    W p l e R s m args below meth c H locs cells slots Q (F0 m pc ls st0) := by
  intro T hT X
  obtain ⟨v0, st₀, t, T', L, h0, X', hL, e1, e2, ⟨⟨σ', hv, hp, hl, hP, hD⟩, hz, hk⟩, st⟩ := hr T hT X
  cases hv
  rw [h0] at hz hk
  obtain ⟨t2, a1, b1⟩ := kk σ' T'.heap (locs ++ L) ⟨by rw [e1]; exact hP, hD.weaken (fun _ _ _ q => hA _ q),
    ⟨Nat.le_trans hS.1 (by rw [e1]; exact hz), fun q h1 h2 => by rw [e1, hk q (Nat.lt_of_lt_of_le h1 hS.1) (fun z => h2 (hA q z))]; exact hS.2.1 q h1 h2, fun q hq => by
      rcases List.mem_append.mp hq with h | h
      · exact hS.2.2 q h
      · exact hf _ (hL q h)⟩, hl⟩ hp T' rfl X'
  exact ⟨t2, st t2 a1, b1⟩
theorem z_frA {A : Nat → Prop} {cI cZ : ClassId} {b : Nat} {σ : List Nat} {h : zH} {s : State} {H : Heap} {locs : List Loc} (hD : va_D A (zWl cI cZ b σ h)) (hS : va_S A s.heap H locs) (hA : ∀ q, s.heap.size ≤ q → A q) : ∀ q, va_A (zWl cI cZ b σ h) H.size q → A q := by
  intro q hq
  rcases hq with ⟨k, e, hk⟩ | hq
  · exact hD.2 k (q, e) hk
  · exact hA q (Nat.le_trans hS.1 hq)
