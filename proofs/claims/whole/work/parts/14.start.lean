/-! THE CLAIM OUT OF ONE WALK OF THE LAW'S BODY. Your part is whole_start (and what it stands on); all else here is the same for every law, but numbers. -/
def R_law : String := "BenchMemoriesLaw"
def lw_P (b : Addr) (xs : List Int32) (args : Array Value) (s : State) : Prop := args = #[.ref b] ∧ s.IntsAt b xs ∧ xs.length ≤ 2560 ∧ (Jvm.Cond.and given_1 narrow_1).before args s = true
def lw_Q (_ : Array Value) (s : State) (o : Outcome) (t : State) : Prop := o = .returned (some (.int 1)) ∧ Framed s o t [] 600000 7302250
def lw_Z (below : List Frame) (a : Array Value) (s : State) : State → Prop := fun t => ∃ o, t.status = .running ∧ Ended t below o ∧ lw_Q a s o t
/-- the law's own end, with 1 on the stack, nothing written that was there before, its room as the claim has it -/
theorem lw_ret {p : Program} {l : Launch} {e : Env} {s : State} {m : MethodId} {below : List Frame} {meth : Method} {c : Code} {b : Nat} (hx : p.tables.exec = Jvm.exec) (hb : c.code = code) (hr : meth.sig.returnType = ret) (hlocks : meth.locks = false) {pc : Nat} {H : Heap} {ls : Array Slot} (hdg : decode code pc = .ok (.ireturn, 1)) : W p l e room_1 s m #[Value.ref b] below meth c H [] 600000 7302250 (lw_Z below #[Value.ref b] s) (F0 m pc ls [.int 1]) := by
  intro T hT X
  obtain ⟨fs, hret, hrun, hended, hW, hframe⟩ := X.leave (v := some (.int 1)) (hlocks := hlocks) (fun h => by rw [hr] at h; cases h)
  have hmeth' : T.vm.method? m = some meth := X.method'
  refine ⟨T.setFrames fs, ?_, .returned (some (.int 1)), hrun, hended, rfl, ⟨_, rfl⟩, hW, hframe⟩
  jvm_step X.here [X.here.top, hx, hb, hdg, hmeth', hr, ret, narrow_b1]
  (try refine ⟨rfl, ?_⟩); (try refine ⟨rfl, ?_⟩)
  first | (intro acts; rw [hret _ acts rfl rfl rfl]) | rw [hret _ _ rfl rfl rfl]
  exact Steps.refl _
/-- what holds at the law's entry: the machine, the code, the tables' words (any of lw_tbl by 'hts w (by decide +kernel)'), the script of L ints xs at the cell b, what the Statement gives of the start (any of its parts by flat_of_before) -/
def lw_At (p : Program) (s : State) (m : MethodId) (meth : Method) (c : Code) (b L : Nat) (xs : Nat → Int32) : Prop :=
  p.tables.exec = Jvm.exec ∧ c.code = code ∧ meth.sig.returnType = ret ∧ c.maxLocals = 4 ∧ s.vm.findClass R_law = some m.cls ∧ (∀ w ∈ lw_tbl, w.before #[Value.ref b] s = true) ∧ va_X b L xs s s.heap ∧ b < s.heap.size ∧ meth.locks = false ∧ (Jvm.Cond.and given_1 narrow_1).before #[Value.ref b] s = true
theorem zbw {args : Array Value} {s : State} {ty : FieldType} (h : (Jvm.Cond.arrayClass ty).before args s = true) : ∃ cA : ClassId, ArrOfT s cA ty ∧ s.vm.findClass ("[" ++ ty.toString) = some cA := by
  obtain ⟨cA, kA, comp, h1, h2, h3⟩ := Cond.arrayClass_spec h
  exact ⟨cA, fun n z => ⟨fun k h => (by cases h), kA, h2, comp, h3⟩, h1⟩
def zh0 : zH := ([], [], fun _ _ => 0)
def zf0 : zFr := (0, [some (.ref 0), none, none, none], [])
def zLaw (L : Nat) (xs : Nat → Int32) : Prop := ∃ (n : Nat) (h' : zH), zrun (some (L, xs)) n 8 199 zf0 zh0 = some (some (.int 1), h') ∧ h'.1.length ≤ 600000 ∧ zSl h' ≤ 7302250
theorem zu_ok (ci : Nat) (q : vw_C) (h : zcls[ci]? = some q) : (∀ w ∈ u_ws q.1 q.2.1 q.2.2, w ∈ lw_tbl) ∧ Jvm.Cond.instantiable q.1 q.2.2 ∈ lw_tbl := by
  match ci, h with
  | 0, h => cases h; exact ⟨zu_0, List.mem_of_getElem? (i := 160) (by decide +kernel)⟩
  | 1, h => cases h; exact ⟨zu_1, List.mem_of_getElem? (i := 84) (by decide +kernel)⟩
  | 2, h => cases h; exact ⟨zu_2, List.mem_of_getElem? (i := 231) (by decide +kernel)⟩
  | 3, h => cases h; exact ⟨zu_3, List.mem_of_getElem? (i := 142) (by decide +kernel)⟩
  | 4, h => cases h; exact ⟨zu_4, List.mem_of_getElem? (i := 195) (by decide +kernel)⟩
  | 5, h => cases h; exact ⟨zu_5, List.mem_of_getElem? (i := 90) (by decide +kernel)⟩
  | 6, h => cases h; exact ⟨zu_6, List.mem_of_getElem? (i := 243) (by decide +kernel)⟩
  | 7, h => cases h; exact ⟨zu_7, List.mem_of_getElem? (i := 271) (by decide +kernel)⟩
  | 8, h => cases h; exact ⟨zu_8, List.mem_of_getElem? (i := 216) (by decide +kernel)⟩
  | 9, h => cases h; exact ⟨zu_9, List.mem_of_getElem? (i := 76) (by decide +kernel)⟩
  | 10, h => cases h; exact ⟨zu_10, List.mem_of_getElem? (i := 791) (by decide +kernel)⟩
  | n + 11, h => cases h
set_option maxHeartbeats 4000000 in
theorem z_start {p : Program} {e : Env} {s : State} {m : MethodId} {below : List Frame} {meth : Method} {c : Code} (l : Launch) {b L : Nat} {xs : Nat → Int32} (C0 : lw_At p s m meth c b L xs) (hr : zLaw L xs) : W p l e room_1 s m #[Value.ref b] below meth c s.heap [] 0 0 (lw_Z below #[Value.ref b] s) (entryFrame m ([Value.ref b] : List Value).toArray 4) := by
  obtain ⟨hx, hb, hret, hml, hown, hts, hX, hbl, hlocks, hgv⟩ := id C0
  obtain ⟨n, h', hrun, hn1, hn2⟩ := hr
  have hkn : ∀ k : Nat, ∃ (cC : ClassId) (iS : Nat → Nat), ∀ q : vw_C, zcls[k]? = some q → u_Kn s q.1 q.2.1 q.2.2 cC iS := by
    intro k
    cases hk : zcls[k]? with
    | none => exact ⟨0, fun _ => 0, fun q hq => by cases hq⟩
    | some q =>
      obtain ⟨h1, h2⟩ := zu_ok k q hk
      obtain ⟨cC, iS, h3⟩ := u_known hts h1 (hts _ h2)
      exact ⟨cC, iS, fun q2 hq => by cases hq; exact h3⟩
  obtain ⟨cI, hI1, hI2⟩ := zbw (hts _ zarr_i)
  obtain ⟨cZ, hZ1, hZ2⟩ := zbw (hts _ zarr_z)
  have hK : va_K (fun k => Classical.choose (hkn k), fun k => Classical.choose (Classical.choose_spec (hkn k))) zcls (zTys cI cZ) s := by
    refine ⟨fun k q hq => Classical.choose_spec (Classical.choose_spec (hkn k)) q hq, fun k q hq => ?_⟩
    match k, hq with
    | 0, hq => cases hq; exact ⟨hI1, hI2⟩
    | 1, hq => cases hq; exact ⟨hZ1, hZ2⟩
    | k + 2, hq => cases hq
  generalize (fun k => Classical.choose (hkn k), fun k => Classical.choose (Classical.choose_spec (hkn k))) = D at hK
  have e1 : entryFrame m ([Value.ref b] : List Value).toArray 4 = F0 m 0 ((lg_sl ([.ref b]) ++ List.replicate (4 - (lg_sl ([.ref b])).length) Slot.unset).toArray) [] := lg_entry_eq _ _ _
  rw [e1]
  have hl := zLc_entry (b := b) (σ := []) (vs := [.ref 0]) (n := 4) (by decide)
  have hNK : zNK s := fun w hw hn => va_Nw.of (by cases w <;> first | (cases hn; done) | rfl) (hts w hw)
  refine z_all l D cI cZ n p e room_1 s m #[Value.ref b] below meth c _ (fun q => s.heap.size ≤ q) b 199 h'.1.length (zSl h') (some (L, xs)) 8 zf0 zh0 h' (some (.int 1)) [] s.heap [] 0 0 _ hrun ?_ (by decide) (by decide) hn1 hn2 ?_ ?_ ?_ ?_ hl ?_
  · exact ⟨hx, hb, hml, hown, fun w hw => hts w (List.mem_filter.mp hw).1, hNK, hK, hret, hlocks, fun h2 => absurd h2 (by decide +kernel), fun _ h => h⟩
  · show 0 + h'.1.length = h'.1.length + 0
    omega
  · show 0 + zSl h' = zSl h' + 0
    omega
  · refine ⟨fun k q hk => ?_, ⟨fun i j p q hi => ?_, fun k q hk => ?_⟩, va_S.rf, rfl⟩
    · simp [zWl, zh0] at hk
    · simp [zWl, zh0] at hi
    · simp [zWl, zh0] at hk
  · exact ⟨hX, hbl, Nat.not_le.mpr hbl⟩
  · intro σ' H' locs' pc ls' hG _ hf
    refine va_forget (fun q hq => hG.2.2.1.2.2 q hq) ?_
    refine W.widen (k := 600000) (n := 7302250) hn1 hn2 ?_
    exact lw_ret hx hb hret hlocks hf.1
