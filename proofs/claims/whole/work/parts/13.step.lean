theorem zk9 (t : FieldType) {d : String} (h : parseFieldDescriptor d = some t) {ci k : Nat} {fin : Bool} (hz : zFd ci k = some (zFk t, fin)) : zFk t ≠ 9 := by
  intro q
  rw [q] at hz
  unfold zFd at hz
  cases hc : zfd[ci]? with
  | none => rw [hc] at hz; cases hz
  | some l =>
    rw [hc] at hz
    have h1 : l ∈ zfd := List.mem_of_getElem? hc
    have h2 : (9, fin) ∈ l := List.mem_of_getElem? hz
    have h3 : (zfd.all fun l => l.all fun x => decide (x.1 ≠ 9)) = true := by decide +kernel
    have h4 := List.all_eq_true.mp (List.all_eq_true.mp h3 l h1) _ h2
    exact absurd rfl (of_decide_eq_true h4)
theorem zNr_map {b : Nat} {σ : List Nat} {v : Option Value} (h : zNr v = true) : v.toList.map (zVal b σ) = v.toList := by
  cases v with
  | none => rfl
  | some x => cases x <;> first | rfl | cases h
theorem zCat_map {b : Nat} {σ : List Nat} {st : List Value} : ((st.map (zVal b σ)).map fun v => v.category).sum = zCat st := by
  unfold zCat
  rw [List.map_map]
  congr 1
  exact List.map_congr_left fun v _ => zVal_cat b σ v
theorem zWs_good {N : Nat} (h : zMok N) : GoodIn zZW (zWs N) := by
  intro w hw
  rcases List.mem_cons.mp hw with rfl | hw
  · exact ⟨zZW_of h.2.2.2.2 rfl, good_of_word rfl⟩
  · exact ⟨hw, good_of_word (List.mem_filter.mp hw).2⟩
theorem zCall_inv {n d N : Nat} {vs : List Value} {h : zH} {k : Option Value → zH → zR} {R : Option Value × zH} (hk : (match d with
      | 0 => none
      | d + 1 => zGo ((zArgs vs).length ≤ zMl N) (match zrun none n d N (zEnt (zMl N) vs) h with
        | some (v, h') => k v h'
        | none => none)) = some R) : ∃ d1 v1 h1, d = d1 + 1 ∧ (zArgs vs).length ≤ zMl N ∧ zrun none n d1 N (zEnt (zMl N) vs) h = some (v1, h1) ∧ k v1 h1 = some R := by
  cases d with
  | zero => cases hk
  | succ d1 =>
    obtain ⟨hl, hk⟩ := zGo_inv hk
    split at hk
    · rename_i v1 h1 hz
      exact ⟨d1, v1, h1, rfl, hl, hz, hk⟩
    · cases hk
set_option maxHeartbeats 8000000 in
theorem z_all (l : Launch) (D : va_G) (cI cZ : ClassId) : ∀ n, zWst l D cI cZ n := by
  intro n
  induction n with
  | zero =>
    intro p e R s m args below meth c Q A b M tc ts xs d f h h' v σ H locs cells slots ls hr
    cases hr
  | succ n ih =>
    intro p e R s m args below meth c Q A b M tc ts xs d f h h' v σ H locs cells slots ls hr hC hd1 hd2 htc hts2 hc1 hc2 hG hX hL hE
    obtain ⟨pc, L, st⟩ := f
    unfold zrun at hr
    split at hr
    · cases hr
    rename_i i len hz
    obtain ⟨hdg, hlen⟩ := zin_ok hz
    obtain ⟨hx, hb, hml, hown, hts, hNK, hK, hret, hlocks, hin, hA⟩ := id hC
    obtain ⟨hP, hD, hS, hσ⟩ := id hG
    have gow : ∀ {f' : zFr} {ls' : Array Slot} {h1 : zH} {H1 : Heap} {locs1 : List Loc}, zrun xs n d M f' h1 = some (v, h') → h1.1 = h.1 → zG D cI cZ A b s σ h1 H1 locs1 → zLc b σ (zMl M) f'.2.1 ls' → W p l e R s m args below meth c H1 locs1 cells slots Q (F0 m f'.1 ls' (f'.2.2.map (zVal b σ))) :=
      fun {f'} {ls'} {h1} {H1} {locs1} hr e1 hG1 hL => ih p e R s m args below meth c Q A b M tc ts xs d f' h1 h' v σ H1 locs1 cells slots ls' hr hC hd1 hd2 htc hts2 (by rw [e1]; exact hc1) (by unfold zSl at hc2 ⊢; rw [e1]; exact hc2) hG1 hX hL hE
    have ccl : zLe h h' → cells ≤ R.cells := fun q => by have := q.1; omega
    have csl : zLe h h' → slots ≤ R.slots := fun q => by have := q.2; omega
    have go : ∀ {f' : zFr} {ls' : Array Slot}, zrun xs n d M f' h = some (v, h') → zLc b σ (zMl M) f'.2.1 ls' → W p l e R s m args below meth c H locs cells slots Q (F0 m f'.1 ls' (f'.2.2.map (zVal b σ))) :=
      fun {f'} {ls'} hr hL => gow hr rfl hG hL
    have keep : ∀ {σ' : List Nat} {h1 : zH} {H1 : Heap} {locs1 : List Loc} {rest : List Value}, σ <+: σ' → zG D cI cZ A b s σ' h1 H1 locs1 → (h1.1.length = h.1.length ∨ zVs h.1.length L rest = true) → zLc b σ' (zMl M) L ls ∧ rest.map (zVal b σ') = rest.map (zVal b σ) := by
      intro σ' h1 H1 locs1 rest hp hG1 hk
      rcases hk with hk | hk
      · have e : σ = σ' := hp.eq_of_length (by rw [hσ, hG1.2.2.2, hk])
        subst e
        exact ⟨hL, rfl⟩
      · exact zLc_pre hL hp (by rw [hσ]; exact hk)
    clear hz
    unfold zdo at hr
    simp only at hr hdg hL
    split at hr
    · obtain rfl := beq_iff_eq.mp hlen
      obtain ⟨x, hx1, hr⟩ := zLI_inv hr
      exact lv_iload_n hx hb hdg rfl (hL.2.2.2 _ _ hx1) (go hr hL)
    · obtain rfl := beq_iff_eq.mp hlen
      obtain ⟨x, hx1, hr⟩ := zLI_inv hr
      exact lv_iload hx hb hdg (hL.2.2.2 _ _ hx1) (go hr hL)
    · obtain rfl := beq_iff_eq.mp hlen
      obtain ⟨x, hx1, hr⟩ := zLJ_inv hr
      exact lv_lload_n hx hb hdg rfl (hL.2.2.2 _ _ hx1) (go hr hL)
    · obtain rfl := beq_iff_eq.mp hlen
      obtain ⟨x, hx1, hr⟩ := zLJ_inv hr
      exact lv_lload hx hb hdg (hL.2.2.2 _ _ hx1) (go hr hL)
    · obtain rfl := beq_iff_eq.mp hlen
      obtain ⟨x, hx1, hr⟩ := zLA_inv hr
      have h1 := hL.2.2.2 _ _ hx1
      cases x with
      | zero => exact lv_aload_n hx hb hdg rfl h1 (go hr hL)
      | succ x => exact lv_aload_n hx hb hdg rfl h1 (go hr hL)
    · obtain rfl := beq_iff_eq.mp hlen
      obtain ⟨x, hx1, hr⟩ := zLA_inv hr
      have h1 := hL.2.2.2 _ _ hx1
      cases x with
      | zero => exact lv_aload hx hb hdg h1 (go hr hL)
      | succ x => exact lv_aload hx hb hdg h1 (go hr hL)
    · obtain rfl := beq_iff_eq.mp hlen
      exact lv_iconst hx hb hdg rfl (go hr hL)
    · obtain rfl := beq_iff_eq.mp hlen
      exact lv_bipush hx hb hdg rfl (go hr hL)
    · obtain rfl := beq_iff_eq.mp hlen
      exact lv_sipush hx hb hdg rfl (go hr hL)
    · obtain rfl := beq_iff_eq.mp hlen
      exact lv_lconst hx hb hdg rfl (go hr hL)
    · obtain rfl := beq_iff_eq.mp hlen
      obtain ⟨a1, b1, c1, hcp, hr⟩ := zCp_inv hr
      exact lv_ldc hx hb hown (hts _ (zZW_of (zcp_ok hcp) rfl)) hdg (go hr hL)
    · obtain rfl := beq_iff_eq.mp hlen
      obtain ⟨a1, b1, c1, hcp, hr⟩ := zCp_inv hr
      exact lv_ldcw hx hb hown (hts _ (zZW_of (zcp_ok hcp) rfl)) hdg (go hr hL)
    · obtain rfl := beq_iff_eq.mp hlen
      obtain ⟨a1, b1, c1, hcp, hr⟩ := zCp_inv hr
      exact lv_ldc2 hx hb hown (hts _ (zZW_of (zcp_ok hcp) rfl)) hdg (go hr hL)
    · obtain rfl := beq_iff_eq.mp hlen
      obtain ⟨x, r, hst, hr2⟩ := zI1_inv hr; clear hr; have hr := hr2; clear hr2; subst hst
      obtain ⟨hk, hr⟩ := zGo_inv hr
      have hk2 := hk
      rw [hL.2.1] at hk2
      exact lv_istore_n hx hb hdg rfl (zPs_has hL) hk2 rfl (fun ls' hl' => go hr (zLc_s1 (v := .int x) hL hk hl'))
    · obtain rfl := beq_iff_eq.mp hlen
      obtain ⟨x, r, hst, hr2⟩ := zI1_inv hr; clear hr; have hr := hr2; clear hr2; subst hst
      obtain ⟨hk, hr⟩ := zGo_inv hr
      have hk2 := hk
      rw [hL.2.1] at hk2
      exact lv_istore hx hb hdg (zPs_has hL) hk2 rfl (fun ls' hl' => go hr (zLc_s1 (v := .int x) hL hk hl'))
    · obtain rfl := beq_iff_eq.mp hlen
      obtain ⟨x, r, hst, hr2⟩ := zA1_inv hr; clear hr; have hr := hr2; clear hr2; subst hst
      obtain ⟨hk, hr⟩ := zGo_inv hr
      have hk2 := hk
      rw [hL.2.1] at hk2
      cases x with
      | zero => exact lv_astore_n hx hb hdg rfl (zPs_has hL) hk2 rfl (fun ls' hl' => go hr (zLc_s1 (v := .ref 0) hL hk hl'))
      | succ x => exact lv_astore_n hx hb hdg rfl (zPs_has hL) hk2 rfl (fun ls' hl' => go hr (zLc_s1 (v := .ref (x + 1)) hL hk hl'))
    · obtain rfl := beq_iff_eq.mp hlen
      obtain ⟨x, r, hst, hr2⟩ := zJ1_inv hr; clear hr; have hr := hr2; clear hr2; subst hst
      obtain ⟨hk, hr⟩ := zGo_inv hr
      have hk2 := hk
      rw [hL.2.1] at hk2
      exact lv_lstore_n hx hb hdg rfl (zPs_has hL) hk2 rfl (fun ls' hl' => go hr (zLc_s2 (v := .long x) hL hk hl'))
    · obtain rfl := beq_iff_eq.mp hlen
      obtain ⟨x, r, hst, hr2⟩ := zJ1_inv hr; clear hr; have hr := hr2; clear hr2; subst hst
      obtain ⟨hk, hr⟩ := zGo_inv hr
      have hk2 := hk
      rw [hL.2.1] at hk2
      exact lv_lstore hx hb hdg (zPs_has hL) hk2 rfl (fun ls' hl' => go hr (zLc_s2 (v := .long x) hL hk hl'))
    · obtain rfl := beq_iff_eq.mp hlen
      rename_i k n'
      obtain ⟨x, hx1, hr⟩ := zLI_inv hr
      have hk := (List.getElem?_eq_some_iff.mp hx1).1
      have hk2 := hk
      rw [hL.2.1] at hk2
      obtain ⟨kk, hkk⟩ := List.getElem?_of_mem (zPs_mem (b := b) (σ := σ) hL.2.1 hx1)
      exact lv_iinc hx hb hdg (zPs_has hL) hkk rfl hk2 rfl (fun ls' hl' => go hr (zLc_s1 (v := .int (x + Int32.ofInt n')) hL hk hl'))
    · obtain rfl := beq_iff_eq.mp hlen
      obtain ⟨t, ht, hr⟩ := zTo_inv hr
      exact lv_goto hx hb hdg ht (go hr hL)
    · obtain rfl := beq_iff_eq.mp hlen
      rename_i cnd off
      obtain ⟨x, y, r, hst, hr2⟩ := zI2_inv hr; clear hr; have hr := hr2; clear hr2; subst hst
      obtain ⟨t, ht, hr⟩ := zTo_inv hr
      unfold zCnd at hr
      cases cnd <;> simp only at hr
      · exact lv_icmp_eq hx hb hdg ht (fun hc => by rw [if_pos hc] at hr; exact go hr hL) (fun hc => by rw [if_neg hc] at hr; exact go hr hL)
      · exact lv_icmp_ne hx hb hdg ht (fun hc => by rw [if_neg hc] at hr; exact go hr hL) (fun hc => by rw [if_pos hc] at hr; exact go hr hL)
      · exact lv_icmp_lt hx hb hdg ht (fun hc => by rw [if_pos hc] at hr; exact go hr hL) (fun hc => by rw [if_neg hc] at hr; exact go hr hL)
      · exact lv_icmp_ge hx hb hdg ht (fun hc => by rw [if_pos hc] at hr; exact go hr hL) (fun hc => by rw [if_neg hc] at hr; exact go hr hL)
      · exact lv_icmp_gt hx hb hdg ht (fun hc => by rw [if_pos hc] at hr; exact go hr hL) (fun hc => by rw [if_neg hc] at hr; exact go hr hL)
      · exact lv_icmp_le hx hb hdg ht (fun hc => by rw [if_pos hc] at hr; exact go hr hL) (fun hc => by rw [if_neg hc] at hr; exact go hr hL)
    · obtain rfl := beq_iff_eq.mp hlen
      rename_i cnd off
      obtain ⟨x, r, hst, hr2⟩ := zI1_inv hr; clear hr; have hr := hr2; clear hr2; subst hst
      obtain ⟨t, ht, hr⟩ := zTo_inv hr
      unfold zCnd at hr
      cases cnd <;> simp only at hr
      · exact lv_if_eq hx hb hdg ht (fun hc => by rw [if_pos hc] at hr; exact go hr hL) (fun hc => by rw [if_neg hc] at hr; exact go hr hL)
      · exact lv_if_ne hx hb hdg ht (fun hc => by rw [if_neg hc] at hr; exact go hr hL) (fun hc => by rw [if_pos hc] at hr; exact go hr hL)
      · exact lv_if_lt hx hb hdg ht (fun hc => by rw [if_pos hc] at hr; exact go hr hL) (fun hc => by rw [if_neg hc] at hr; exact go hr hL)
      · exact lv_if_ge hx hb hdg ht (fun hc => by rw [if_pos hc] at hr; exact go hr hL) (fun hc => by rw [if_neg hc] at hr; exact go hr hL)
      · exact lv_if_gt hx hb hdg ht (fun hc => by rw [if_pos hc] at hr; exact go hr hL) (fun hc => by rw [if_neg hc] at hr; exact go hr hL)
      · exact lv_if_le hx hb hdg ht (fun hc => by rw [if_pos hc] at hr; exact go hr hL) (fun hc => by rw [if_neg hc] at hr; exact go hr hL)
    · obtain rfl := beq_iff_eq.mp hlen
      obtain ⟨x, r, hst, hr2⟩ := zA1_inv hr; clear hr; have hr := hr2; clear hr2; subst hst
      cases x with
      | zero => exact lv_ifnull hx hb hdg (go hr hL)
      | succ x => exact lv_ifnull hx hb hdg (go hr hL)
    · obtain rfl := beq_iff_eq.mp hlen
      obtain ⟨x, r, hst, hr2⟩ := zA1_inv hr; clear hr; have hr := hr2; clear hr2; subst hst
      obtain ⟨t, ht, hr⟩ := zTo_inv hr
      cases x with
      | zero => exact lv_ifnonnull hx hb hdg ht (go hr hL)
      | succ x => exact lv_ifnonnull hx hb hdg ht (go hr hL)
    · obtain ⟨x, r, hst, hr2⟩ := zI1_inv hr; clear hr; have hr := hr2; clear hr2; subst hst
      split at hr
      · rename_i hc
        obtain ⟨t, ht, hr⟩ := zTo_inv hr
        exact lv_tableOut hx hb hdg hc ht (go hr hL)
      · rename_i hc
        split at hr
        · rename_i off ho
          obtain ⟨t, ht, hr⟩ := zTo_inv hr
          exact lv_tableIn hx hb hdg (fun q => hc (Or.inl q)) (fun q => hc (Or.inr q)) ho ht (go hr hL)
        · cases hr
    · obtain ⟨x, r, hst, hr2⟩ := zI1_inv hr; clear hr; have hr := hr2; clear hr2; subst hst
      obtain ⟨hp, hr⟩ := zGo_inv hr
      obtain ⟨t, ht, hr⟩ := zTo_inv hr
      exact lv_lookup hx hb hdg hp rfl ht (go hr hL)
    · obtain rfl := beq_iff_eq.mp hlen
      split at hr
      · obtain ⟨hc, hr⟩ := zGo_inv hr
        exact lv_dup hx hb hdg ((zVal_cat b σ _).trans hc) (go hr hL)
      · cases hr
    · obtain rfl := beq_iff_eq.mp hlen
      split at hr
      · obtain ⟨hc, hr⟩ := zGo_inv hr
        exact lv_dup2_11 hx hb hdg ((zVal_cat b σ _).trans hc.1) ((zVal_cat b σ _).trans hc.2) (go hr hL)
      · cases hr
    · obtain rfl := beq_iff_eq.mp hlen
      obtain ⟨x, y, r, hst, hr2⟩ := zI2_inv hr; clear hr; have hr := hr2; clear hr2; subst hst
      exact lv_iadd hx hb hdg (go hr hL)
    · obtain rfl := beq_iff_eq.mp hlen
      obtain ⟨x, y, r, hst, hr2⟩ := zI2_inv hr; clear hr; have hr := hr2; clear hr2; subst hst
      exact lv_isub hx hb hdg (go hr hL)
    · obtain rfl := beq_iff_eq.mp hlen
      obtain ⟨x, y, r, hst, hr2⟩ := zI2_inv hr; clear hr; have hr := hr2; clear hr2; subst hst
      exact lv_imul hx hb hdg (go hr hL)
    · obtain rfl := beq_iff_eq.mp hlen
      obtain ⟨x, y, r, hst, hr2⟩ := zI2_inv hr; clear hr; have hr := hr2; clear hr2; subst hst
      exact lv_iand hx hb hdg (go hr hL)
    · obtain rfl := beq_iff_eq.mp hlen
      obtain ⟨x, y, r, hst, hr2⟩ := zI2_inv hr; clear hr; have hr := hr2; clear hr2; subst hst
      exact lv_ior hx hb hdg (go hr hL)
    · obtain rfl := beq_iff_eq.mp hlen
      obtain ⟨x, y, r, hst, hr2⟩ := zI2_inv hr; clear hr; have hr := hr2; clear hr2; subst hst
      exact lv_ixor hx hb hdg (go hr hL)
    · obtain rfl := beq_iff_eq.mp hlen
      obtain ⟨x, y, r, hst, hr2⟩ := zI2_inv hr; clear hr; have hr := hr2; clear hr2; subst hst
      exact lv_ishl hx hb hdg (go hr hL)
    · obtain rfl := beq_iff_eq.mp hlen
      obtain ⟨x, y, r, hst, hr2⟩ := zI2_inv hr; clear hr; have hr := hr2; clear hr2; subst hst
      exact lv_ishr hx hb hdg (go hr hL)
    · obtain rfl := beq_iff_eq.mp hlen
      obtain ⟨x, y, r, hst, hr2⟩ := zI2_inv hr; clear hr; have hr := hr2; clear hr2; subst hst
      exact lv_iushr hx hb hdg rfl (go hr hL)
    · obtain rfl := beq_iff_eq.mp hlen
      obtain ⟨x, y, r, hst, hr2⟩ := zI2_inv hr; clear hr; have hr := hr2; clear hr2; subst hst
      obtain ⟨hc, hr⟩ := zGo_inv hr
      exact lv_idiv hx hb hdg hc (go hr hL)
    · obtain rfl := beq_iff_eq.mp hlen
      obtain ⟨x, y, r, hst, hr2⟩ := zI2_inv hr; clear hr; have hr := hr2; clear hr2; subst hst
      obtain ⟨hc, hr⟩ := zGo_inv hr
      exact lv_irem hx hb hdg hc (go hr hL)
    · obtain rfl := beq_iff_eq.mp hlen
      obtain ⟨x, y, r, hst, hr2⟩ := zJ2_inv hr; clear hr; have hr := hr2; clear hr2; subst hst
      exact lv_ladd hx hb hdg (go hr hL)
    · obtain rfl := beq_iff_eq.mp hlen
      obtain ⟨x, y, r, hst, hr2⟩ := zJ2_inv hr; clear hr; have hr := hr2; clear hr2; subst hst
      exact lv_lsub hx hb hdg (go hr hL)
    · obtain rfl := beq_iff_eq.mp hlen
      obtain ⟨x, y, r, hst, hr2⟩ := zJ2_inv hr; clear hr; have hr := hr2; clear hr2; subst hst
      exact lv_lmul hx hb hdg (go hr hL)
    · obtain rfl := beq_iff_eq.mp hlen
      obtain ⟨x, y, r, hst, hr2⟩ := zJ2_inv hr; clear hr; have hr := hr2; clear hr2; subst hst
      exact lv_lor hx hb hdg (go hr hL)
    · obtain rfl := beq_iff_eq.mp hlen
      obtain ⟨x, y, r, hst, hr2⟩ := zJ2_inv hr; clear hr; have hr := hr2; clear hr2; subst hst
      exact lv_lxor hx hb hdg (go hr hL)
    · obtain rfl := beq_iff_eq.mp hlen
      obtain ⟨x, y, r, hst, hr2⟩ := zJ2_inv hr; clear hr; have hr := hr2; clear hr2; subst hst
      obtain ⟨hc, hr⟩ := zGo_inv hr
      exact lv_ldiv hx hb hdg hc (go hr hL)
    · obtain rfl := beq_iff_eq.mp hlen
      obtain ⟨x, y, r, hst, hr2⟩ := zJ2_inv hr; clear hr; have hr := hr2; clear hr2; subst hst
      obtain ⟨hc, hr⟩ := zGo_inv hr
      exact lv_lrem hx hb hdg hc (go hr hL)
    · obtain rfl := beq_iff_eq.mp hlen
      obtain ⟨y, r, hst, hr2⟩ := zI1_inv hr; clear hr; have hr := hr2; clear hr2; subst hst
      obtain ⟨x, r, hst, hr2⟩ := zJ1_inv hr; clear hr; have hr := hr2; clear hr2; subst hst
      exact lv_lshl hx hb hdg rfl (go hr hL)
    · obtain rfl := beq_iff_eq.mp hlen
      obtain ⟨y, r, hst, hr2⟩ := zI1_inv hr; clear hr; have hr := hr2; clear hr2; subst hst
      obtain ⟨x, r, hst, hr2⟩ := zJ1_inv hr; clear hr; have hr := hr2; clear hr2; subst hst
      exact lv_lushr hx hb hdg rfl (go hr hL)
    · obtain rfl := beq_iff_eq.mp hlen
      obtain ⟨x, y, r, hst, hr2⟩ := zJ2_inv hr; clear hr; have hr := hr2; clear hr2; subst hst
      exact W.lcmp hx hb hdg (go hr hL)
    · obtain rfl := beq_iff_eq.mp hlen
      obtain ⟨x, r, hst, hr2⟩ := zI1_inv hr; clear hr; have hr := hr2; clear hr2; subst hst
      exact lv_i2l hx hb hdg rfl (go hr hL)
    · obtain rfl := beq_iff_eq.mp hlen
      obtain ⟨x, r, hst, hr2⟩ := zJ1_inv hr; clear hr; have hr := hr2; clear hr2; subst hst
      exact lv_l2i hx hb hdg rfl (go hr hL)
    · obtain rfl := beq_iff_eq.mp hlen
      obtain ⟨a, r, hst, hr2⟩ := zA1_inv hr; clear hr; have hr := hr2; clear hr2; subst hst
      obtain ⟨ci, k, nest, hcp, hr⟩ := zCp_inv hr
      split at hr
      · rename_i cj nn hsh
        obtain ⟨hc, hr⟩ := zGo_inv hr
        subst hc
        obtain ⟨⟨C0, T0, N0⟩, hq, hkN, hl0, hl1⟩ := zcp_ok hcp
        obtain ⟨hin0, hnm0, hfn, hcn, ty0, hty0, hfd⟩ := zql hq
        cases a with
        | zero => cases hsh
        | succ a =>
          have hsh : h.1[a]? = some (0, cj, nn) := hsh
          have he := zWl_at (cI := cI) (cZ := cZ) (b := b) (σ := σ) hsh
          have hv := zFv_at (b := b) (σ := σ) (h := h) (a := a) (ci := cj) (k := k) (by rw [hfn]; exact hkN)
          have key : ∀ w : Value, zFv b σ h a cj k = w → W p l e R s m args below meth c H locs cells slots Q (F0 m (pc + 3) ls (w :: r.map (zVal b σ))) → W p l e R s m args below meth c H locs cells slots Q (F0 m pc ls (.ref (σ.getD a 0) :: r.map (zVal b σ))) := by
            intro w hw hk1
            rw [hw] at hv
            by_cases hn : nest = 0
            · exact va_get (D := D) (ci := cj) hx hb hts hin0 hown hK hP a he hq k hkN (hts _ (zZW_of (hl0 hn) rfl)) (fun _ h9 => h9) hv hdg hk1
            · exact va_getN (D := D) (ci := cj) hx hb hts hin0 hown hK hP a he hq k hkN (va_Nw.use rfl (hNK _ (hl1 hn) rfl)) (fun _ h9 => h9) hv hdg hk1
          split at hr
          · rename_i fin hz
            have e1 : zFv b σ h a cj k = zVal b σ (zRv (zRg h.2.1 (a + 1) k)) := by
              unfold zFv
              rw [hz]
              rfl
            exact key _ e1 (go hr hL)
          · rename_i p1 hn1 hz
            have e1 : zFv b σ h a cj k = .int (h.2.2 (a + 1) k) := by
              unfold zFv
              rw [hz]
              split
              · rename_i q
                cases q
                exact absurd rfl (hn1 _)
              · rfl
            exact key _ e1 (go hr hL)
          · cases hr
      · cases hr
    · obtain rfl := beq_iff_eq.mp hlen
      split at hr
      · rename_i x a r
        obtain ⟨ci, k, nest, hcp, hr⟩ := zCp_inv hr
        split at hr
        · rename_i cj nn hsh
          obtain ⟨⟨hc, hn0⟩, hr⟩ := zGo_inv hr
          subst hc
          obtain ⟨⟨C0, T0, N0⟩, hq, hkN, hl0, hl1⟩ := zcp_ok hcp
          obtain ⟨hin0, hnm0, hfn, hcn, ty0, hty0, hfd⟩ := zql hq
          cases a with
          | zero => cases hsh
          | succ a =>
            have hsh : h.1[a]? = some (0, cj, nn) := hsh
            have he := zWl_at (cI := cI) (cZ := cZ) (b := b) (σ := σ) hsh
            have key : ∀ (kd : Nat) (ty : FieldType), zFd cj k = some (kd, false) → kd ≠ 2 → parseFieldDescriptor (T0 k).2.2.1 = some ty → narrow ty (.int x) = .int x → fits ty (.int x) = true → zrun xs n d M (pc + 3, L, r) (h.1, h.2.1, zUp h.2.2 (a + 1) k x) = some (v, h') → W p l e R s m args below meth c H locs cells slots Q (F0 m pc ls (.int x :: .ref (σ.getD a 0) :: r.map (zVal b σ))) := by
              intro kd ty hz hkd hpt hnr hft hr
              have hfin : (T0 k).2.2.2 = false := by
                have h3 := (hfd k hkN).1
                rw [hz] at h3
                exact (congrArg Prod.snd (Option.some.inj h3)).symm
              refine va_put (D := D) (ci := cj) hx hb hts hin0 ty0 hty0 hnm0 hown hK hP hD hS a he hq k hkN (hts _ (zZW_of (hl0 hn0) rfl)) (fun _ h9 => h9) hfin hpt hnr hft (by simp only [List.length_map, List.length_range, hfn]; exact hkN) hdg (fun H1 locs1 hP1 hD1 hS1 => ?_)
              have e1 := zWl_putI (cI := cI) (cZ := cZ) (b := b) (σ := σ) (x := x) hsh hz hkd
              exact gow (h1 := (h.1, h.2.1, zUp h.2.2 (a + 1) k x)) hr rfl ⟨e1 ▸ hP1, e1 ▸ hD1, hS1, hσ⟩ hL
            have hpk := hty0 k hkN
            have h3 := (hfd k hkN).1
            split at hr
            · rename_i hz
              rw [hz] at h3
              have h4 := congrArg Prod.fst (Option.some.inj h3)
              refine key 0 .int hz (by decide) ?_ rfl rfl hr
              rw [hpk]
              generalize ty0 k = t at h4 ⊢
              cases t <;> first | rfl | cases h4
            · rename_i hz
              obtain ⟨hx01, hr⟩ := zGo_inv hr
              rw [hz] at h3
              have h4 := congrArg Prod.fst (Option.some.inj h3)
              refine key 1 .boolean hz (by decide) ?_ (by rcases hx01 with rfl | rfl <;> decide +kernel) (by rcases hx01 with rfl | rfl <;> decide +kernel) hr
              rw [hpk]
              generalize ty0 k = t at h4 ⊢
              cases t <;> first | rfl | cases h4
            · cases hr
        · cases hr
      · rename_i x a r
        obtain ⟨ci, k, nest, hcp, hr⟩ := zCp_inv hr
        split at hr
        · rename_i cj nn hsh
          obtain ⟨⟨hc, hn0, hxl⟩, hr⟩ := zGo_inv hr
          subst hc
          obtain ⟨⟨C0, T0, N0⟩, hq, hkN, hl0, hl1⟩ := zcp_ok hcp
          obtain ⟨hin0, hnm0, hfn, hcn, ty0, hty0, hfd⟩ := zql hq
          cases a with
          | zero => cases hsh
          | succ a =>
            have hsh : h.1[a]? = some (0, cj, nn) := hsh
            have he := zWl_at (cI := cI) (cZ := cZ) (b := b) (σ := σ) hsh
            split at hr
            · rename_i hz
              obtain ⟨⟨hi2, hoc⟩, hr⟩ := zGo_inv hr
              have h3 := (hfd k hkN).1
              rw [hz] at h3
              have h4 := congrArg Prod.fst (Option.some.inj h3)
              have hfin : (T0 k).2.2.2 = true := (congrArg Prod.snd (Option.some.inj h3)).symm
              have hpk := hty0 k hkN
              have hrf : narrow (ty0 k) (.ref (σ.getD x 0)) = .ref (σ.getD x 0) ∧ fits (ty0 k) (.ref (σ.getD x 0)) = true := by
                generalize ty0 k = t at h4 ⊢
                cases t <;> first | exact ⟨rfl, rfl⟩ | cases h4
              refine va_putF (D := D) (ci := cj) hx hb hts hin0 ty0 hty0 hnm0 hown hK hP hD hS a he hq k hkN (hts _ (zZW_of (hl0 hn0) rfl)) (fun _ h9 => h9) hfin (hin hi2) (by rw [(hfd k hkN).2, hoc]; exact hcn) hpk hrf.1 hrf.2 (by simp only [List.length_map, List.length_range, hfn]; exact hkN) hdg (fun H1 locs1 hP1 hD1 hS1 => ?_)
              have e1 := zWl_putR (cI := cI) (cZ := cZ) (b := b) (σ := σ) (x := x + 1) hsh hz
              exact gow (h1 := (h.1, (a + 1, k, x + 1) :: h.2.1, h.2.2)) hr rfl ⟨e1 ▸ hP1, e1 ▸ hD1, hS1, hσ⟩ hL
            · cases hr
        · cases hr
      · cases hr
    · obtain rfl := beq_iff_eq.mp hlen
      obtain ⟨j, r0, hst, hr2⟩ := zI1_inv hr; clear hr; have hr := hr2; clear hr2; subst hst
      obtain ⟨a, r, hst, hr2⟩ := zA1_inv hr; clear hr; have hr := hr2; clear hr2; subst hst
      split at hr
      · rename_i nn g
        obtain ⟨hc, hr⟩ := zGo_inv hr
        obtain ⟨hX1, hX2, hX3⟩ := hX
        exact va_sld hx hb hX1 hX2 hX3 hS hc hdg (go hr hL)
      · cases hr
      · split at hr
        · rename_i nn hsh
          obtain ⟨hc, hr⟩ := zGo_inv hr
          exact va_iald hx hb hK hP _ 0 (zWl_arr hsh) rfl hc hdg (go hr hL)
        · cases hr
    · obtain rfl := beq_iff_eq.mp hlen
      obtain ⟨j, r0, hst, hr2⟩ := zI1_inv hr; clear hr; have hr := hr2; clear hr2; subst hst
      obtain ⟨a, r, hst, hr2⟩ := zA1_inv hr; clear hr; have hr := hr2; clear hr2; subst hst
      split at hr
      · rename_i nn hsh
        obtain ⟨hc, hr⟩ := zGo_inv hr
        cases a with
        | zero => cases hsh
        | succ a => exact va_zald hx hb hK hP _ 1 (zWl_arr hsh) rfl hc hdg (go hr hL)
      · cases hr
    · obtain rfl := beq_iff_eq.mp hlen
      obtain ⟨j, x, r0, hst, hr2⟩ := zI2_inv hr; clear hr; have hr := hr2; clear hr2; subst hst
      obtain ⟨a, r, hst, hr2⟩ := zA1_inv hr; clear hr; have hr := hr2; clear hr2; subst hst
      split at hr
      · rename_i nn hsh
        obtain ⟨hc, hr⟩ := zGo_inv hr
        cases a with
        | zero => cases hsh
        | succ a =>
          refine va_iast hx hb hK hP hD hS _ 0 (zWl_arr hsh) rfl hc hdg (fun H1 locs1 hP1 hD1 hS1 => ?_)
          have e1 := zWl_row (cI := cI) (cZ := cZ) (b := b) (σ := σ) (G := zUp h.2.2 (a + 1) j.toNatClampNeg x) hsh (fun q hq => zUp_off hq)
          rw [zUp_upd] at e1
          exact gow (h1 := (h.1, h.2.1, zUp h.2.2 (a + 1) j.toNatClampNeg x)) hr rfl ⟨e1 ▸ hP1, e1 ▸ hD1, hS1, hσ⟩ hL
      · cases hr
    · obtain rfl := beq_iff_eq.mp hlen
      obtain ⟨j, x, r0, hst, hr2⟩ := zI2_inv hr; clear hr; have hr := hr2; clear hr2; subst hst
      obtain ⟨a, r, hst, hr2⟩ := zA1_inv hr; clear hr; have hr := hr2; clear hr2; subst hst
      split at hr
      · rename_i nn hsh
        obtain ⟨⟨hc, hx01⟩, hr⟩ := zGo_inv hr
        cases a with
        | zero => cases hsh
        | succ a =>
          refine va_zast hx hb hK hP hD hS _ 1 (zWl_arr hsh) rfl hc hdg (fun H1 locs1 hP1 hD1 hS1 => ?_)
          have e1 := zWl_row (cI := cI) (cZ := cZ) (b := b) (σ := σ) (G := zUp h.2.2 (a + 1) j.toNatClampNeg x) hsh (fun q hq => zUp_off hq)
          have e2 : vp_nar .boolean x = x := by rcases hx01 with rfl | rfl <;> decide +kernel
          rw [e2] at hP1 hD1
          rw [zUp_upd] at e1
          exact gow (h1 := (h.1, h.2.1, zUp h.2.2 (a + 1) j.toNatClampNeg x)) hr rfl ⟨e1 ▸ hP1, e1 ▸ hD1, hS1, hσ⟩ hL
      · cases hr
    · obtain rfl := beq_iff_eq.mp hlen
      obtain ⟨a, r, hst, hr2⟩ := zA1_inv hr; clear hr; have hr := hr2; clear hr2; subst hst
      split at hr
      · rename_i nn g
        obtain ⟨hX1, hX2, hX3⟩ := hX
        exact va_slen hx hb hX1 hX2 hX3 hS hdg (go hr hL)
      · cases hr
      · split at hr
        · rename_i t nn hsh
          cases t with
          | zero => exact va_alen hx hb hK hP _ 0 (zWl_arr hsh) rfl rfl hdg (go hr hL)
          | succ t => exact va_alen hx hb hK hP _ 1 (zWl_arr hsh) rfl rfl hdg (go hr hL)
        · cases hr
    · obtain rfl := beq_iff_eq.mp hlen
      obtain ⟨x, r, hst, hr2⟩ := zI1_inv hr; clear hr; have hr := hr2; clear hr2; subst hst
      have gon : ∀ {q : Nat} {t : Nat} {E : va_E} {F : zRl} {G : Nat → Nat → Int32} {H1 : Heap} {locs1 : List Loc} {N1 : Nat}, zWl cI cZ b (σ ++ [q]) (h.1 ++ [(1, t, N1)], F, G) = zWl cI cZ b σ h ++ [(q, E)] → N1 = N1 → zrun xs n d M (pc + 2, L, .ref (h.1.length + 1) :: r) (h.1 ++ [(1, t, N1)], F, G) = some (v, h') → zVs h.1.length L r = true → va_P D zcls (zWl cI cZ b σ h ++ [(q, E)]) H1 → va_D A (zWl cI cZ b σ h ++ [(q, E)]) → va_S A s.heap H1 locs1 → W p l e R s m args below meth c H1 locs1 (cells + 1) (slots + N1) Q (F0 m (pc + 2) ls (.ref q :: r.map (zVal b σ))) := by
        intro q t E F G H1 locs1 N1 e1 _ hr hvs hP1 hD1 hS1
        rw [← hσ] at hvs
        obtain ⟨hL2, hst⟩ := zLc_pre hL (List.prefix_append σ [q]) hvs
        have e3 : (σ ++ [q]).getD h.1.length 0 = q := by rw [← hσ]; simp
        have g1 := ih p e R s m args below meth c Q A b M tc ts xs d (pc + 2, L, .ref (h.1.length + 1) :: r) _ h' v (σ ++ [q]) H1 locs1 (cells + 1) (slots + N1) ls hr hC hd1 hd2 htc hts2 (by simp only [List.length_append, List.length_cons, List.length_nil]; omega) (by rw [zSl_push]; show slots + N1 + zSl h' = ts + (zSl h + N1); omega) ⟨by rw [e1]; exact hP1, by rw [e1]; exact hD1, hS1, by simp [hσ]⟩ hX hL2 (fun σ' H' locs' pc ls' hG1 hp hf => hE σ' H' locs' pc ls' hG1 ((List.prefix_append σ [q]).trans hp) hf)
        have e4 : List.map (zVal b (σ ++ [q])) (.ref (h.1.length + 1) :: r) = .ref q :: r.map (zVal b σ) := by
          rw [List.map_cons, hst]
          show Value.ref ((σ ++ [q]).getD h.1.length 0) :: _ = _
          rw [e3]
        have g2 : W p l e R s m args below meth c H1 locs1 (cells + 1) (slots + N1) Q (F0 m (pc + 2) ls (List.map (zVal b (σ ++ [q])) (.ref (h.1.length + 1) :: r))) := g1
        rw [e4] at g2
        exact g2
      split at hr
      · obtain ⟨⟨hn0, hn1, hvs, hok⟩, hr⟩ := zGo_inv hr
        have hmo := zrun_mono n hr
        have hm1 := hmo.1
        have hm2 := hmo.2
        rw [zSl_push] at hm2
        simp only [List.length_append, List.length_cons, List.length_nil] at hm1 hm2
        refine va_newa hx hb (atype := .int) (hts _ (zZW_of zarr_i rfl)) (ty := .int) rfl hK hP hD hS hA (a0 := (x.toNatClampNeg, .inl (fun _ => 0))) (fun _ => rfl) hn0 rfl ?_ (by omega) (by omega) hdg (fun q cA H1 hK1 hP1 hD1 hS1 => ?_)
        · have e4 : componentBytes .int ≤ 4 := by decide +kernel
          exact Nat.le_trans (Nat.mul_le_mul hn1 e4) (by decide)
        have ec : cA = cI := by
          have q1 : s.vm.findClass ("[" ++ (FieldType.toString .int)) = some cA := (hK1.2 2 (cA, .int) rfl).2
          have q2 : s.vm.findClass ("[" ++ (FieldType.toString .int)) = some cI := (hK.2 0 (cI, .int) rfl).2
          exact Option.some.inj (q1.symm.trans q2)
        rw [ec] at hP1 hD1
        have e1 := zWl_push (cI := cI) (cZ := cZ) (b := b) (σ := σ) (q := q) (h := h) (sh := (1, 0, x.toNatClampNeg)) (F := h.2.1) (G := zRow h.2.2 (h.1.length + 1) (fun _ => 0)) hσ hok (fun _ _ => rfl) (fun k hk => zRow_off (by omega))
        have e2 : zCell cI cZ b (σ ++ [q]) (h.1 ++ [(1, 0, x.toNatClampNeg)], h.2.1, zRow h.2.2 (h.1.length + 1) (fun _ => 0)) h.1.length (1, 0, x.toNatClampNeg) = .inl (cI, x.toNatClampNeg, .inl (fun _ => 0)) := by
          simp only [zCell, zRow_at]
        rw [e2] at e1
        exact gon e1 rfl hr hvs hP1 hD1 hS1
      · obtain ⟨⟨hn0, hn1, hvs, hok⟩, hr⟩ := zGo_inv hr
        have hmo := zrun_mono n hr
        have hm1 := hmo.1
        have hm2 := hmo.2
        rw [zSl_push] at hm2
        simp only [List.length_append, List.length_cons, List.length_nil] at hm1 hm2
        refine va_newa hx hb (atype := .boolean) (hts _ (zZW_of zarr_z rfl)) (ty := .boolean) rfl hK hP hD hS hA (a0 := (x.toNatClampNeg, .inl (fun _ => 0))) (fun _ => rfl) hn0 rfl ?_ (by omega) (by omega) hdg (fun q cA H1 hK1 hP1 hD1 hS1 => ?_)
        · have e4 : componentBytes .boolean ≤ 4 := by decide +kernel
          exact Nat.le_trans (Nat.mul_le_mul hn1 e4) (by decide)
        have ec : cA = cZ := by
          have q1 : s.vm.findClass ("[" ++ (FieldType.toString .boolean)) = some cA := (hK1.2 2 (cA, .boolean) rfl).2
          have q2 : s.vm.findClass ("[" ++ (FieldType.toString .boolean)) = some cZ := (hK.2 1 (cZ, .boolean) rfl).2
          exact Option.some.inj (q1.symm.trans q2)
        rw [ec] at hP1 hD1
        have e1 := zWl_push (cI := cI) (cZ := cZ) (b := b) (σ := σ) (q := q) (h := h) (sh := (1, 1, x.toNatClampNeg)) (F := h.2.1) (G := zRow h.2.2 (h.1.length + 1) (fun _ => 0)) hσ hok (fun _ _ => rfl) (fun k hk => zRow_off (by omega))
        have e2 : zCell cI cZ b (σ ++ [q]) (h.1 ++ [(1, 1, x.toNatClampNeg)], h.2.1, zRow h.2.2 (h.1.length + 1) (fun _ => 0)) h.1.length (1, 1, x.toNatClampNeg) = .inl (cZ, x.toNatClampNeg, .inl (fun _ => 0)) := by
          simp only [zCell, zRow_at]
        rw [e2] at e1
        exact gon e1 rfl hr hvs hP1 hD1 hS1
      · cases hr
    · obtain rfl := beq_iff_eq.mp hlen
      obtain ⟨ci, b1, c1, hcp, hr⟩ := zCp_inv hr
      obtain ⟨⟨hvs, hok⟩, hr⟩ := zGo_inv hr
      obtain ⟨⟨C0, T0, N0⟩, hq, hcl, hinst, hini⟩ := zcp_ok hcp
      obtain ⟨hin0, hnm0, hfn, hcn, ty0, hty0, hfd⟩ := zql hq
      have hmo := zrun_mono n hr
      have hm1 := hmo.1
      have hm2 := hmo.2
      rw [zSl_push] at hm2
      simp only [List.length_append, List.length_cons, List.length_nil] at hm1
      have hfn : zFn ci = N0 := hfn
      simp only [hfn] at hm2
      refine va_new (ci := ci) (fs := (List.range (zFn ci)).map (zF0 ci)) hx hb hts hin0 ty0 hty0 hown (hts _ (zZW_of hcl rfl)) (hts _ (zZW_of hinst rfl)) (hts _ (zZW_of hini rfl)) hK hP hD hS hA hq ?_ (by omega) (by omega) hdg (fun q H1 hP1 hD1 hS1 => ?_)
      · intro j hj
        have hj2 : j < zFn ci := by rw [hfn]; exact hj
        unfold vp_V
        rw [List.getD, List.getElem?_map, List.getElem?_range hj2]
        exact zF0_def (hfd j hj).1 (zk9 (ty0 j) (hty0 j hj) (hfd j hj).1)
      have e1 := zWl_push (cI := cI) (cZ := cZ) (b := b) (σ := σ) (q := q) (h := h) (sh := (0, ci, zFn ci)) (F := zRw h.2.1 (h.1.length + 1)) (G := zRow h.2.2 (h.1.length + 1) (fun _ => 0)) hσ hok (fun k hk => by rw [zRg_new]; exact zRow_off (by omega)) (fun k hk => zRow_off (by omega))
      rw [zCell_new (by show zRg (zRw h.2.1 (h.1.length + 1)) (h.1.length + 1) = _; rw [zRg_new]; exact zRow_at) (by exact zRow_at)] at e1
      rw [← hσ] at hvs
      obtain ⟨hL2, hst⟩ := zLc_pre hL (List.prefix_append σ [q]) hvs
      have e3 : (σ ++ [q]).getD h.1.length 0 = q := by rw [← hσ]; simp
      have g1 := ih p e R s m args below meth c Q A b M tc ts xs d (pc + 3, L, .ref (h.1.length + 1) :: st) _ h' v (σ ++ [q]) H1 locs (cells + 1) (slots + N0) ls hr hC hd1 hd2 htc hts2 (by simp only [List.length_append, List.length_cons, List.length_nil]; omega) (by rw [zSl_push]; simp only [hfn]; omega) ⟨by rw [e1]; exact hP1, by rw [e1]; exact hD1, hS1, by simp [hσ]⟩ hX hL2 (fun σ' H' locs' pc ls' hG1 hp hf => hE σ' H' locs' pc ls' hG1 ((List.prefix_append σ [q]).trans hp) hf)
      have e4 : List.map (zVal b (σ ++ [q])) (.ref (h.1.length + 1) :: st) = .ref q :: st.map (zVal b σ) := by
        rw [List.map_cons, hst]
        show Value.ref ((σ ++ [q]).getD h.1.length 0) :: _ = _
        rw [e3]
      have g2 : W p l e R s m args below meth c H1 locs (cells + 1) (slots + N0) Q (F0 m (pc + 3) ls (List.map (zVal b (σ ++ [q])) (.ref (h.1.length + 1) :: st))) := g1
      rw [e4] at g2
      exact g2
    · obtain rfl := beq_iff_eq.mp hlen
      split at hr
      · rename_i N b1 c1 hcp
        obtain ⟨⟨hkd, hpn, hcat⟩, hr⟩ := zGo_inv hr
        obtain ⟨hMo, hl0, hl1⟩ := zcp_ok hcp
        have hkN : zKd N ≤ 2 := by omega
        obtain ⟨d1, v1, h1, hd, hLn, hrun, hr2⟩ := zCall_inv hr
        clear hr
        obtain ⟨hkeep, hr⟩ := zKeep_inv hr2
        clear hr2
        have hmo1 := zrun_mono n hrun
        have hmo2 := zrun_mono n hr
        have hm1 := hmo1.1
        have hm2 := hmo1.2
        have hm3 := hmo2.1
        have hm4 := hmo2.2
        obtain ⟨hpl, hyo, hyd, hypn, hml23⟩ := zHd hkN
        generalize hvs : (st.take (zPn N)).reverse = vs at hLn hrun
        generalize hrest : st.drop (zPn N) = rest at hcat hkeep hr
        have hstk : st.map (zVal b σ) = (vs.map (zVal b σ)).reverse ++ rest.map (zVal b σ) := by
          rw [← hvs, ← hrest, ← List.map_reverse, List.reverse_reverse, ← List.map_append, List.take_append_drop]
        have hln : (vs.map (zVal b σ)).length = zPn N := by rw [← hvs]; simp; omega
        have hcr : 2 * (F0 m pc ls (st.map (zVal b σ))).monitorRoom + ((rest.map (zVal b σ)).map fun v => v.category).sum ≤ 8 := lv_room (by rw [zCat_map]; exact hcat)
        have hM := z_met ih hkN (fun h2 => by omega) hLn hrun b σ H.size hσ
        have hPS : PreS s H (zPre D cI cZ b vs σ h H.size) (vs.map (zVal b σ)) := ⟨zPre_blind, fun U hU hW => ⟨rfl, by rw [hU], by rw [hU]; exact hP, va_K.moved hW.alike hK, hD.weaken (fun _ _ _ _ => trivial), zNK.warm hW hNK⟩⟩
        have hini := hts _ (zZW_of hMo.2.2.2.1 rfl)
        have hstt := hts _ (zZW_of (hMo.2.1 hkd) rfl)
        have hcc : cells + (h1.1.length - h.1.length) ≤ R.cells ∧ slots + (zSl h1 - zSl h) ≤ R.slots := ⟨by omega, by omega⟩
        have hrunM : va_Run p l e R s m args below meth c H locs cells slots (h1.1.length - h.1.length) (zSl h1 - zSl h) (F0 m pc ls (st.map (zVal b σ))) (rest.map (zVal b σ)) (zQc D cI cZ b σ h1 v1 (va_A (zWl cI cZ b σ h) H.size) (vs.map (zVal b σ)).toArray) (va_A (zWl cI cZ b σ h) H.size) := by
          by_cases hc0 : c1 = 0
          · exact va_runS ⟨hx, hb, hml, hown, hts⟩ hM ⟨callB_of (zPn N) hts (zWs_good hMo) rfl rfl rfl hini (hts _ (zZW_of (hl0 hc0) rfl)) ⟨hyd.1, hyd.2, hypn⟩ ⟨show d1 + 1 ≤ R.frames from by omega, show 8 + (zMl N + 11) + 42 * d1 ≤ R.locals from by omega⟩, hstt⟩ hPS rfl hln hL.1 hstk hcr hdg hcc
          · exact va_runSN ⟨hx, hb, hml, hown, hts⟩ hM ⟨va_cnB (zPn N) hts (zWs_good hMo) rfl rfl rfl (hNK _ (hl1 hc0) rfl) hini ⟨hyd.1, hyd.2, hypn⟩ ⟨show d1 + 1 ≤ R.frames from by omega, show 8 + (zMl N + 11) + 42 * d1 ≤ R.locals from by omega⟩, hstt, trivial⟩ hPS rfl hln hL.1 hstk hcr hdg hcc
        refine z_call hrunM hS        (z_frA hD hS hA) (z_frA hD hS hA) (fun σ' H1 locs1 hG1 hp => ?_)
        obtain ⟨hL2, hst2⟩ := keep hp hG1 hkeep.2
        have e5 : v1.toList.map (zVal b σ') = v1.toList := zNr_map hkeep.1
        have g1 := ih p e R s m args below meth c Q A b M tc ts xs d (pc + 3, L, v1.toList ++ rest) h1 h' v σ' H1 locs1 (cells + (h1.1.length - h.1.length)) (slots + (zSl h1 - zSl h)) ls hr hC hd1 hd2 htc hts2 (by omega) (by omega) hG1 hX hL2 (fun σ2 H' locs' pc ls' hG2 hp2 hf => hE σ2 H' locs' pc ls' hG2 (hp.trans hp2) hf)
        have g2 : W p l e R s m args below meth c H1 locs1 (cells + (h1.1.length - h.1.length)) (slots + (zSl h1 - zSl h)) Q (F0 m (pc + 3) ls ((v1.toList ++ rest).map (zVal b σ'))) := g1
        rw [List.map_append, e5, hst2] at g2
        exact g2
      · rename_i b1 c1 e1 hcp
        split at hr
        · rename_i nn dp a sp a0 r
          split at hr
          · rename_i n0 n1 hs0 hs1
            obtain ⟨⟨k1, k2, k3, k4, k5, k6, k7⟩, hr⟩ := zGo_inv hr
            cases a with
            | zero => cases hs1
            | succ a =>
              cases a0 with
              | zero => cases hs0
              | succ a0 =>
                have hlk := zcp_ok hcp
                refine va_copyi (ty := .int) hx hb (hml.trans hL.1.symm) hown (hts _ (zZW_of hlk rfl)) (hts _ (zZW_of zac_n rfl)) (hts _ (zZW_of zac_s rfl)) (hts _ (zZW_of zac_i rfl)) hK hP hD hS _ _ 0 0 (zWl_arr hs0) (zWl_arr hs1) rfl rfl rfl k1 k2 k3 k4 k5 (fun _ _ => rfl) (by omega) ?_ hdg (fun H1 locs1 hP1 hD1 hS1 => ?_)
                · have e6 : nativeFrameWords "java/lang/System" "arraycopy" 5 = 7 := by decide +kernel
                  rw [e6, zCat_map]
                  omega
                have e1 := zWl_row (cI := cI) (cZ := cZ) (b := b) (σ := σ) (G := zRow h.2.2 (a + 1) (va_cpy (h.2.2 (a0 + 1)) (h.2.2 (a + 1)) sp.toNatClampNeg dp.toNatClampNeg nn.toNatClampNeg)) hs1 (fun q hq => zRow_off hq)
                rw [zRow_at] at e1
                exact gow (h1 := (h.1, h.2.1, zRow h.2.2 (a + 1) (va_cpy (h.2.2 (a0 + 1)) (h.2.2 (a + 1)) sp.toNatClampNeg dp.toNatClampNeg nn.toNatClampNeg))) hr rfl ⟨e1 ▸ hP1, e1 ▸ hD1, hS1, hσ⟩ hL
          · cases hr
        · cases hr
      · rename_i hcp
        obtain ⟨x, y, r, hst, hr2⟩ := zI2_inv hr; clear hr; have hr := hr2; clear hr2; subst hst
        obtain ⟨⟨k6, k7⟩, hr⟩ := zGo_inv hr
        exact va_mmax hx hb (hml.trans hL.1.symm) hown (hts _ (zZW_of (zcp_ok hcp) rfl)) (hts _ (zZW_of zmt_as rfl)) (hts _ (zZW_of zmt_i rfl)) (hts _ (zZW_of zmt_ac rfl)) (by omega) (by rw [zCat_map]; omega) (ccl (zrun_mono n hr)) (csl (zrun_mono n hr)) hdg (go hr hL)
      · rename_i hcp
        obtain ⟨x, y, r, hst, hr2⟩ := zI2_inv hr; clear hr; have hr := hr2; clear hr2; subst hst
        obtain ⟨⟨k6, k7⟩, hr⟩ := zGo_inv hr
        exact va_mmin hx hb (hml.trans hL.1.symm) hown (hts _ (zZW_of (zcp_ok hcp) rfl)) (hts _ (zZW_of zmt_bs rfl)) (hts _ (zZW_of zmt_i rfl)) (hts _ (zZW_of zmt_bc rfl)) (by omega) (by rw [zCat_map]; omega) (ccl (zrun_mono n hr)) (csl (zrun_mono n hr)) hdg (go hr hL)
      · rename_i hcp
        obtain ⟨x, y, r, hst, hr2⟩ := zJ2_inv hr; clear hr; have hr := hr2; clear hr2; subst hst
        obtain ⟨⟨k6, k7⟩, hr⟩ := zGo_inv hr
        exact va_mmax_long hx hb (hml.trans hL.1.symm) hown (hts _ (zZW_of (zcp_ok hcp) rfl)) (hts _ (zZW_of zmt_cs rfl)) (hts _ (zZW_of zmt_i rfl)) (hts _ (zZW_of zmt_cc rfl)) (by omega) (by rw [zCat_map]; omega) (ccl (zrun_mono n hr)) (csl (zrun_mono n hr)) hdg (go hr hL)
      · cases hr
    · obtain rfl := beq_iff_eq.mp hlen
      obtain ⟨N, b1, c1, hcp, hr⟩ := zCp_inv hr
      split at hr
      · rename_i a rest hdr
        split at hr
        · rename_i cj nn hsh
          rcases a with _ | a
          · cases hsh
          obtain ⟨⟨hkd, hcj, hpn, hcat⟩, hr2⟩ := zGo_inv hr
          clear hr
          have hr := hr2
          clear hr2
          obtain ⟨hMo, hl0, hl1⟩ := zcp_ok hcp
          have hkN : zKd N ≤ 2 := by omega
          obtain ⟨d1, v1, h1, hd, hLn, hrun, hr2⟩ := zCall_inv hr
          clear hr
          obtain ⟨hkeep, hr⟩ := zKeep_inv hr2
          clear hr2
          have hmo1 := zrun_mono n hrun
          have hmo2 := zrun_mono n hr
          have hm1 := hmo1.1
          have hm2 := hmo1.2
          have hm3 := hmo2.1
          have hm4 := hmo2.2
          obtain ⟨hpl, hyo, hyd, hypn, hml23⟩ := zHd hkN
          have hsh : h.1[a]? = some (0, cj, nn) := hsh
          have he := zWl_at (cI := cI) (cZ := cZ) (b := b) (σ := σ) hsh
          obtain ⟨q, hq, -⟩ := hP a _ he
          have hqn := (zql hq).2.2.2.1
          generalize hvs : (st.take (zPn N)).reverse = vs at hLn hrun
          have hstk : st.map (zVal b σ) = (vs.map (zVal b σ)).reverse ++ .ref (σ.getD a 0) :: rest.map (zVal b σ) := by
            rw [← hvs, ← List.map_reverse, List.reverse_reverse]
            show _ = _ ++ ((Value.ref (a + 1)) :: rest).map (zVal b σ)
            rw [← hdr, ← List.map_append, List.take_append_drop]
          have hln : (vs.map (zVal b σ)).length = zPn N := by rw [← hvs]; simp; omega
          have hcr : 2 * (F0 m pc ls (st.map (zVal b σ))).monitorRoom + ((rest.map (zVal b σ)).map fun v => v.category).sum ≤ 8 := lv_room (by rw [zCat_map]; exact hcat)
          have hM := z_met ih hkN (fun h2 => by omega) hLn hrun b σ H.size hσ
          have hPV : PreV s H (zOn (zOw N)) (σ.getD a 0) (zPre D cI cZ b (.ref (a + 1) :: vs) σ h H.size) (vs.map (zVal b σ)) := ⟨zPre_blind, by rw [← hcj, ← hqn]; exact va_recv hK hP hq he, fun U hU hW => ⟨rfl, by rw [hU], by rw [hU]; exact hP, va_K.moved hW.alike hK, hD.weaken (fun _ _ _ _ => trivial), zNK.warm hW hNK⟩⟩
          have hini := hts _ (zZW_of hMo.2.2.2.1 rfl)
          have hi0 := hts _ (zZW_of (hMo.1 hkd).1 rfl)
          have hse := hts _ (zZW_of (hMo.1 hkd).2 rfl)
          have hcc : cells + (h1.1.length - h.1.length) ≤ R.cells ∧ slots + (zSl h1 - zSl h) ≤ R.slots := ⟨by omega, by omega⟩
          have hrunM : va_Run p l e R s m args below meth c H locs cells slots (h1.1.length - h.1.length) (zSl h1 - zSl h) (F0 m pc ls (st.map (zVal b σ))) (rest.map (zVal b σ)) (zQc D cI cZ b σ h1 v1 (va_A (zWl cI cZ b σ h) H.size) (Value.ref (σ.getD a 0) :: vs.map (zVal b σ)).toArray) (va_A (zWl cI cZ b σ h) H.size) := by
            by_cases hc0 : c1 = 0
            · exact va_runV ⟨hx, hb, hml, hown, hts⟩ hM ⟨callB_of (zPn N) hts (zWs_good hMo) rfl rfl rfl hini (hts _ (zZW_of (hl0 hc0) rfl)) ⟨hyd.1, hyd.2, hypn⟩ ⟨show d1 + 1 ≤ R.frames from by omega, show 8 + (zMl N + 11) + 42 * d1 ≤ R.locals from by omega⟩, hi0, hse⟩ hPV rfl hln hL.1 hstk hcr hdg hcc
            · exact va_runVN ⟨hx, hb, hml, hown, hts⟩ hM ⟨va_cnB (zPn N) hts (zWs_good hMo) rfl rfl rfl (hNK _ (hl1 hc0) rfl) hini ⟨hyd.1, hyd.2, hypn⟩ ⟨show d1 + 1 ≤ R.frames from by omega, show 8 + (zMl N + 11) + 42 * d1 ≤ R.locals from by omega⟩, hi0, hse⟩ hPV rfl hln hL.1 hstk hcr hdg hcc
          refine z_call hrunM hS        (z_frA hD hS hA) (z_frA hD hS hA) (fun σ' H1 locs1 hG1 hp => ?_)
          obtain ⟨hL2, hst2⟩ := keep hp hG1 hkeep.2
          have e5 : v1.toList.map (zVal b σ') = v1.toList := zNr_map hkeep.1
          have g1 := ih p e R s m args below meth c Q A b M tc ts xs d (pc + 3, L, v1.toList ++ rest) h1 h' v σ' H1 locs1 (cells + (h1.1.length - h.1.length)) (slots + (zSl h1 - zSl h)) ls hr hC hd1 hd2 htc hts2 (by omega) (by omega) hG1 hX hL2 (fun σ2 H' locs' pc ls' hG2 hp2 hf => hE σ2 H' locs' pc ls' hG2 (hp.trans hp2) hf)
          have g2 : W p l e R s m args below meth c H1 locs1 (cells + (h1.1.length - h.1.length)) (slots + (zSl h1 - zSl h)) Q (F0 m (pc + 3) ls ((v1.toList ++ rest).map (zVal b σ'))) := g1
          rw [List.map_append, e5, hst2] at g2
          exact g2
        · cases hr
      · cases hr
    · obtain rfl := beq_iff_eq.mp hlen
      split at hr
      · rename_i N b1 c1 hcp
        split at hr
        · rename_i a rest hdr
          obtain ⟨⟨hkd, hpn, hcat⟩, hr⟩ := zGo_inv hr
          obtain ⟨hMo, hl0, hl1⟩ := zcp_ok hcp
          have hkN : zKd N ≤ 2 := by omega
          obtain ⟨hi0, hin0, hrt0⟩ := hMo.2.2.1 hkd
          obtain ⟨d1, v1, h1, hd, hLn, hrun, hr2⟩ := zCall_inv hr
          clear hr
          obtain ⟨hkeep, hr⟩ := zKeep_inv hr2
          clear hr2
          have hmo1 := zrun_mono n hrun
          have hmo2 := zrun_mono n hr
          have hm1 := hmo1.1
          have hm2 := hmo1.2
          have hm3 := hmo2.1
          have hm4 := hmo2.2
          obtain ⟨hpl, hyo, hyd, hypn, hml23⟩ := zHd hkN
          generalize hvs : (st.take (zPn N)).reverse = vs at hLn hrun
          obtain ⟨a1, ha1⟩ : ∃ a1, zVal b σ (.ref a) = .ref a1 := by cases a <;> exact ⟨_, rfl⟩
          have hstk : st.map (zVal b σ) = (vs.map (zVal b σ)).reverse ++ .ref a1 :: rest.map (zVal b σ) := by
            rw [← hvs, ← List.map_reverse, List.reverse_reverse, ← ha1]
            show _ = _ ++ ((Value.ref a) :: rest).map (zVal b σ)
            rw [← hdr, ← List.map_append, List.take_append_drop]
          have hln : (vs.map (zVal b σ)).length = zPn N := by rw [← hvs]; simp; omega
          have hcr : 2 * (F0 m pc ls (st.map (zVal b σ))).monitorRoom + ((rest.map (zVal b σ)).map fun v => v.category).sum ≤ 8 := lv_room (by rw [zCat_map]; exact hcat)
          have hM := z_met ih hkN (fun _ => hin0) hLn hrun b σ H.size hσ
          have hPS : PreS s H (zPre D cI cZ b (.ref a :: vs) σ h H.size) (.ref a1 :: vs.map (zVal b σ)) := ⟨zPre_blind, fun U hU hW => ⟨by rw [← ha1]; rfl, by rw [hU], by rw [hU]; exact hP, va_K.moved hW.alike hK, hD.weaken (fun _ _ _ _ => trivial), zNK.warm hW hNK⟩⟩
          have hini := hts _ (zZW_of hMo.2.2.2.1 rfl)
          have hi0 := hts _ (zZW_of hi0 rfl)
          have hcc : cells + (h1.1.length - h.1.length) ≤ R.cells ∧ slots + (zSl h1 - zSl h) ≤ R.slots := ⟨by omega, by omega⟩
          have hws : zWs N = Cond.code (zYn N) (zBy N) (zMl N) none :: zZW := by rw [← hrt0]; rfl
          have hrunM : va_Run p l e R s m args below meth c H locs cells slots (h1.1.length - h.1.length) (zSl h1 - zSl h) (F0 m pc ls (st.map (zVal b σ))) (rest.map (zVal b σ)) (zQc D cI cZ b σ h1 v1 (va_A (zWl cI cZ b σ h) H.size) (Value.ref a1 :: vs.map (zVal b σ)).toArray) (va_A (zWl cI cZ b σ h) H.size) := by
            by_cases hc0 : c1 = 0
            · exact va_runI ⟨hx, hb, hml, hown, hts⟩ hM ⟨callB_of (zPn N) hts (zWs_good hMo) hws rfl rfl hini (hts _ (zZW_of (hl0 hc0) rfl)) ⟨hyd.1, hyd.2, hypn⟩ ⟨show d1 + 1 ≤ R.frames from by omega, show 8 + (zMl N + 11) + 42 * d1 ≤ R.locals from by omega⟩, hin0, hi0⟩ hPS rfl hln hL.1 hstk hcr hdg hcc
            · exact va_runIN ⟨hx, hb, hml, hown, hts⟩ hM ⟨va_cnB (zPn N) hts (zWs_good hMo) hws rfl rfl (hNK _ (hl1 hc0) rfl) hini ⟨hyd.1, hyd.2, hypn⟩ ⟨show d1 + 1 ≤ R.frames from by omega, show 8 + (zMl N + 11) + 42 * d1 ≤ R.locals from by omega⟩, hin0, hi0⟩ hPS rfl hln hL.1 hstk hcr hdg hcc
          refine z_call hrunM hS        (z_frA hD hS hA) (z_frA hD hS hA) (fun σ' H1 locs1 hG1 hp => ?_)
          obtain ⟨hL2, hst2⟩ := keep hp hG1 hkeep.2
          have e5 : v1.toList.map (zVal b σ') = v1.toList := zNr_map hkeep.1
          have g1 := ih p e R s m args below meth c Q A b M tc ts xs d (pc + 3, L, v1.toList ++ rest) h1 h' v σ' H1 locs1 (cells + (h1.1.length - h.1.length)) (slots + (zSl h1 - zSl h)) ls hr hC hd1 hd2 htc hts2 (by omega) (by omega) hG1 hX hL2 (fun σ2 H' locs' pc ls' hG2 hp2 hf => hE σ2 H' locs' pc ls' hG2 (hp.trans hp2) hf)
          have g2 : W p l e R s m args below meth c H1 locs1 (cells + (h1.1.length - h.1.length)) (slots + (zSl h1 - zSl h)) Q (F0 m (pc + 3) ls ((v1.toList ++ rest).map (zVal b σ'))) := g1
          rw [List.map_append, e5, hst2] at g2
          exact g2
        · cases hr
      · rename_i b1 c1 e1 hcp
        split at hr
        · rename_i a r
          obtain ⟨⟨k6, k7⟩, hr⟩ := zGo_inv hr
          obtain ⟨a1, ha1⟩ : ∃ a1, zVal b σ (.ref a) = .ref a1 := by cases a <;> exact ⟨_, rfl⟩
          refine W.objInit hx hb hown (hts _ (zZW_of (zcp_ok hcp) rfl)) (hts _ (zZW_of zobj_i rfl)) (hts _ (zZW_of zobj_c rfl)) rfl (by rw [hml]; exact hL.1) (rest := r.map (zVal b σ)) (a := a1) (by show zVal b σ (.ref a) :: _ = _; rw [ha1]) hdg (by omega) ?_ (go hr hL)
          have := lv_room (m := m) (pc := pc) (ls := ls) (rest := (Value.ref a :: r).map (zVal b σ)) (st := r.map (zVal b σ)) (by rw [zCat_map]; exact k7)
          have e7 : (F0 m (pc, L, Value.ref a :: r).1 ls ((pc, L, Value.ref a :: r).2.2.map (zVal b σ))).monitorRoom = (F0 m pc ls ((Value.ref a :: r).map (zVal b σ))).monitorRoom := rfl
          rw [e7]
          omega
        · cases hr
      · cases hr
    · obtain rfl := beq_iff_eq.mp hlen
      split at hr
      · rename_i x
        split at hr
        · rename_i hrt
          cases hr
          obtain rfl : cells = tc := by omega
          obtain rfl : slots = ts := by omega
          exact hE σ H locs pc ls ⟨hP, hD, hS, hσ⟩ List.prefix_rfl ⟨hdg, Or.inl hrt⟩
        · rename_i hrt
          obtain ⟨hc, hr⟩ := zGo_inv hr
          cases hr
          obtain rfl : cells = tc := by omega
          obtain rfl : slots = ts := by omega
          exact hE σ H locs pc ls ⟨hP, hD, hS, hσ⟩ List.prefix_rfl ⟨hdg, Or.inr ⟨hrt, hc⟩⟩
        · cases hr
      · cases hr
    · obtain rfl := beq_iff_eq.mp hlen
      split at hr
      · obtain ⟨hc, hr⟩ := zGo_inv hr
        cases hr
        obtain rfl : cells = tc := by omega
        obtain rfl : slots = ts := by omega
        exact hE σ H locs pc ls ⟨hP, hD, hS, hσ⟩ List.prefix_rfl ⟨hdg, hc⟩
      · cases hr
    · obtain rfl := beq_iff_eq.mp hlen
      split at hr
      · obtain ⟨hc, hr⟩ := zGo_inv hr
        cases hr
        obtain rfl : cells = tc := by omega
        obtain rfl : slots = ts := by omega
        exact hE σ H locs pc ls ⟨hP, hD, hS, hσ⟩ List.prefix_rfl ⟨hdg, hc⟩
      · cases hr
    · cases hr
