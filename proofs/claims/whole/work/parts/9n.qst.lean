/-! ===== both sides of a question ===== -/
theorem rank_live {K : MT} {T : Tr} {N : Nat} {W : Int} (I : TI K T N W) {P S : List Nat} {i : Nat} (h : live K T = P ++ i :: S) : isum (fun a => if K 4 a = 0 ∧ lessB K a i = true then 1 else 0) (List.range' 0 N) = nI P.length := by
  have sd := I.live_sorted
  rw [isum_live I (fun a ha => if_neg (fun z => ha z.1)), isum_count]
  have m4 : ∀ a, a ∈ live K T → K 4 a = 0 := fun a ha => ((I.mem_live a).mp ha).2
  rw [h] at sd m4 ⊢
  obtain ⟨-, s2, s3⟩ := List.pairwise_append.mp sd
  have s4 := (List.pairwise_cons.mp s2).1
  rw [List.countP_append]
  have e1 : P.countP (fun a => decide (K 4 a = 0 ∧ lessB K a i = true)) = P.length := List.countP_eq_length.mpr (fun a ha => decide_eq_true ⟨m4 a (List.mem_append_left _ ha), lessB_iff.mpr (s3 a ha i List.mem_cons_self)⟩)
  have e2 : (i :: S).countP (fun a => decide (K 4 a = 0 ∧ lessB K a i = true)) = 0 := List.countP_eq_zero.mpr (fun a ha z => by
    have z := (of_decide_eq_true z).2
    rw [lessB_iff] at z
    rcases List.mem_cons.mp ha with e | e
    · rw [e] at z; exact less_irrefl z
    · exact less_asymm (s4 a e) z)
  rw [e1, e2]; rfl
section QST
variable {h : AHp} {lim : Nat × Nat} {dI dM c m o sc L : Nat} {xs : Nat → Int32} {zz kk t b : Nat} {na : Nat → Nat} {K : MT} {T : Tr} {N : Nat} {W : Int} {F : Nat} {FL : Nat → List SP} {NB : Nat → Int32} {fa : Nat → Nat} {nf Cs : Nat} {cu : Nat → Nat} {tx n : Nat} {x y w : Int32}
theorem T_state (P : LW h c m o sc L xs zz kk t b na K T N W F FL NB fa nf Cs cu tx n) (hr : Rm lim zz kk) (hI : 300 < dI) (hM : 300 < dM) : Two lim dI dM c m o sc L xs zz (kk + 1) h j_It_state j_Mo_state [vi x] [(3, 1)] := by
  intro R X qn qx
  exact C_state P.1 (by omega) (fun hx => qn _ _ (P.aN hr rfl rfl (fun z Q q => S_state P.1.2.2.1.1 P.1.2.2.1.2.1 (by omega) (fun _ => q _ Sc.thn up2_at) (fun e => (e hx).elim))) P.sh) (fun hx => P.tX hr rfl rfl (fun z Q q => S_state P.1.2.2.1.1 P.1.2.2.1.2.1 (by omega) (fun e => (hx e).elim) (fun _ => q _ _ Sc.thn up2_at)) qx (fun _ p => ⟨rfl, p⟩))
theorem T_low (P : LW h c m o sc L xs zz kk t b na K T N W F FL NB fa nf Cs cu tx n) (hr : Rm lim zz kk) (hI : 300 < dI) (hM : 300 < dM) : Two lim dI dM c m o sc L xs zz (kk + 1) h j_It_low j_Mo_low [vi x] [(3, 1)] := by
  intro R X qn qx
  refine C_low P.1 (by omega) (fun i hi e => qn _ _ (P.aN hr rfl rfl (fun z Q q => ?_)) P.sh) (fun hx => P.tX hr rfl rfl (fun z Q q => S_low P.1.2.2.1.1 P.1.2.2.1.2.1 (by omega) (fun e1 e2 => (hx ⟨e1, e2⟩).elim) (fun _ => q _ _ Sc.thn up2_at)) qx (fun _ p => ⟨rfl, p⟩))
  have cl : x.toNatClampNeg = i := by rw [e]; exact nI_clamp (by have := P.1.2.1.lt hi; omega)
  refine S_low P.1.2.2.1.1 P.1.2.2.1.2.1 (by omega) (fun _ _ => ?_) (fun e1 => (e1 (P.1.in_iff.mp ⟨i, hi, e⟩)).elim)
  rw [cl]; exact q _ Sc.thn up2_at
theorem T_high (P : LW h c m o sc L xs zz kk t b na K T N W F FL NB fa nf Cs cu tx n) (hr : Rm lim zz kk) (hI : 300 < dI) (hM : 300 < dM) : Two lim dI dM c m o sc L xs zz (kk + 1) h j_It_high j_Mo_high [vi x] [(3, 1)] := by
  intro R X qn qx
  refine C_high P.1 (by omega) (fun i hi e => qn _ _ (P.aN hr rfl rfl (fun z Q q => ?_)) P.sh) (fun hx => P.tX hr rfl rfl (fun z Q q => S_high P.1.2.2.1.1 P.1.2.2.1.2.1 (by omega) (fun e1 e2 => (hx ⟨e1, e2⟩).elim) (fun _ => q _ _ Sc.thn up2_at)) qx (fun _ p => ⟨rfl, p⟩))
  have cl : x.toNatClampNeg = i := by rw [e]; exact nI_clamp (by have := P.1.2.1.lt hi; omega)
  refine S_high P.1.2.2.1.1 P.1.2.2.1.2.1 (by omega) (fun _ _ => ?_) (fun e1 => (e1 (P.1.in_iff.mp ⟨i, hi, e⟩)).elim)
  rw [cl]; exact q _ Sc.thn up2_at
theorem T_weight (P : LW h c m o sc L xs zz kk t b na K T N W F FL NB fa nf Cs cu tx n) (hr : Rm lim zz kk) (hI : 300 < dI) (hM : 300 < dM) : Two lim dI dM c m o sc L xs zz (kk + 1) h j_It_weight j_Mo_weight [vi x] [(3, 1)] := by
  intro R X qn qx
  refine C_weight P.1 (by omega) (fun i hi e => qn _ _ (P.aN hr rfl rfl (fun z Q q => ?_)) P.sh) (fun hx => P.tX hr rfl rfl (fun z Q q => S_weight P.1.2.2.1.1 P.1.2.2.1.2.1 (by omega) (fun e1 e2 => (hx ⟨e1, e2⟩).elim) (fun _ => q _ _ Sc.thn up2_at)) qx (fun _ p => ⟨rfl, p⟩))
  have cl : x.toNatClampNeg = i := by rw [e]; exact nI_clamp (by have := P.1.2.1.lt hi; omega)
  refine S_weight P.1.2.2.1.1 P.1.2.2.1.2.1 (by omega) (fun _ _ => ?_) (fun e1 => (e1 (P.1.in_iff.mp ⟨i, hi, e⟩)).elim)
  rw [cl]; exact q _ Sc.thn up2_at
theorem T_parent (P : LW h c m o sc L xs zz kk t b na K T N W F FL NB fa nf Cs cu tx n) (hr : Rm lim zz kk) (hI : 300 < dI) (hM : 300 < dM) : Two lim dI dM c m o sc L xs zz (kk + 1) h j_It_parent j_Mo_parent [vi x] [(3, 1)] := by
  intro R X qn qx
  refine C_parent P.1 (by omega) (fun i hi e => qn _ _ (P.aN hr rfl rfl (fun z Q q => ?_)) P.sh) (fun hx => P.tX hr rfl rfl (fun z Q q => S_parent P.1.2.2.1.1 P.1.2.2.1.2.1 (by omega) (fun e1 e2 => (hx ⟨e1, e2⟩).elim) (fun _ => q _ _ Sc.thn up2_at)) qx (fun _ p => ⟨rfl, p⟩))
  have cl : x.toNatClampNeg = i := by rw [e]; exact nI_clamp (by have := P.1.2.1.lt hi; omega)
  refine S_parent P.1.2.2.1.1 P.1.2.2.1.2.1 (by omega) (fun _ _ => ?_) (fun e1 => (e1 (P.1.in_iff.mp ⟨i, hi, e⟩)).elim)
  rw [cl]; exact q _ Sc.thn up2_at
theorem T_isRed (P : LW h c m o sc L xs zz kk t b na K T N W F FL NB fa nf Cs cu tx n) (hr : Rm lim zz kk) (hI : 300 < dI) (hM : 300 < dM) : Two lim dI dM c m o sc L xs zz (kk + 1) h j_It_isRed j_Mo_isRed [vi x] [(3, 1)] := by
  intro R X qn qx
  refine C_isRed P.1 (by omega) (fun i hi e => qn _ _ (P.aN hr rfl rfl (fun z Q q => ?_)) P.sh) (fun hx => P.tX hr rfl rfl (fun z Q q => S_isRed P.1.2.2.1.1 P.1.2.2.1.2.1 P.1.2.2.1.2.2.2.2.2.2.2.2.2.2.2.2 (by omega) (fun e1 e2 => (hx ⟨e1, e2⟩).elim) (fun _ => q _ _ Sc.thn up2_at)) qx (fun _ p => ⟨rfl, p⟩))
  have cl : x.toNatClampNeg = i := by rw [e]; exact nI_clamp (by have := P.1.2.1.lt hi; omega)
  refine S_isRed P.1.2.2.1.1 P.1.2.2.1.2.1 P.1.2.2.1.2.2.2.2.2.2.2.2.2.2.2.2 (by omega) (fun _ _ => ?_) (fun e1 => (e1 (P.1.in_iff.mp ⟨i, hi, e⟩)).elim)
  rw [cl]; exact q _ Sc.thn up2_at
theorem T_child (P : LW h c m o sc L xs zz kk t b na K T N W F FL NB fa nf Cs cu tx n) (hr : Rm lim zz kk) (hI : 300 < dI) (hM : 300 < dM) : Two lim dI dM c m o sc L xs zz (kk + 1) h j_It_child j_Mo_child [vi x, vi y] [(3, 1)] := by
  intro R X qn qx
  refine C_child P.1 (by omega) (fun i hi e => qn _ _ (P.aN hr rfl rfl (fun z Q q => ?_)) P.sh) (fun hx => P.tX hr rfl rfl (fun z Q q => S_child P.1.2.2.1.1 P.1.2.2.1.2.1 (by omega) (fun e1 e2 => (hx ⟨e1, e2⟩).elim) (fun _ => q _ _ Sc.thn up2_at)) qx (fun _ p => ⟨rfl, p⟩))
  have cl : x.toNatClampNeg = i := by rw [e]; exact nI_clamp (by have := P.1.2.1.lt hi; omega)
  refine S_child P.1.2.2.1.1 P.1.2.2.1.2.1 (by omega) (fun _ _ => ?_) (fun e1 => (e1 (P.1.in_iff.mp ⟨i, hi, e⟩)).elim)
  rw [cl]; exact q _ Sc.thn up2_at
theorem T_subtreeSize (P : LW h c m o sc L xs zz kk t b na K T N W F FL NB fa nf Cs cu tx n) (hr : Rm lim zz kk) (hI : 300 < dI) (hM : 300 < dM) : Two lim dI dM c m o sc L xs zz (kk + 1) h j_It_subtreeSize j_Mo_subtreeSize [vi x] [(3, 1)] := by
  intro R X qn qx
  refine C_subtreeSize P.1 (by omega) (fun hx => P.tX hr rfl rfl (fun z Q q => S_subtreeSize P.1.2.2.1 (by omega) (fun _ => q _ _ Sc.thn up2_at) (fun i hi e => (hx (P.1.in_iff.mp ⟨i, hi, e⟩)).elim)) qx (fun _ p => ⟨rfl, p⟩)) (fun i hi e => qn _ _ (P.aN hr rfl rfl (fun z Q q => S_subtreeSize P.1.2.2.1 (by omega) (fun e1 => (e1 (P.1.in_iff.mp ⟨i, hi, e⟩)).elim) (fun j hj ej => ?_))) P.sh)
  have : j = i := nI_inj (P.1.2.1.lt hj) (P.1.2.1.lt hi) (ej.symm.trans e)
  rw [this]; exact q _ Sc.thn up2_at
theorem T_subtreeHigh (P : LW h c m o sc L xs zz kk t b na K T N W F FL NB fa nf Cs cu tx n) (hr : Rm lim zz kk) (hI : 300 < dI) (hM : 300 < dM) : Two lim dI dM c m o sc L xs zz (kk + 1) h j_It_subtreeHigh j_Mo_subtreeHigh [vi x] [(3, 1), (2, 2)] := by
  intro R X qn qx
  have ne : ∀ {i j}, i ∈ ino T → j ∈ ino T → x = nI i → x = nI j → j = i := fun {i j} hi hj e ej => nI_inj (P.1.2.1.lt hj) (P.1.2.1.lt hi) (ej.symm.trans e)
  refine C_subtreeHigh P.1 (by omega) (fun hx => P.tX hr rfl rfl (fun z Q q => S_subtreeHigh P.1.2.2.1 (by omega) (fun _ => q _ _ Sc.thn up2_at) (fun i hi e => (hx (P.1.in_iff.mp ⟨i, hi, e⟩)).elim) (fun i hi e => (hx (P.1.in_iff.mp ⟨i, hi, e⟩)).elim)) qx (fun _ p => Or.inl ⟨rfl, p⟩)) (fun i hi e hs => P.tX hr rfl rfl (fun z Q q => S_subtreeHigh P.1.2.2.1 (by omega) (fun e1 => (e1 (P.1.in_iff.mp ⟨i, hi, e⟩)).elim) (fun _ _ _ _ => q _ _ Sc.thn up2_at) (fun j hj ej hs2 => ?_)) qx (fun _ p => Or.inr ⟨rfl, p⟩)) (fun i hi e hs => qn _ _ (P.aN hr rfl rfl (fun z Q q => S_subtreeHigh P.1.2.2.1 (by omega) (fun e1 => (e1 (P.1.in_iff.mp ⟨i, hi, e⟩)).elim) (fun j hj ej hs2 => ?_) (fun j hj ej _ => ?_))) P.sh)
  · rw [ne hi hj e ej] at hs2; exact (hs2 hs).elim
  · rw [ne hi hj e ej] at hs2; exact (hs hs2).elim
  · rw [ne hi hj e ej]; exact q _ (Sc.thn.trans Sc.m20) ((up2_ne (by decide)).trans up2_at)
theorem T_subtreeWeight (P : LW h c m o sc L xs zz kk t b na K T N W F FL NB fa nf Cs cu tx n) (hr : Rm lim zz kk) (hI : 300 < dI) (hM : 300 < dM) : Two lim dI dM c m o sc L xs zz (kk + 1) h j_It_subtreeWeight j_Mo_subtreeWeight [vi x] [(3, 1), (2, 2)] := by
  intro R X qn qx
  have ne : ∀ {i j}, i ∈ ino T → j ∈ ino T → x = nI i → x = nI j → j = i := fun {i j} hi hj e ej => nI_inj (P.1.2.1.lt hj) (P.1.2.1.lt hi) (ej.symm.trans e)
  refine C_subtreeWeight P.1 (by omega) (fun hx => P.tX hr rfl rfl (fun z Q q => S_subtreeWeight P.1.2.2.1 (by omega) (fun _ => q _ _ Sc.thn up2_at) (fun i hi e => (hx (P.1.in_iff.mp ⟨i, hi, e⟩)).elim) (fun i hi e => (hx (P.1.in_iff.mp ⟨i, hi, e⟩)).elim)) qx (fun _ p => Or.inl ⟨rfl, p⟩)) (fun i hi e hs => P.tX hr rfl rfl (fun z Q q => S_subtreeWeight P.1.2.2.1 (by omega) (fun e1 => (e1 (P.1.in_iff.mp ⟨i, hi, e⟩)).elim) (fun _ _ _ _ => q _ _ Sc.thn up2_at) (fun j hj ej hs2 => ?_)) qx (fun _ p => Or.inr ⟨rfl, p⟩)) (fun i hi e hs => qn _ _ (P.aN hr rfl rfl (fun z Q q => S_subtreeWeight P.1.2.2.1 (by omega) (fun e1 => (e1 (P.1.in_iff.mp ⟨i, hi, e⟩)).elim) (fun j hj ej hs2 => ?_) (fun j hj ej _ => ?_))) P.sh)
  · rw [ne hi hj e ej] at hs2; exact (hs2 hs).elim
  · rw [ne hi hj e ej] at hs2; exact (hs hs2).elim
  · rw [ne hi hj e ej]; exact q _ (Sc.thn.trans Sc.m20) ((up2_ne (by decide)).trans up2_at)
theorem T_heaviest (P : LW h c m o sc L xs zz kk t b na K T N W F FL NB fa nf Cs cu tx n) (hr : Rm lim zz kk) (hI : 300 < dI) (hM : 300 < dM) : Two lim dI dM c m o sc L xs zz (kk + 1) h j_It_heaviest j_Mo_heaviest [vi x, vi w] [(1, 1)] := by
  intro R X qn qx
  refine C_heaviest P.1 (by omega) (fun hx => P.tX hr rfl rfl (fun z Q q => S_heaviest P.1.2.2.1 (by omega) (fun _ => q _ _ Sc.thn up2_at) (fun e => by omega)) qx (fun _ p => ⟨rfl, p⟩)) (fun hx a ha => qn _ _ (P.aN hr rfl rfl (fun z Q q => S_heaviest P.1.2.2.1 (by omega) (fun e => by omega) (fun _ a' ha' => ?_))) P.sh)
  rw [Rk_uniq P.1.2.2.1 ha' ha]; exact q _ Sc.thn up2_at
theorem T_heaviestOverlap (P : LW h c m o sc L xs zz kk t b na K T N W F FL NB fa nf Cs cu tx n) (hr : Rm lim zz kk) (hI : 300 < dI) (hM : 300 < dM) : Two lim dI dM c m o sc L xs zz (kk + 1) h j_It_heaviestOverlap j_Mo_heaviestOverlap [vi x, vi y, vi w] [(1, 1)] := by
  intro R X qn qx
  refine C_heaviestOverlap P.1 (by omega) (fun hx => P.tX hr rfl rfl (fun z Q q => S_heaviestOverlap P.1.2.2.1 (by omega) (fun _ => q _ _ Sc.thn up2_at) (fun e => (e hx).elim)) qx (fun _ p => ⟨rfl, p⟩)) (fun hx a ha => qn _ _ (P.aN hr rfl rfl (fun z Q q => S_heaviestOverlap P.1.2.2.1 (by omega) (fun e => (hx e).elim) (fun _ a' ha' => ?_))) P.sh)
  rw [Rk_uniq P.1.2.2.1 ha' ha]; exact q _ Sc.thn up2_at
theorem T_firstOverlap (P : LW h c m o sc L xs zz kk t b na K T N W F FL NB fa nf Cs cu tx n) (hr : Rm lim zz kk) (hI : 300 < dI) (hM : 300 < dM) : Two lim dI dM c m o sc L xs zz (kk + 1) h j_It_firstOverlap j_Mo_firstOverlap [vi x, vi y] [(1, 1)] := by
  intro R X qn qx
  refine C_firstOverlap P.1 (by omega) (fun hx => qn _ _ (P.aN hr rfl rfl (fun z Q q => S_firstOverlap P.1.2.2.1.1 P.1.2.2.1.2.1 (by omega) (fun e => (hx e).elim) (fun _ l M' hl hp => ?_))) P.sh) (fun hx => P.tX hr rfl rfl (fun z Q q => S_firstOverlap P.1.2.2.1.1 P.1.2.2.1.2.1 (by omega) (fun _ => q _ _ Sc.thn up2_at) (fun e => (e hx).elim)) qx (fun _ p => ⟨rfl, p⟩))
  rw [(P.1.2.2.1).row hl]; exact q _ (Sc.thn.trans (Sc.row hp)) ((hp 0 0 (by decide) (by decide)).trans up2_at)
theorem T_rank (P : LW h c m o sc L xs zz kk t b na K T N W F FL NB fa nf Cs cu tx n) (hr : Rm lim zz kk) (hI : 300 < dI) (hM : 300 < dM) : Two lim dI dM c m o sc L xs zz (kk + 1) h j_It_rank j_Mo_rank [vi x] [(3, 1)] := by
  intro R X qn qx
  refine C_rank P.1 (by omega) (fun i hi e P1 S1 hs => qn _ _ (P.aN hr rfl rfl (fun z Q q => S_rank P.1.2.2.1.1 P.1.2.2.1.2.1 (by omega) (fun j hj ej h4 => ?_) (fun e1 => ?_))) P.sh) (fun hx => P.tX hr rfl rfl (fun z Q q => S_rank P.1.2.2.1.1 P.1.2.2.1.2.1 (by omega) (fun j hj ej h4 => ?_) (fun _ => q _ _ Sc.thn up2_at)) qx (fun _ p => ⟨rfl, p⟩))
  · have : j = i := nI_inj (by have := P.1.2.2.1.2.1; omega) (P.1.2.1.lt (lvT hi).1) (ej.symm.trans e)
    rw [this, rank_live P.1.2.2.1 hs]; exact q _ Sc.thn up2_at
  · have hi2 := (P.1.2.2.1.mem_live i).mp hi
    have h5 := P.1.2.2.1.2.1
    exact (e1 ⟨by rw [e]; exact ix_nI hi2.1 (by omega), by rw [e, nI_clamp (by omega)]; exact hi2.2⟩).elim
  · have h5 := P.1.2.2.1.2.1
    exact (hx ⟨by rw [ej]; exact ix_nI hj (by omega), by rw [ej, nI_clamp (by omega)]; exact h4⟩).elim
theorem T_select (P : LW h c m o sc L xs zz kk t b na K T N W F FL NB fa nf Cs cu tx n) (hr : Rm lim zz kk) (hI : 300 < dI) (hM : 300 < dM) : Two lim dI dM c m o sc L xs zz (kk + 1) h j_It_select j_Mo_select [vi x] [(4, 1)] := by
  intro R X qn qx
  have hlen : (live K T).length ≤ 100 := by have := P.1.2.2.1.len; have := P.1.2.2.1.2.2.2.2.2.2.2.2.2.1; omega
  refine C_select P.1 (by omega) (fun P1 i S1 hs e => qn _ _ (P.aN hr rfl rfl (fun z Q q => S_select (n := (live K T).length) P.1.2.2.1.1 P.1.2.2.1.2.1 (P.1.2.2.1).size (by omega) (by omega) (fun _ l M' hl hri hp => ?_) (fun e1 => ?_))) P.sh) (fun hx => P.tX hr rfl rfl (fun z Q q => S_select (n := (live K T).length) P.1.2.2.1.1 P.1.2.2.1.2.1 (P.1.2.2.1).size (by omega) (by omega) (fun e1 => (hx e1).elim) (fun _ => q _ _ Sc.thn up2_at)) qx (fun _ p => ⟨rfl, p⟩))
  · have hP1 : P1.length < (live K T).length := by rw [hs, List.length_append, List.length_cons]; omega
    rw [(P.1.2.2.1).row hl] at hri
    rw [e, nI_clamp (by omega), hri P1.length i (by rw [hs, List.getElem?_append_right (Nat.le_refl _), Nat.sub_self]; rfl)]
    exact q _ (Sc.thn.trans (Sc.row hp)) ((hp 0 0 (by decide) (by decide)).trans up2_at)
  · have hP1 : P1.length < (live K T).length := by rw [hs, List.length_append, List.length_cons]; omega
    exact (e1 (by rw [e]; exact ix_nI hP1 (by omega))).elim
theorem T_nearest (P : LW h c m o sc L xs zz kk t b na K T N W F FL NB fa nf Cs cu tx n) (hr : Rm lim zz kk) (hI : 300 < dI) (hM : 300 < dM) : Two lim dI dM c m o sc L xs zz (kk + 1) h j_It_nearest j_Mo_nearest [vi x] [(1, 1)] := by
  intro R X qn qx
  refine C_nearest P.1 (by omega) (fun hx => P.tX hr rfl rfl (fun z Q q => S_nearest P.1.2.2.1.1 P.1.2.2.1.2.1 (by omega) (fun _ => q _ _ Sc.thn up2_at) (fun e => (hx e).elim)) qx (fun _ p => ⟨rfl, p⟩)) (fun hx => qn _ _ (P.aN hr rfl rfl (fun z Q q => S_nearest P.1.2.2.1.1 P.1.2.2.1.2.1 (by omega) (fun e => (e hx).elim) (fun _ l M' hl hp => ?_))) P.sh)
  rw [(P.1.2.2.1).row hl]; exact q _ (Sc.thn.trans (Sc.row hp)) ((hp 0 0 (by decide) (by decide)).trans up2_at)
theorem T_covered (P : LW h c m o sc L xs zz kk t b na K T N W F FL NB fa nf Cs cu tx n) (hr : Rm lim zz kk) (hI : 300 < dI) (hM : 300 < dM) : Two lim dI dM c m o sc L xs zz (kk + 1) h j_It_covered j_Mo_covered [vi x, vi y] [(1, 1)] := by
  intro R X qn qx
  exact C_covered P.1 (by omega) (fun hx => P.tX hr rfl rfl (fun z Q q => S_covered P.1.2.2.1 (by omega) (fun _ => q _ _ Sc.thn up2_at) (fun e => (hx e).elim)) qx (fun _ p => ⟨rfl, p⟩)) (fun hx => qn _ _ (P.aN hr rfl rfl (fun z Q q => S_covered P.1.2.2.1 (by omega) (fun e => (e hx).elim) (fun _ M' hp => q _ (Sc.thn.trans (Sc.cov hp)) ((hp 0 0 (by decide)).trans up2_at)))) P.sh)
theorem T_deepestPoint (P : LW h c m o sc L xs zz kk t b na K T N W F FL NB fa nf Cs cu tx n) (hr : Rm lim zz kk) (hI : 300 < dI) (hM : 300 < dM) : Two lim dI dM c m o sc L xs zz (kk + 1) h j_It_deepestPoint j_Mo_deepestPoint [] [(3, 1)] := by
  intro R X qn qx
  refine C_deepestPoint P.1 (by omega) (fun hx => P.tX hr rfl rfl (fun z Q q => S_deepestPoint P.1.2.2.1 (by omega) (fun _ => q _ _ Sc.thn up2_at) (fun e => (e hx).elim)) qx (fun _ p => ⟨rfl, p⟩)) (fun D hD => qn _ _ (P.aN hr rfl rfl (fun z Q q => S_deepestPoint P.1.2.2.1 (by omega) (fun e => ?_) (fun _ f M' hf hp => ?_))) P.sh)
  · obtain ⟨⟨j, hj, -⟩, -⟩ := hD
    rw [e] at hj; cases hj
  · rw [← deep_eq P.1.2.2.1 hf hD]; exact q _ (Sc.thn.trans (Sc.cov hp)) ((hp 0 0 (by decide)).trans up2_at)
theorem T_piercingPoint (P : LW h c m o sc L xs zz kk t b na K T N W F FL NB fa nf Cs cu tx n) (hr : Rm lim zz kk) (hI : 300 < dI) (hM : 300 < dM) : Two lim dI dM c m o sc L xs zz (kk + 1) h j_It_piercingPoint j_Mo_piercingPoint [vi x] [(4, 1)] := by
  intro R X qn qx
  refine C_piercingPoint P.1 (by omega) (fun hx => P.tX hr rfl rfl (fun z Q q => S_piercingPoint P.1.2.2.1 (by omega) (fun _ => q _ _ Sc.thn up2_at) (fun e => by omega) (fun e => by omega)) qx (fun _ p => ⟨rfl, p⟩)) (fun hx e => P.tX hr rfl rfl (fun z Q q => S_piercingPoint P.1.2.2.1 (by omega) (fun e => by omega) (fun _ _ => q _ _ Sc.thn up2_at) (fun _ v ev => ?_)) qx (fun _ p => ⟨rfl, p⟩)) (fun hx v e => qn _ _ (P.aN hr rfl rfl (fun z Q q => S_piercingPoint P.1.2.2.1 (by omega) (fun e => by omega) (fun _ ev => ?_) (fun _ v' ev => ?_))) P.sh)
  · rw [e] at ev; cases ev
  · rw [e] at ev; cases ev
  · rw [e] at ev; cases ev; exact q _ Sc.thn up2_at
theorem T_matchCount (P : LW h c m o sc L xs zz kk t b na K T N W F FL NB fa nf Cs cu tx n) (hr : Rm lim zz kk) (hI : 300 < dI) (hM : 300 < dM) : Two lim dI dM c m o sc L xs zz (kk + 1) h j_It_matchCount j_Mo_matchCount [vi x] [(1, 1)] := by
  intro R X qn qx
  have h8 := (P.2.2.2.1.2.2.1).1
  have ixf : ∀ {f}, f < nf → x = nI f → ix x nf := fun {f} hf e => by rw [e]; exact ix_nI hf (by omega)
  refine C_matchCount P.1 (by omega) P.2.2.2.1.2.1 (fun hx => P.tX hr rfl rfl (fun z Q q => S_matchCount P.1.2.2.1 P.2.2.2.1.2.2.1 (by omega) (fun _ => q _ _ Sc.thn up2_at) (fun f hf e => (hx (ixf hf e)).elim)) qx (fun _ p => ⟨rfl, p⟩)) (fun f hf e => qn _ _ (P.aN hr rfl rfl (fun z Q q => S_matchCount P.1.2.2.1 P.2.2.2.1.2.2.1 (by omega) (fun e1 => (e1 (ixf hf e)).elim) (fun g hg eg M2 E => ?_))) P.sh)
  have : g = f := nI_inj (by omega) (by omega) (eg.symm.trans e)
  rw [this]; exact q _ (Sc.thn.trans (Sc.e22 E)) ((E 0 0 (by decide)).trans up2_at)
theorem T_accepts (P : LW h c m o sc L xs zz kk t b na K T N W F FL NB fa nf Cs cu tx n) (hr : Rm lim zz kk) (hI : 300 < dI) (hM : 300 < dM) : Two lim dI dM c m o sc L xs zz (kk + 1) h j_It_accepts j_Mo_accepts [vi x, vi y] [(1, 1), (3, 2)] := by
  intro R X qn qx
  have h8 := (P.2.2.2.1.2.2.1).1
  have ixf : ∀ {f}, f < nf → x = nI f → ix x nf := fun {f} hf e => by rw [e]; exact ix_nI hf (by omega)
  refine C_accepts P.1 (by omega) P.2.2.2.1.2.1 (fun hx => P.tX hr rfl rfl (fun z Q q => S_accepts P.1.2.2.1 P.2.2.2.1.2.2.1 (by omega) (fun _ => q _ _ Sc.thn up2_at) (fun e => (hx e).elim) (fun f i hf e => (hx (ixf hf e)).elim)) qx (fun _ p => Or.inl ⟨rfl, p⟩)) (fun hx hy => P.tX hr rfl rfl (fun z Q q => S_accepts P.1.2.2.1 P.2.2.2.1.2.2.1 (by omega) (fun e => (e hx).elim) (fun _ _ => q _ _ Sc.thn up2_at) (fun f i hf e hi ei => (hy (P.1.in_iff.mp ⟨i, hi, ei⟩)).elim)) qx (fun _ p => Or.inr ⟨rfl, p⟩)) (fun f i hf e hi ei => qn _ _ (P.aN hr rfl rfl (fun z Q q => S_accepts P.1.2.2.1 P.2.2.2.1.2.2.1 (by omega) (fun e1 => (e1 (ixf hf e)).elim) (fun _ e1 => (e1 (P.1.in_iff.mp ⟨i, hi, ei⟩)).elim) (fun g j hg eg hj ej M2 E => ?_))) P.sh)
  have e1 : g = f := nI_inj (by omega) (by omega) (eg.symm.trans e)
  have e2 : j = i := nI_inj (P.1.2.1.lt hj) (P.1.2.1.lt hi) (ej.symm.trans ei)
  rw [e1, e2]; exact q _ (Sc.thn.trans (Sc.e22 E)) ((E 0 0 (by decide)).trans up2_at)
theorem T_hasNext (P : LW h c m o sc L xs zz kk t b na K T N W F FL NB fa nf Cs cu tx n) (hr : Rm lim zz kk) (hI : 300 < dI) (hM : 300 < dM) : Two lim dI dM c m o sc L xs zz (kk + 1) h j_It_hasNext j_Mo_hasNext [vi x] [(1, 1), (2, 2)] := by
  intro R X qn qx
  have h8 := (P.2.2.2.1.2.2.1).1
  have h5 := P.1.2.2.1.2.1
  have ix4 : ∀ {k}, k < 4 → x = nI k → ix x 4 := fun {k} hk4 e => by rw [e]; exact ix_nI hk4 (by decide)
  have e4 : ∀ {k j}, k < 4 → j < 4 → x = nI k → x = nI j → j = k := fun {k j} hk4 hj e ej => nI_inj (by omega) (by omega) (ej.symm.trans e)
  refine C_hasNext P.1 (by omega) P.2.2.2.1.2.1 P.2.2.2.1.2.2.2.1 (fun hx => P.tX hr rfl rfl (fun z Q q => S_hasNext P.1.2.2.1 P.2.2.2.1.2.2.1 (P.2.2.2.1.2.2.2.1).cp (by omega) (fun _ => q _ _ Sc.thn up2_at) (fun k hk4 e => (hx (ix4 hk4 e)).elim) (fun k f lst hk4 e => (hx (ix4 hk4 e)).elim)) qx (fun _ p => Or.inl ⟨rfl, p⟩)) (fun k hk4 e h24 => P.tX hr rfl rfl (fun z Q q => S_hasNext P.1.2.2.1 P.2.2.2.1.2.2.1 (P.2.2.2.1.2.2.2.1).cp (by omega) (fun e1 => (e1 (ix4 hk4 e)).elim) (fun _ _ _ _ => q _ _ Sc.thn up2_at) (fun j f lst hj ej h => ?_)) qx (fun _ p => Or.inr ⟨rfl, p⟩)) (fun k f lst hk4 e h24 hf e25 e26 hl => qn _ _ (P.aN hr rfl rfl (fun z Q q => S_hasNext P.1.2.2.1 P.2.2.2.1.2.2.1 (P.2.2.2.1.2.2.2.1).cp (by omega) (fun e1 => (e1 (ix4 hk4 e)).elim) (fun j hj ej h => ?_) (fun j g lst2 hj ej h hg g25 g26 hl2 M2 E => ?_))) P.sh)
  · rw [e4 hk4 hj e ej, h24] at h; cases h
  · rw [e4 hk4 hj e ej, h24] at h; cases h
  · rw [e4 hk4 hj e ej] at g25 g26
    have e1 : g = f := nI_inj (by omega) (by omega) (g25.symm.trans e25)
    have e2 : lst2 = lst := idI_inj (fun j hj => by have := hl2 j hj; omega) (fun j hj => by have := hl j hj; omega) (g26.symm.trans e26)
    rw [e1, e2]; exact q _ (Sc.thn.trans (Sc.e22 E)) ((E 0 0 (by decide)).trans up2_at)
theorem T_size (P : LW h c m o sc L xs zz kk t b na K T N W F FL NB fa nf Cs cu tx n) (hr : Rm lim zz kk) (hI : 300 < dI) (hM : 300 < dM) : Two0 lim dI dM c m o sc L xs zz (kk + 1) h j_It_size j_Mo_size [] := by
  intro R X qn
  refine C_size P.1 (qn _ _ (P.a0 hr rfl rfl (fun z Q q => S_size (by omega) ?_)) P.sh)
  rw [(P.1.2.2.1).size]; exact q _ Sc.refl
theorem T_nodeCount (P : LW h c m o sc L xs zz kk t b na K T N W F FL NB fa nf Cs cu tx n) (hr : Rm lim zz kk) (hI : 300 < dI) (hM : 300 < dM) : Two0 lim dI dM c m o sc L xs zz (kk + 1) h j_It_nodeCount j_Mo_nodeCount [] := by
  intro R X qn
  exact C_nodeCount P.1 (qn _ _ (P.a0 hr rfl rfl (fun z Q q => M_nodeCount_0 (q _ Sc.refl))) P.sh)
theorem T_rebuildCount (P : LW h c m o sc L xs zz kk t b na K T N W F FL NB fa nf Cs cu tx n) (hr : Rm lim zz kk) (hI : 300 < dI) (hM : 300 < dM) : Two0 lim dI dM c m o sc L xs zz (kk + 1) h j_It_rebuildCount j_Mo_rebuildCount [] := by
  intro R X qn
  exact C_rebuildCount P.1 (qn _ _ (P.a0 hr rfl rfl (fun z Q q => M_rebuildCount_0 (q _ Sc.refl))) P.sh)
theorem T_rebuiltNodes (P : LW h c m o sc L xs zz kk t b na K T N W F FL NB fa nf Cs cu tx n) (hr : Rm lim zz kk) (hI : 300 < dI) (hM : 300 < dM) : Two0 lim dI dM c m o sc L xs zz (kk + 1) h j_It_rebuiltNodes j_Mo_rebuiltNodes [] := by
  intro R X qn
  exact C_rebuiltNodes P.1 (qn _ _ (P.a0 hr rfl rfl (fun z Q q => M_rebuiltNodes_0 (q _ Sc.refl))) P.sh)
theorem T_height (P : LW h c m o sc L xs zz kk t b na K T N W F FL NB fa nf Cs cu tx n) (hr : Rm lim zz kk) (hI : 300 < dI) (hM : 300 < dM) : Two0 lim dI dM c m o sc L xs zz (kk + 1) h j_It_height j_Mo_height [] := by
  intro R X qn
  exact C_height P.1 (by omega) (qn _ _ (P.a0 hr rfl rfl (fun z Q q => S_height P.1.2.2.1 (by omega) (q _ Sc.refl))) P.sh)
theorem T_digest (P : LW h c m o sc L xs zz kk t b na K T N W F FL NB fa nf Cs cu tx n) (hr : Rm lim zz kk) (hI : 300 < dI) (hM : 300 < dM) : Two0 lim dI dM c m o sc L xs zz (kk + 1) h j_It_digest j_Mo_digest [] := by
  intro R X qn
  exact C_digest P.1 P.2.2.2.1.1.tab (by omega) (qn _ _ (P.a0 hr rfl rfl (fun z Q q => S_digest P.1.2.2.1 (by omega) (q _ Sc.m21))) P.sh)
theorem T_stabCount (P : LW h c m o sc L xs zz kk t b na K T N W F FL NB fa nf Cs cu tx n) (hr : Rm lim zz kk) (hI : 300 < dI) (hM : 300 < dM) : Two0 lim dI dM c m o sc L xs zz (kk + 1) h j_It_stabCount j_Mo_stabCount [vi x] := by
  intro R X qn
  refine C_stabCount P.1 (by omega) (qn _ _ (P.a0 hr rfl rfl (fun z Q q => S_stabCount P.1.2.2.1.1 P.1.2.2.1.2.1 (by omega) ?_)) P.sh)
  rw [isum_live P.1.2.2.1 (fun a ha => if_neg (fun z => ha z.1)), isum_congr (f' := fun a => if (K 1 a).toInt ≤ x.toInt ∧ x.toInt ≤ (K 2 a).toInt then 1 else 0) (fun a ha => by
    have h4 := (lvT ha).2
    by_cases e : (K 1 a).toInt ≤ x.toInt ∧ x.toInt ≤ (K 2 a).toInt
    · rw [if_pos ⟨h4, e.1, e.2⟩, if_pos e]
    · rw [if_neg (fun z => e z.2), if_neg e])]
  exact q _ Sc.refl
theorem T_stabWeight (P : LW h c m o sc L xs zz kk t b na K T N W F FL NB fa nf Cs cu tx n) (hr : Rm lim zz kk) (hI : 300 < dI) (hM : 300 < dM) : Two0 lim dI dM c m o sc L xs zz (kk + 1) h j_It_stabWeight j_Mo_stabWeight [vi x] := by
  intro R X qn
  refine C_stabWeight P.1 (by omega) (qn _ _ (P.a0 hr rfl rfl (fun z Q q => S_stabWeight P.1.2.2.1.1 P.1.2.2.1.2.1 (by omega) ?_)) P.sh)
  rw [isum_live P.1.2.2.1 (fun a ha => if_neg (fun z => ha z.1)), isum_congr (f' := fun a => if (K 1 a).toInt ≤ x.toInt ∧ x.toInt ≤ (K 2 a).toInt then K 3 a else 0) (fun a ha => by
    have h4 := (lvT ha).2
    by_cases e : (K 1 a).toInt ≤ x.toInt ∧ x.toInt ≤ (K 2 a).toInt
    · rw [if_pos ⟨h4, e.1, e.2⟩, if_pos e]
    · rw [if_neg (fun z => e z.2), if_neg e])]
  exact q _ Sc.refl
theorem T_floor (P : LW h c m o sc L xs zz kk t b na K T N W F FL NB fa nf Cs cu tx n) (hr : Rm lim zz kk) (hI : 300 < dI) (hM : 300 < dM) : Two0 lim dI dM c m o sc L xs zz (kk + 1) h j_It_floor j_Mo_floor [vi x] := by
  intro R X qn
  refine C_floor P.1 (by omega) (qn _ _ (P.a0 hr rfl rfl (fun z Q q => S_floor P.1.2.2.1.1 P.1.2.2.1.2.1 (by omega) (fun l M' hl hp => ?_))) P.sh)
  rw [(P.1.2.2.1).row hl]; exact q _ (Sc.row hp)
theorem T_ceiling (P : LW h c m o sc L xs zz kk t b na K T N W F FL NB fa nf Cs cu tx n) (hr : Rm lim zz kk) (hI : 300 < dI) (hM : 300 < dM) : Two0 lim dI dM c m o sc L xs zz (kk + 1) h j_It_ceiling j_Mo_ceiling [vi x] := by
  intro R X qn
  refine C_ceiling P.1 (by omega) (qn _ _ (P.a0 hr rfl rfl (fun z Q q => S_ceiling P.1.2.2.1.1 P.1.2.2.1.2.1 (by omega) (fun l M' hl hp => ?_))) P.sh)
  rw [(P.1.2.2.1).row hl]; exact q _ (Sc.row hp)
theorem T_overlapCount (P : LW h c m o sc L xs zz kk t b na K T N W F FL NB fa nf Cs cu tx n) (hr : Rm lim zz kk) (hI : 300 < dI) (hM : 300 < dM) : Two0 lim dI dM c m o sc L xs zz (kk + 1) h j_It_overlapCount j_Mo_overlapCount [] := by
  intro R X qn
  refine C_overlapCount P.1 (by omega) (qn _ _ (P.a0 hr rfl rfl (fun z Q q => S_overlapCount P.1.2.2.1.1 P.1.2.2.1.2.1 (by omega) (fun l M' hl hp => ?_))) P.sh)
  rw [(P.1.2.2.1).row hl]; exact q _ (Sc.row hp)
end QST
