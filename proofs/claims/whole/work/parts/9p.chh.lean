/-! ===== both sides of removals, insertions, schedules ===== -/
theorem rmM_thn {M : MT} {i r j : Nat} (h : ¬ (r = 0 ∧ j = 0)) : rmM (thn M 0) i r j = rmM M i r j := by
  unfold rmM
  rw [thn_e (r := 0) (i := 12) (by omega)]
  by_cases z : r = 0 ∧ j = 12
  · rw [z.1, z.2, up2_at, up2_at]
  · rw [up2_ne z, up2_ne z]
    by_cases z2 : r = 4 ∧ j = i
    · rw [z2.1, z2.2, up2_at, up2_at]
    · rw [up2_ne z2, up2_ne z2, thn_e h]
theorem rmM_e {M : MT} {i r j : Nat} (h : ¬ (r = 0 ∧ j = 12)) (h2 : ¬ (r = 4 ∧ j = i)) : rmM M i r j = M r j := by
  unfold rmM; rw [up2_ne h, up2_ne h2]
theorem mkM_e {M : MT} {T : Tr} {i r j : Nat} (h : r ≠ 43) : mkM M T i r j = rmM M i r j := by
  unfold mkM; rw [up2_ne (by omega)]
theorem due_thn {M : MT} {i : Nat} : due (rmM (thn M 0) i) ↔ due (rmM M i) := by
  unfold due; rw [rmM_thn (by omega), rmM_thn (by omega), rmM_thn (by omega)]
theorem live_rm {M : MT} {T : Tr} {i : Nat} : live (rmM (thn M 0) i) T = live (rmM M i) T := live_E (fun k => rmM_thn (by omega))
theorem live_mk {M : MT} {T : Tr} {i : Nat} : live (mkM M T i) T = live (rmM M i) T := live_E (fun k => mkM_e (by omega))
theorem rmz0 {M : MT} {i : Nat} : rmM (thn M 0) i 0 0 = 0 := by rw [rmM_e (by omega) (by omega)]; exact up2_at
theorem Sc.sm {N : Nat} {K M' : MT} (s : Sc K M') : Sm N K M' :=
  ⟨fun r i h1 h2 h3 => s r i (by omega) h3 (by omega), fun i hi => s 0 i (by omega) (by omega) (by omega), fun i _ => ⟨s 1 i (by omega) (by omega) (by omega), s 2 i (by omega) (by omega) (by omega)⟩⟩
section CHG3
variable {h h1 g' gB : AHp} {lim : Nat × Nat} {d dI dM jM c m o sc L : Nat} {aM : List AV} {xs : Nat → Int32} {zz kk t b : Nat} {na : Nat → Nat} {K M' Kc : MT} {T : Tr} {N : Nat} {W : Int} {F : Nat} {FL : Nat → List SP} {NB : Nat → Int32} {fa : Nat → Nat} {nf Cs : Nat} {cu : Nat → Nat} {tx n i : Nat} {x y w k l u : Int32}
theorem rm_sm : Sm N K (rmM (thn K 0) i) :=
  ⟨fun r j h1 h2 h3 => by rw [rmM_thn (by omega), rmM_e (by omega) (by omega)], fun j hj => by rw [rmM_thn (by omega), rmM_e (by omega) (by omega)], fun j hj => ⟨by rw [rmM_thn (by omega), rmM_e (by omega) (by omega)], by rw [rmM_thn (by omega), rmM_e (by omega) (by omega)]⟩⟩
theorem rm_chg (O : RO g' c t b na (mkM K T i) T N W) (hW : 999 ≤ W) : Chg h g' c t b na K T N W (rmM (thn K 0) i) :=
  Chg.same O (fun r j h1 h2 => by rw [rmM_thn (by omega), mkM_e (by omega)]) (fun j h1 h2 => by rw [rmM_thn (by omega), mkM_e (by omega)]) rm_sm ⟨hW, by omega⟩
theorem rm_chgD (O : RO h c t b na K T N W) (hi : i ∈ live K T) (hW : 999 ≤ W) (V : CV gB g' t b na (fun i => i ∈ ino T) Kc) (NP : NulP h gB b ((ino T).filter fun z => decide (¬ mkM K T i 4 z = 0))) (RP : RenP (mkM K T i) Kc (live (rmM K i) T)) (p : RebP (rmM (thn K 0) i) M' N (live (rmM (thn K 0) i) T)) (I' : TI M' (bt 7 (live (rmM (thn K 0) i) T)) N W) : Chg h g' c t b na K T N W M' := by
  rw [live_rm, ← live_mk] at p I'
  rw [← live_mk] at RP
  have I2 : TI (mkM K T i) T N W := TI_congr (fun r j h1 h2 => mkM_e (by omega)) (fun j h1 h2 => mkM_e (by omega)) (TI_rm O.2.2.1 hi)
  have hl : (live (mkM K T i) T).length ≤ 100 := by have := I2.len; have := I2.2.2.2.2.2.2.2.2.2.1; omega
  exact ⟨na, Kc, _, N, W, (O.renew V I2 NP RP p (fun r j h1 h2 => by rw [rmM_thn (by omega), mkM_e (by omega)]) (fun j hj => by rw [rmM_thn (by omega), mkM_e (by omega)]) I').1, p.sm rm_sm, Nat.le_refl _, fun a z => Or.inl (own_bt hl z), ⟨hW, by omega⟩⟩
theorem T_remove (P : LW h c m o sc L xs zz kk t b na K T N W F FL NB fa nf Cs cu tx n) (hr : Rm lim zz kk) (hI : 300 < dI) (hM : 300 < dM) : Two lim dI dM c m o sc L xs zz (kk + 1) h j_It_remove j_Mo_remove [vi x] [(3, 1)] := by
  intro R X qn qx
  have h5 := P.1.2.2.1.2.1
  have lvx : ∀ {i}, i ∈ live K T → x = nI i → ix x N ∧ K 4 x.toNatClampNeg = 0 := fun {i} hi e => by
    have := (P.1.2.2.1.mem_live i).mp hi
    exact ⟨by rw [e]; exact ix_nI this.1 (by omega), by rw [e, nI_clamp (by omega)]; exact this.2⟩
  have ne : ∀ {i j}, i ∈ live K T → j ∈ live K T → x = nI i → x = nI j → j = i := fun {i j} hi hj e ej => nI_inj (P.1.2.1.lt (lvT hj).1) (P.1.2.1.lt (lvT hi).1) (ej.symm.trans e)
  refine C_remove P.1 (by omega) (fun hx => P.tX hr rfl rfl (fun z Q q => S_remove P.1.2.2.1 (by omega) (fun _ => q _ _ Sc.thn up2_at) (fun i hi e => (hx (lvx hi e)).elim) (fun i hi e => (hx (lvx hi e)).elim)) qx (fun _ p => ⟨rfl, p⟩)) (fun i hi e nd g' O fr => ?_) (fun i hi e nd gB g' Kc V NP RP => ?_)
  · have kp : Keep h g' (ownB t b na (fun i => i ∈ ino T)) := fr.keep.mono (fun a z => Or.inr z)
    refine qn _ _ (P.chN hr kp (by rw [fr.1]; omega) (by rw [fr.2.1]; omega) rfl rfl (fun z Q q => S_remove P.1.2.2.1 (by omega) (fun e1 => (e1 (lvx hi e)).elim) (fun j hj ej _ => ?_) (fun j hj ej nd2 => ?_))) (P.sho kp)
    · rw [ne hi hj e ej, live_rm]; exact q _ (rm_chg O P.2.2.2.2.2.1.1) rmz0
    · rw [ne hi hj e ej] at nd2; exact (nd (due_thn.mp nd2)).elim
  · have fr := nul_fr V NP
    refine qn _ _ (P.chN hr fr.keep (by rw [fr.1]; omega) (by rw [fr.2.1]; omega) rfl rfl (fun z Q q => S_remove P.1.2.2.1 (by omega) (fun e1 => (e1 (lvx hi e)).elim) (fun j hj ej nd2 => ?_) (fun j hj ej _ M' p I' => ?_))) (P.sho fr.keep)
    · rw [ne hi hj e ej] at nd2; exact (nd2 (due_thn.mpr nd)).elim
    · have ee := ne hi hj e ej
      rw [ee] at p I' ⊢
      have c0 := rm_chgD P.1 hi P.2.2.2.2.2.1.1 V NP RP p I'
      rw [live_rm]; exact q _ c0 (p.z0.trans rmz0)
theorem T_removeCurrent (P : LW h c m o sc L xs zz kk t b na K T N W F FL NB fa nf Cs cu tx n) (hr : Rm lim zz kk) (hI : 300 < dI) (hM : 300 < dM) : Two lim dI dM c m o sc L xs zz (kk + 1) h j_It_removeCurrent j_Mo_removeCurrent [vi x] [(1, 1), (2, 2)] := by
  intro R X qn qx
  have h5 := P.1.2.2.1.2.1
  have U := P.2.2.2.1.2.2.2.1
  have ix4 : ∀ {k}, k < 4 → x = nI k → ix x 4 := fun {k} hk4 e => by rw [e]; exact ix_nI hk4 (by decide)
  have e4 : ∀ {k j}, k < 4 → j < 4 → x = nI k → x = nI j → j = k := fun {k j} hk4 hj e ej => nI_inj (by omega) (by omega) (ej.symm.trans e)
  have ne : ∀ {i j} {v : Int32}, i ∈ live K T → j ∈ live K T → v = nI i → v = nI j → j = i := fun {i j v} hi hj e ej => nI_inj (P.1.2.1.lt (lvT hj).1) (P.1.2.1.lt (lvT hi).1) (ej.symm.trans e)
  refine C_removeCurrent P.1 (by omega) U (fun hx => P.tX hr rfl rfl (fun z Q q => S_removeCurrent P.1.2.2.1 U.cp (by omega) (fun _ => q _ _ Sc.thn up2_at) (fun k hk4 e => (hx (ix4 hk4 e)).elim) (fun k hk4 e => (hx (ix4 hk4 e)).elim) (fun k i hk4 e => (hx (ix4 hk4 e)).elim) (fun k i hk4 e => (hx (ix4 hk4 e)).elim)) qx (fun _ p => Or.inl ⟨rfl, p⟩))
    (fun k hk4 e h24 => P.tX hr rfl rfl (fun z Q q => S_removeCurrent P.1.2.2.1 U.cp (by omega) (fun e1 => (e1 (ix4 hk4 e)).elim) (fun _ _ _ _ => q _ _ Sc.thn up2_at) (fun _ _ _ _ _ => q _ _ Sc.thn up2_at) (fun j i hj ej g24 => ?_) (fun j i hj ej g24 => ?_)) qx (fun _ p => Or.inr ⟨rfl, p⟩))
    (fun k hk4 e h24 hno => P.tX hr rfl rfl (fun z Q q => S_removeCurrent P.1.2.2.1 U.cp (by omega) (fun e1 => (e1 (ix4 hk4 e)).elim) (fun _ _ _ _ => q _ _ Sc.thn up2_at) (fun _ _ _ _ _ => q _ _ Sc.thn up2_at) (fun j i hj ej g24 g26 hi => ?_) (fun j i hj ej g24 g26 hi => ?_)) qx (fun _ p => Or.inr ⟨rfl, p⟩))
    (fun k i hk4 e h24 h26 hi nd g' O fr => ?_) (fun k i hk4 e h24 h26 hi nd gB g' Kc V NP RP => ?_)
  · rw [e4 hk4 hj e ej, h24] at g24; cases g24
  · rw [e4 hk4 hj e ej, h24] at g24; cases g24
  · rw [e4 hk4 hj e ej] at g26
    have := (P.1.2.2.1.mem_live i).mp hi
    exact (hno i this.1 g26 this.2).elim
  · rw [e4 hk4 hj e ej] at g26
    have := (P.1.2.2.1.mem_live i).mp hi
    exact (hno i this.1 g26 this.2).elim
  · have kp : Keep h g' (ownB t b na (fun i => i ∈ ino T)) := fr.keep.mono (fun a z => Or.inr z)
    have lvk := (P.1.2.2.1.mem_live i).mp hi
    refine qn _ _ (P.chN hr kp (by rw [fr.1]; omega) (by rw [fr.2.1]; omega) rfl rfl (fun z Q q => S_removeCurrent P.1.2.2.1 U.cp (by omega) (fun e1 => (e1 (ix4 hk4 e)).elim) (fun j hj ej g24 => ?_) (fun j hj ej g24 hno => ?_) (fun j i2 hj ej g24 g26 hi2 _ => ?_) (fun j i2 hj ej g24 g26 hi2 nd2 => ?_))) (P.sho kp)
    · rw [e4 hk4 hj e ej, h24] at g24; cases g24
    · rw [e4 hk4 hj e ej] at hno
      exact (hno i lvk.1 h26 lvk.2).elim
    · rw [e4 hk4 hj e ej] at g26
      rw [ne hi hi2 h26 g26, live_rm]; exact q _ (rm_chg O P.2.2.2.2.2.1.1) rmz0
    · rw [e4 hk4 hj e ej] at g26
      rw [ne hi hi2 h26 g26] at nd2; exact (nd (due_thn.mp nd2)).elim
  · have fr := nul_fr V NP
    have lvk := (P.1.2.2.1.mem_live i).mp hi
    refine qn _ _ (P.chN hr fr.keep (by rw [fr.1]; omega) (by rw [fr.2.1]; omega) rfl rfl (fun z Q q => S_removeCurrent P.1.2.2.1 U.cp (by omega) (fun e1 => (e1 (ix4 hk4 e)).elim) (fun j hj ej g24 => ?_) (fun j hj ej g24 hno => ?_) (fun j i2 hj ej g24 g26 hi2 nd2 => ?_) (fun j i2 hj ej g24 g26 hi2 _ M' p I' => ?_))) (P.sho fr.keep)
    · rw [e4 hk4 hj e ej, h24] at g24; cases g24
    · rw [e4 hk4 hj e ej] at hno
      exact (hno i lvk.1 h26 lvk.2).elim
    · rw [e4 hk4 hj e ej] at g26
      rw [ne hi hi2 h26 g26] at nd2; exact (nd2 (due_thn.mpr nd)).elim
    · rw [e4 hk4 hj e ej] at g26
      have ee := ne hi hi2 h26 g26
      rw [ee] at p I' ⊢
      have c0 := rm_chgD P.1 hi P.2.2.2.2.2.1.1 V NP RP p I'
      rw [live_rm]; exact q _ c0 (p.z0.trans rmz0)
theorem ins_chg {M1 K' : MT} {T1 T' : Tr} (I : TI K T N W) (hW : 999 ≤ W) (s : Sm N K M1) (h4 : ∀ i, i < N → ¬ M1 4 i = 2 → ¬ K 4 i = 2) (O : RO g' c t b (up1 na N (hsz h)) (mixM (insM M1 T1 N l u w) K') T' (N + 1) W) : Chg h g' c t b na K T N W (insM M1 T1 N l u w) := by
  have off : ∀ r i, r ≠ 5 → r ≠ 6 → r ≠ 7 → r ≠ 8 → ¬ (r = 0 ∧ (i = 9 ∨ i = 10 ∨ i = 11)) → (i ≠ N ∨ (r ≠ 1 ∧ r ≠ 2 ∧ r ≠ 3 ∧ r ≠ 4)) → insM M1 T1 N l u w r i = M1 r i := fun r i a1 a2 a3 a4 a5 a6 => (insM_o ⟨a1, a2, a3, a4, by omega⟩ (by omega)).trans (in1_ne a6)
  refine ⟨up1 na N (hsz h), K', T', N + 1, W, O, ⟨fun r i h1 h2 h3 => ?_, fun i hi => ?_, fun i hi => ⟨?_, ?_⟩⟩, by omega, fun a z => ?_, ⟨hW, by omega⟩⟩
  · rw [off r i (by omega) (by omega) (by omega) (by omega) (by omega) (by omega)]; exact s.1 r i h1 h2 h3
  · rw [off 0 i (by omega) (by omega) (by omega) (by omega) (by omega) (by omega)]; exact s.2.1 i hi
  · rw [off 1 i (by omega) (by omega) (by omega) (by omega) (by omega) (by omega)]; exact (s.2.2 i hi).1
  · rw [off 2 i (by omega) (by omega) (by omega) (by omega) (by omega) (by omega)]; exact (s.2.2 i hi).2
  · rcases z with z | z | ⟨i, hi, z⟩
    · exact Or.inl (Or.inl z)
    · exact Or.inl (Or.inr (Or.inl z))
    · by_cases e : i = N
      · rw [z, e]; exact Or.inr (by rw [up1_on]; exact Nat.le_refl _)
      · have q := (O.2.2.1.2.2.2.2.1 i).mp hi
        rw [mixM_lo (by decide), off 4 i (by omega) (by omega) (by omega) (by omega) (by omega) (by omega)] at q
        have hiN : i < N := by omega
        have hT : i ∈ ino T := (I.2.2.2.2.1 i).mpr ⟨hiN, h4 i hiN q.2⟩
        rw [z, up1_off _ e]
        exact Or.inl (Or.inr (Or.inr ⟨i, hT, rfl⟩))
theorem ins0 {M1 : MT} {T1 : Tr} : insM M1 T1 N l u w 0 0 = M1 0 0 := (insM_o ⟨by omega, by omega, by omega, by omega, by omega⟩ (by omega)).trans (in1_ne (Or.inr (by omega)))
theorem T_insert (P : LW h c m o sc L xs zz kk t b na K T N W F FL NB fa nf Cs cu tx n) (hr : Rm lim zz kk) (hI : 300 < dI) (hM : 300 < dM) : Two lim dI dM c m o sc L xs zz (kk + 1) h j_It_insert j_Mo_insert [vi l, vi u, vi w] [(1, 1), (2, 2)] := by
  intro R X qn qx
  have b1 := P.2.2.2.2.2.2
  have b3 := hr.1
  have b4 := hr.2
  have hW := P.2.2.2.2.2.1.1
  have I := P.1.2.2.1
  refine C_insert2 P.1 P.2.1 (by omega) hW (by omega) (by omega) (fun hx => P.tX hr rfl rfl (fun z Q q => S_insert I (by omega) (fun _ => q _ _ Sc.thn up2_at) (fun e => (hx e).elim) (fun e => (hx e).elim) (fun e => (hx e).elim)) qx (fun _ p => Or.inl ⟨rfl, p⟩)) (fun hx hf => P.tX hr rfl rfl (fun z Q q => S_insert I (by omega) (fun e => (e hx).elim) (fun _ _ => q _ _ Sc.thn up2_at) (fun _ e1 e2 e3 => absurd hf (by omega)) (fun _ e1 e2 => absurd hf (by omega))) qx (fun _ p => Or.inr ⟨rfl, p⟩)) (fun hx h100 hg hN g' IF hO => ?_) (fun hx h100 hN g' K' T' IF O => ?_)
  · refine qn _ _ (P.chN hr IF.keep (by rw [IF.1]; omega) (by rw [IF.2.1]; omega) rfl rfl (fun z Q q => S_insert I (by omega) (fun e => (e hx).elim) (fun _ e => absurd e (by omega)) (fun _ _ _ _ M' p I' => ?_) (fun _ e _ => absurd e (by omega)))) (P.sho IF.keep)
    obtain ⟨K', T', O⟩ := hO M' p I'
    refine q _ (ins_chg I hW (p.sm Sc.thn.sm) (fun i hi h2 e => h2 ?_) O) (ins0.trans (p.z0.trans up2_at))
    rw [p.1, thn_e (by omega), e]
    split <;> rfl
  · refine qn _ _ (P.chN hr IF.keep (by rw [IF.1]; omega) (by rw [IF.2.1]; omega) rfl rfl (fun z Q q => S_insert I (by omega) (fun e => (e hx).elim) (fun _ e => absurd e (by omega)) (fun _ e => absurd e (by omega)) (fun _ _ _ => ?_))) (P.sho IF.keep)
    refine q _ (ins_chg I hW Sc.thn.sm (fun i hi h2 e => h2 ?_) O) (ins0.trans up2_at)
    rw [thn_e (by omega)]; exact e
theorem sch_chg {K1 : MT} (O : RO g' c t b na K1 T N W) (B : BsP K K1 T 0) (s : Sc K M') (hW : 999 ≤ W) : Chg h g' c t b na K T N W M' :=
  Chg.same O (fun r i h1 h2 => (s r i (by omega) (by omega) (by omega)).trans (B.1 r i (by omega)).symm) (fun i h1 h2 => (s 0 i (by omega) (by omega) (by omega)).trans (B.1 0 i (by omega)).symm) s.sm ⟨hW, by omega⟩
theorem T_scheduleWeight (P : LW h c m o sc L xs zz kk t b na K T N W F FL NB fa nf Cs cu tx n) (hr : Rm lim zz kk) (hI : 300 < dI) (hM : 300 < dM) : Two0 lim dI dM c m o sc L xs zz (kk + 1) h j_It_scheduleWeight j_Mo_scheduleWeight [] := by
  intro R X qn
  have b1 := P.2.2.2.2.2.1
  have b4 := hr.2
  refine C_scheduleWeight P.1 (by omega) (by omega) (by omega) (fun g' K1 O B fr => ?_)
  have kp : Keep h g' (ownB t b na (fun i => i ∈ ino T)) := fr.keep.mono (fun a z => Or.inr z)
  exact qn _ _ (P.ch0 hr kp (by rw [fr.1]; omega) (by rw [fr.2.1]; omega) rfl rfl (fun z Q q => S_scheduleWeight P.1.2.2.1 (by omega) (by omega) (by omega) (fun M' s => q _ (sch_chg O B (Sc.sch s) b1.1)))) (P.sho kp)
theorem T_scheduled (P : LW h c m o sc L xs zz kk t b na K T N W F FL NB fa nf Cs cu tx n) (hr : Rm lim zz kk) (hI : 300 < dI) (hM : 300 < dM) : Two lim dI dM c m o sc L xs zz (kk + 1) h j_It_scheduled j_Mo_scheduled [vi x] [(4, 1)] := by
  intro R X qn qx
  have b1 := P.2.2.2.2.2.1
  have b4 := hr.2
  have kp : ∀ {g'}, Fr h g' (own t na (fun i => i ∈ ino T)) → Keep h g' (ownB t b na (fun i => i ∈ ino T)) := fun {g'} fr => fr.keep.mono (fun a z => Or.inr z)
  have ro2 : ∀ {g' h2 K1}, RO g' c t b na K1 T N W → Fr h g' (own t na (fun i => i ∈ ino T)) → Keep g' h2 (fun _ => False) → RO h2 c t b na K1 T N W := fun {g' h2 K1} O fr k => O.keep (by rw [fr.1]; exact P.2.1) k (fun z => z) (fun z => z) (fun a z => z.elim)
  refine C_scheduled P.1 (by omega) (by omega) (by omega) (fun hx g' K1 O B fr => P.chX hr (kp fr) (by rw [fr.1]; omega) (by rw [fr.2.1]; omega) rfl rfl (fun z Q q => S_scheduled P.1.2.2.1 (by omega) (by omega) (by omega) (fun _ => q _ _ (fun h2 k => sch_chg (ro2 O fr k) B Sc.thn b1.1) up2_at) (fun e => by omega) (fun e => by omega)) qx (fun _ p => ⟨rfl, p⟩)) (fun hx hs g' K1 O B fr => P.chX hr (kp fr) (by rw [fr.1]; omega) (by rw [fr.2.1]; omega) rfl rfl (fun z Q q => S_scheduled P.1.2.2.1 (by omega) (by omega) (by omega) (fun e => by omega) (fun _ _ M' s => q _ _ (fun h2 k => sch_chg (ro2 O fr k) B ((Sc.thn.trans (Sc.sch s)).trans Sc.thn) b1.1) up2_at) (fun _ a ea => by rw [hs] at ea; cases ea)) qx (fun _ p => ⟨rfl, p⟩)) (fun hx a ha g' K1 O B fr => ?_)
  refine qn _ _ (P.chN hr (kp fr) (by rw [fr.1]; omega) (by rw [fr.2.1]; omega) rfl rfl (fun z Q q => S_scheduled P.1.2.2.1 (by omega) (by omega) (by omega) (fun e => by omega) (fun _ e => by rw [ha] at e; cases e) (fun _ a' ea M' s => ?_))) (P.sho (kp fr))
  rw [ha] at ea; cases ea
  exact q _ (sch_chg O B (Sc.thn.trans (Sc.sch s)) b1.1) ((s 0 0 (by decide) (by decide) (by decide)).trans up2_at)
end CHG3
