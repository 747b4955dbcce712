/-! ===== both sides of cursors and filters ===== -/
section OTH
variable {h g H' : AHp} {A : Nat → Prop} {lim : Nat × Nat} {d dI dM jM c m o sc L : Nat} {aM : List AV} {xs : Nat → Int32} {zz kk t b : Nat} {na : Nat → Nat} {K K' M' : MT} {T : Tr} {N : Nat} {W : Int} {F F2 : Nat} {FL FL2 : Nat → List SP} {NB NB2 : Nat → Int32} {fa fa2 : Nat → Nat} {nf nf2 Cs : Nat} {cu : Nat → Nat} {tx n n2 : Nat} {x y w k l u : Int32}
theorem TX.kp2 (q : TX h c tx m K n) (k : Keep h H' A) (e0 : hP H' c 0 = hP h c 0) (e4 : hP H' c 4 = hP h c 4) (e5 : hI H' c 5 = nI n2) (hn : n2 ≤ n) (hA : ∀ a, A a → inR m a ∨ hk h a ≠ 8) (h35 : K' 0 35 = nI n2) (h23 : ∀ i, K' 23 i = K 23 i) : TX H' c tx m K' n2 := by
  obtain ⟨t1, t2, t3, t4, t5, t6, t7, t8, t9, t10⟩ := q
  have ka := k.2 tx t2
  have nA : ¬ A tx := fun z => (hA tx z).elim t3 (fun y => y t4)
  refine ⟨e4.trans t1, Nat.lt_of_lt_of_le t2 k.1, t3, ka.1.trans t4, ka.2.1.trans t5, by rw [e0]; exact t6, by omega, e5, h35, fun i hi => ?_⟩
  rw [(ka.2.2 nA).1, h23]; exact t10 i (by omega)
set_option maxRecDepth 8000 in
theorem LW.asm (P : LW h c m o sc L xs zz kk t b na K T N W F FL NB fa nf Cs cu tx n) (k : Keep h H' A) (hA1 : ∀ a, A a → ¬ (hk h a = 12 ∨ hk h a = 5 ∨ hk h a = 2)) (h14 : ∀ a, A a → hk h a ≠ 14) (p6 : hP H' c 6 = hP h c 6) (tab : TabA H' c m) (f : FA H' c F2 FL2 NB2 fa2 nf2) (rf : RFs M' FL2 nf2) (cc : CU H' c Cs cu (mixM M' K) N nf2) (tt : TX H' c tx m (mixM M' K) n2) (sv : SVF H' c t b na T (mixM M' K) (kk + 1)) (r : RefAt H' m M') (e1 : ∀ r i, 1 ≤ r → r ≤ 8 → M' r i = K r i) (e0 : ∀ i, 9 ≤ i → i ≤ 15 → M' 0 i = K 0 i) (hz : hsz H' ≤ hsz h + 110) (hu : hsu H' ≤ hsu h + 1800) : LI H' c m o sc L xs zz (kk + 1) := by
  have b1 := P.2.2.2.2.2.2
  have b2 := P.2.2.2.2.2.1
  have rf2 : RFs (mixM M' K) FL2 nf2 := rf.congr (mixM_lo (by decide)) (fun a j h1 h2 => mixM_lo (by omega))
  exact ⟨t, b, na, mixM M' K, T, N, W, F2, FL2, NB2, fa2, nf2, Cs, cu, tx, n2, ((P.1.rt.keep k (fun a z zo => hA1 a z (P.oB zo).2)).ro ((k.2 c P.2.1).1.trans P.1.1.1) (p6.trans P.1.1.2)).mix e1 e0, Nat.lt_of_lt_of_le P.2.1 k.1, r.mix, ⟨tab, f, rf2, cc, tt, P.2.2.2.1.2.2.2.2.2.1.keep k (fun z => h14 sc z P.2.2.2.1.2.2.2.2.2.1.2.1), P.ok.keep k⟩, sv, ⟨b2.1, by omega⟩, by omega, by omega⟩
/-- what a cursor's change leaves -/
theorem LW.curs (P : LW h c m o sc L xs zz kk t b na K T N W F FL NB fa nf Cs cu tx n) {q : Nat} (hq : q < 4) (fr : Fr h g (fun a => a = cu q)) {K1 : MT} (U1 : CU g c Cs cu K1 N nf) (kq : Keep g H' (fun a => a = o ∨ inR m a)) (z1 : hsz H' = hsz g) (z2 : hsu H' = hsu g) (r : RefAt H' m M') (e24 : ∀ i, M' 24 i = K1 24 i) (e25 : ∀ i, M' 25 i = K1 25 i) (e26 : ∀ i, M' 26 i = K1 26 i) (k12 : ∀ i, K1 1 i = K 1 i ∧ K1 2 i = K 2 i) (s : ∀ r i, ¬ (9 ≤ r ∧ r ≤ 13) → r ≠ 22 → ¬ (24 ≤ r ∧ r ≤ 26) → ¬ (r = 0 ∧ i = 0) → M' r i = K r i) : LI H' c m o sc L xs zz (kk + 1) := by
  obtain ⟨l1, l2, l3, l4, l5, l6, l7⟩ := P.2.2.2.1
  have k0 : hk h (cu q) = 0 := (l4.2.1 q hq).2.2.1
  have kA : Keep h H' (fun a => a = cu q ∨ (a = o ∨ inR m a)) := (fr.keep.mono (fun a z => Or.inl z)).trans (kq.mono (fun a z => Or.inr z))
  have kd : ∀ a, (a = cu q ∨ (a = o ∨ inR m a)) → inR m a ∨ hk h a = 0 ∨ hk h a = 13 := fun a z => by
    rcases z with z | z | z
    · rw [z]; exact Or.inr (Or.inl k0)
    · rw [z]; exact Or.inr (Or.inr l7.2.1)
    · exact Or.inl z
  have kd2 : ∀ a, (a = cu q ∨ (a = o ∨ inR m a)) → hk h a = 0 ∨ hk h a = 13 ∨ hk h a = 7 ∨ hk h a = 8 ∨ hk h a = 9 := fun a z => by
    rcases kd a z with y | y
    · have := P.rk y; omega
    · omega
  have hc := P.1.1.1
  have cc := (kA.2 c P.2.1).2.2 (fun z => by have := kd2 c z; omega)
  have cg := (fr.keep.2 c P.2.1).2.2 (fun z => by rw [z, k0] at hc; cases hc)
  have pc : ∀ j, hP H' c j = hP h c j := fun j => by rw [cc.2.1]
  have ic : ∀ j, hI H' c j = hI h c j := fun j => by rw [cc.1]
  have mi : ∀ r i, r < 36 → mixM M' K r i = M' r i := fun r i hr => mixM_lo hr
  refine P.asm kA (fun a z => by have := kd2 a z; omega) (fun a z => by have := kd2 a z; omega) (pc 6) (l1.kp kA (pc 0) (fun a z => ?_)) (l2.keep kA (ic 2) (pc 1) (fun a z => by have := kd2 a z; omega)) (l3.congr (s 0 24 (by omega) (by omega) (by omega) (by omega)) (fun a j h1 h2 => s a j (by omega) (by omega) (by omega) (by omega))) (U1.keep kq (by rw [pc 3, cg.2.1]) (fun a z => ?_) (Nat.le_refl _) (Nat.le_refl _) (fun i => by rw [mi 24 i (by decide)]; exact e24 i) (fun i => by rw [mi 25 i (by decide)]; exact e25 i) (fun i => by rw [mi 26 i (by decide)]; exact e26 i) (fun i _ => ?_)) (l5.kp kA (pc 0) (pc 4) (ic 5) (fun a z => ?_) (by rw [mi 0 35 (by decide)]; exact s 0 35 (by omega) (by omega) (by omega) (by omega)) (fun i => by rw [mi 23 i (by decide)]; exact s 23 i (by omega) (by omega) (by omega) (by omega))) (P.2.2.2.2.1.kp kA (pc 7) (fun a z => Or.inr (by have := kd2 a z; omega)) (fun a z => Or.inl z) (by rw [mi 0 42 (by decide)]; exact s 0 42 (by omega) (by omega) (by omega) (by omega)) (fun r i h1 h2 => by rw [mi r i (by omega)]; exact s r i (by omega) (by omega) (by omega) (by omega)) (by omega)) r (fun r i h1 h2 => s r i (by omega) (by omega) (by omega) (by omega)) (fun i h1 h2 => s 0 i (by omega) (by omega) (by omega) (by omega)) (by rw [z1, fr.1]; omega) (by rw [z2, fr.2.1]; omega)
  · rcases kd a z with y | y
    · exact Or.inl y
    · exact Or.inr (by omega)
  · rw [fr.2.2.1]
    have := kd2 a (Or.inr z)
    rcases z with z | z
    · rw [z, l7.2.1]; decide
    · have := P.rk z; omega
  · rw [mi 1 i (by decide), mi 2 i (by decide), (k12 i).1, (k12 i).2]
    exact ⟨s 1 i (by omega) (by omega) (by omega) (by omega), s 2 i (by omega) (by omega) (by omega) (by omega)⟩
  · rcases kd a z with y | y
    · exact Or.inl y
    · exact Or.inr (by omega)
theorem LW.nCu (P : LW h c m o sc L xs zz kk t b na K T N W F FL NB fa nf Cs cu tx n) {q : Nat} (hq : q < 4) : ¬ inR m (cu q) ∧ o ≠ cu q ∧ sc ≠ cu q := by
  obtain ⟨l1, l2, l3, l4, l5, l6, l7⟩ := P.2.2.2.1
  have k0 : hk h (cu q) = 0 := (l4.2.1 q hq).2.2.1
  exact ⟨fun z => (by have := P.rk z; omega), fun z => (by have := l7.2.1; rw [z, k0] at this; omega), fun z => (by have := l6.2.1; rw [z, k0] at this; omega)⟩
theorem T_open (P : LW h c m o sc L xs zz kk t b na K T N W F FL NB fa nf Cs cu tx n) (hr : Rm lim zz kk) (hI : 300 < dI) (hM : 300 < dM) : Two lim dI dM c m o sc L xs zz (kk + 1) h j_It_open j_Mo_open [vi x, vi y] [(1, 1)] := by
  intro R X qn qx
  have RFc := P.2.2.2.1.2.2.1
  have U := P.2.2.2.1.2.2.2.1
  have h8 := RFc.1
  have ixb : ∀ {q f}, q < 4 → x = nI q → f < nf → y = nI f → ix x 4 ∧ ix y nf := fun {q f} hq e hf e2 => ⟨by rw [e]; exact ix_nI hq (by decide), by rw [e2]; exact ix_nI hf (by omega)⟩
  refine C_open P.1 P.2.1 (by omega) P.2.2.2.1.2.1 U (fun hx => P.tX hr rfl rfl (fun z Q q => S_open P.1.2.2.1 RFc (by omega) (fun _ => q _ _ Sc.thn up2_at) (fun k f hq e hf e2 => (hx (ixb hq e hf e2)).elim)) qx (fun _ p => ⟨rfl, p⟩)) (fun q f g' hq e hf e2 fr i0 i1 i2 => ?_)
  have nC := P.nCu hq
  have U1 : CU g' c Cs cu (opM K q f) N nf := U.set (lst := none) hq fr.keep P.2.1 P.1.1.1 hf i0 i1 ⟨fun _ => i2, fun j hj => (by cases hj)⟩ (fun i => ?_) (fun i => ?_) (fun i => ?_) (fun i _ => ⟨opM_ne (by decide) (by decide) (by decide) (by decide), opM_ne (by decide) (by decide) (by decide) (by decide)⟩)
  · refine qn _ _ (aftN_of (G := fun M' => E22 (opM K q f) M') (P.2.2.1.keep fr.keep (fun a z => by rw [z]; exact nC.1)) (P.ok.keep fr.keep).2.1 (P.mle hr) rfl rfl (fun z Q qq => S_open P.1.2.2.1 RFc (by omega) (fun e1 => (e1 (ixb hq e hf e2)).elim) (fun q' f' hq' e' hf' e2' M2 E => ?_)) (fun M' H' E r kq z1 z2 => P.curs hq fr U1 kq z1 z2 r (fun i => E 24 i (by decide)) (fun i => E 25 i (by decide)) (fun i => E 26 i (by decide)) (fun i => ⟨opM_ne (by decide) (by decide) (by decide) (by decide), opM_ne (by decide) (by decide) (by decide) (by decide)⟩) (fun r i h1 h2 h3 h4 => (E r i h2).trans ?_))) (P.shk fr.keep (fun z => nC.2.2 z))
    · have e3 : q' = q := nI_inj (by omega) (by omega) (e'.symm.trans e)
      have e4 : f' = f := nI_inj (by omega) (by omega) (e2'.symm.trans e2)
      rw [e3] at E
      rw [e4] at E ⊢
      refine qq _ E ((E 0 0 (by decide)).trans ?_)
      show up2 (up2 (up2 (thn K 0) 24 q 1) 25 q (nI f)) 26 q (-1) 0 0 = 0
      rw [up2_ne (by omega), up2_ne (by omega), up2_ne (by omega)]; exact up2_at
    · by_cases z0 : r = 0
      · rw [z0]; exact opM_0 (by omega)
      · exact opM_ne z0 (by omega) (by omega) (by omega)
  · show up2 (up2 (up2 (thn K 0) 24 q 1) 25 q (nI f)) 26 q (-1) 24 i = _
    rw [up2_ne (by omega), up2_ne (by omega)]
    by_cases z : i = q
    · rw [if_pos z, z, up2_at]
    · rw [if_neg z, up2_ne (by omega), thn_e (by omega)]
  · show up2 (up2 (up2 (thn K 0) 24 q 1) 25 q (nI f)) 26 q (-1) 25 i = _
    rw [up2_ne (by omega)]
    by_cases z : i = q
    · rw [if_pos z, z, up2_at]
    · rw [if_neg z, up2_ne (by omega), up2_ne (by omega), thn_e (by omega)]
  · show up2 (up2 (up2 (thn K 0) 24 q 1) 25 q (nI f)) 26 q (-1) 26 i = _
    by_cases z : i = q
    · rw [if_pos z, z, up2_at]; rfl
    · rw [if_neg z, up2_ne (by omega), up2_ne (by omega), up2_ne (by omega), thn_e (by omega)]
theorem T_next (P : LW h c m o sc L xs zz kk t b na K T N W F FL NB fa nf Cs cu tx n) (hr : Rm lim zz kk) (hI : 300 < dI) (hM : 300 < dM) : Two lim dI dM c m o sc L xs zz (kk + 1) h j_It_next j_Mo_next [vi x] [(1, 1), (2, 2), (3, 3)] := by
  intro R X qn qx
  have RFc := P.2.2.2.1.2.2.1
  have U := P.2.2.2.1.2.2.2.1
  have h8 := RFc.1
  have h5 := P.1.2.2.1.2.1
  have ix4 : ∀ {k}, k < 4 → x = nI k → ix x 4 := fun {k} hk4 e => by rw [e]; exact ix_nI hk4 (by decide)
  have e4 : ∀ {k j}, k < 4 → j < 4 → x = nI k → x = nI j → j = k := fun {k j} hk4 hj e ej => nI_inj (by omega) (by omega) (ej.symm.trans e)
  have ef : ∀ {f g : Nat} {v : Int32}, f < nf → g < nf → v = nI f → v = nI g → g = f := fun {f g v} hf hg e e' => nI_inj (by omega) (by omega) (e'.symm.trans e)
  have el : ∀ {a b' : Option Nat} {v : Int32}, (∀ j, a = some j → j < N) → (∀ j, b' = some j → j < N) → v = idI a → v = idI b' → b' = a := fun {a b' v} ha hb e e' => idI_inj (fun j hj => by have := hb j hj; omega) (fun j hj => by have := ha j hj; omega) (e'.symm.trans e)
  refine C_next P.1 P.2.1 (by omega) P.2.2.2.1.2.1 U (fun hx => P.tX hr rfl rfl (fun z Q q => S_next P.1.2.2.1 RFc U.cp (by omega) (fun _ => q _ _ Sc.thn up2_at) (fun k hk4 e => (hx (ix4 hk4 e)).elim) (fun k f lst hk4 e => (hx (ix4 hk4 e)).elim) (fun k f lst i hk4 e => (hx (ix4 hk4 e)).elim)) qx (fun _ p => Or.inl ⟨rfl, p⟩)) (fun k hk4 e h24 => P.tX hr rfl rfl (fun z Q q => S_next P.1.2.2.1 RFc U.cp (by omega) (fun e1 => (e1 (ix4 hk4 e)).elim) (fun _ _ _ _ => q _ _ Sc.thn up2_at) (fun j f lst hj ej g24 => ?_) (fun j f lst i hj ej g24 => ?_)) qx (fun _ p => Or.inr (Or.inl ⟨rfl, p⟩))) (fun k f lst hk4 e h24 hf e25 e26 hl hnone => P.tX hr rfl rfl (fun z Q q => S_next P.1.2.2.1 RFc U.cp (by omega) (fun e1 => (e1 (ix4 hk4 e)).elim) (fun j hj ej g24 => ?_) (fun _ _ _ _ _ _ _ _ _ _ _ M2 E => q _ _ ((Sc.thn.trans (Sc.e22 E)).trans Sc.thn) up2_at) (fun j f2 lst2 i hj ej g24 hf2 g25 g26 hl2 hsome => ?_)) qx (fun _ p => Or.inr (Or.inr ⟨rfl, p⟩))) (fun q f lst i g' hq e h24 hf e25 e26 hl hsome fr L1 i0 i1 => ?_)
  · rw [e4 hk4 hj e ej, h24] at g24; cases g24
  · rw [e4 hk4 hj e ej, h24] at g24; cases g24
  · rw [e4 hk4 hj e ej, h24] at g24; cases g24
  · rw [e4 hk4 hj e ej] at g25 g26
    rw [ef hf hf2 e25 g25, el hl hl2 e26 g26, hnone] at hsome; cases hsome
  have nC := P.nCu hq
  have U1 : CU g' c Cs cu (up2 K 26 q (nI i)) N nf := U.set (lst := some i) hq fr.keep P.2.1 P.1.1.1 hf i0 i1 ⟨fun z => (by cases z), fun j hj => ?_⟩ (fun j => ?_) (fun j => ?_) (fun j => ?_) (fun j _ => ⟨up2_ne (by omega), up2_ne (by omega)⟩)
  · refine qn _ _ (aftN_of (G := fun M' => ∃ M2, E22 (thn K 0) M2 ∧ M' = up2 M2 26 q (nI i)) (P.2.2.1.keep fr.keep (fun a z => by rw [z]; exact nC.1)) (P.ok.keep fr.keep).2.1 (P.mle hr) rfl rfl (fun z Q qq => S_next P.1.2.2.1 RFc U.cp (by omega) (fun e1 => (e1 (ix4 hq e)).elim) (fun j hj ej g24 => ?_) (fun j f2 lst2 hj ej g24 hf2 g25 g26 hl2 hnone => ?_) (fun j f2 lst2 i2 hj ej g24 hf2 g25 g26 hl2 hs2 M2 E => ?_)) (fun M' H' E r kq z1 z2 => ?_)) (P.shk fr.keep (fun z => nC.2.2 z))
    · rw [e4 hq hj e ej, h24] at g24; cases g24
    · rw [e4 hq hj e ej] at g25 g26
      rw [ef hf hf2 e25 g25, el hl hl2 e26 g26, hsome] at hnone; cases hnone
    · rw [e4 hq hj e ej] at g25 g26 ⊢
      rw [ef hf hf2 e25 g25, el hl hl2 e26 g26, hsome] at hs2
      cases hs2
      exact qq _ ⟨M2, E, rfl⟩ ((up2_ne (by omega)).trans ((E 0 0 (by decide)).trans up2_at))
    · obtain ⟨M2, E, rfl⟩ := E
      have E2 : ∀ r j, r ≠ 22 → ¬ (r = 0 ∧ j = 0) → M2 r j = K r j := fun r j h1 h2 => (E r j h1).trans (thn_e h2)
      refine P.curs hq fr U1 kq z1 z2 r (fun j => ?_) (fun j => ?_) (fun j => ?_) (fun j => ⟨up2_ne (by omega), up2_ne (by omega)⟩) (fun r j h1 h2 h3 h4 => ?_)
      · rw [up2_ne (by omega), up2_ne (by omega)]; exact E2 24 j (by decide) (by omega)
      · rw [up2_ne (by omega), up2_ne (by omega)]; exact E2 25 j (by decide) (by omega)
      · by_cases z : j = q
        · rw [z, up2_at, up2_at]
        · rw [up2_ne (by omega), up2_ne (by omega)]; exact E2 26 j (by decide) (by omega)
      · rw [up2_ne (by omega)]; exact E2 r j h2 h4
  · have := L1.2 j hj
    rw [up2_ne (by omega), up2_ne (by omega)]; exact this
  · rw [up2_ne (by omega)]
    by_cases z : j = q
    · rw [if_pos z, z, h24]
    · rw [if_neg z]
  · rw [up2_ne (by omega)]
    by_cases z : j = q
    · rw [if_pos z, z, e25]
    · rw [if_neg z]
  · by_cases z : j = q
    · rw [if_pos z, z, up2_at]; rfl
    · rw [if_neg z, up2_ne (by omega)]
end OTH
