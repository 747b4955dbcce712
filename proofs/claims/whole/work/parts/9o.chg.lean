/-! ===== both sides of a change ===== -/
/-- what a change of both trees leaves -/
def Chg (h h1 : AHp) (c t b : Nat) (na : Nat → Nat) (K : MT) (T : Tr) (N : Nat) (W : Int) (M' : MT) : Prop :=
  ∃ (na2 : Nat → Nat) (Kc : MT) (T2 : Tr) (N2 : Nat) (W2 : Int), RO h1 c t b na2 (mixM M' Kc) T2 N2 W2 ∧ Sm N K M' ∧ N ≤ N2 ∧ (∀ a, ownB t b na2 (fun i => i ∈ ino T2) a → ownB t b na (fun i => i ∈ ino T) a ∨ hsz h ≤ a) ∧ (999 ≤ W2 ∧ W2 ≤ W + 1000)
theorem Sm.mix {N : Nat} {K M' Kc : MT} (s : Sm N K M') : Sm N K (mixM M' Kc) :=
  ⟨fun r i h1 h2 h3 => by rw [mixM_lo (by omega)]; exact s.1 r i h1 h2 h3, fun i hi => by rw [mixM_lo (by decide)]; exact s.2.1 i hi, fun i hi => by rw [mixM_lo (by decide), mixM_lo (by decide)]; exact s.2.2 i hi⟩
theorem nul_fr {g gB g' : AHp} {t b : Nat} {na : Nat → Nat} {D : Nat → Prop} {Kc : MT} {Z : List Nat} (V : CV gB g' t b na D Kc) (NP : NulP g gB b Z) : Fr g g' (ownB t b na D) := by
  obtain ⟨n1, n2, n3, n4, n5, n6, n7, n8⟩ := NP
  obtain ⟨-, -, -, -, -, f1, f2, f3, f4, f5⟩ := V
  refine ⟨f1.trans n1, f2.trans n2, f3.trans n3, f4.trans n4, fun a ha => ?_⟩
  have q := f5 a (fun z => ha (Or.inr z))
  exact ⟨q.1.trans (by rw [n5]), q.2.1.trans (n7 a (fun z => ha (Or.inl z))), q.2.2.trans (by rw [n6])⟩
section CHG2
variable {h h1 H' : AHp} {lim : Nat × Nat} {d dI dM jM c m o sc L : Nat} {aM : List AV} {xs : Nat → Int32} {zz kk t b : Nat} {na : Nat → Nat} {K M' : MT} {T : Tr} {N : Nat} {W : Int} {F : Nat} {FL : Nat → List SP} {NB : Nat → Int32} {fa : Nat → Nat} {nf Cs : Nat} {cu : Nat → Nat} {tx n : Nat} {x y w k l u : Int32} {cod : List (Nat × Int32)} {X : XT}
theorem LW.core (P : LW h c m o sc L xs zz kk t b na K T N W F FL NB fa nf Cs cu tx n) (kp : Keep h h1 (ownB t b na (fun i => i ∈ ino T))) (C : Chg h h1 c t b na K T N W M') (r : RefAt H' m M') (kq : Keep h1 H' (fun a => a = o ∨ inR m a)) (hz : hsz H' ≤ hsz h + 110) (hu : hsu H' ≤ hsu h + 1800) : LI H' c m o sc L xs zz (kk + 1) := by
  obtain ⟨na2, Kc, T2, N2, W2, O, s, hN, hn, hW⟩ := C
  have r1 : RefAt h1 m K := P.2.2.1.keep kp (fun a z => P.oR z)
  have no := O.notO (P.ok.keep kp).2.1
  have nr := O.notR r1
  have O1 : RO H' c t b na2 (mixM M' Kc) T2 N2 W2 := O.keep (Nat.lt_of_lt_of_le P.2.1 kp.1) kq (fun z => z.elim (fun z => no.1 z.symm) nr.1) (fun z => z.elim (fun z => no.2.1 z.symm) nr.2.1) (fun a z => z.elim (fun z => by rw [z]; exact no.2.2) (nr.2.2 a))
  exact ⟨t, b, na2, _, T2, N2, W2, F, FL, NB, fa, nf, Cs, cu, tx, n, P.step ((kp.mono (fun a z => Or.inr z)).trans (kq.mono (fun a z => Or.inl z)) : Keep h H' (fun a => (a = o ∨ inR m a) ∨ ownB t b na (fun i => i ∈ ino T) a)) (fun a z => z.elim (fun z => z.elim (fun z => Or.inr (Or.inl z)) Or.inl) (fun z => Or.inr (Or.inr z))) O1 r.mix s.mix hN hn hW hz hu⟩
theorem LW.sho (P : LW h c m o sc L xs zz kk t b na K T N W F FL NB fa nf Cs cu tx n) (kp : Keep h h1 (ownB t b na (fun i => i ∈ ino T))) : Shs h1 c m o sc L xs :=
  P.shk kp (fun z => by have h1 := (P.oB z).2; have h2 := P.sh.2.1.2.1; omega)
theorem LW.chN (P : LW h c m o sc L xs zz kk t b na K T N W F FL NB fa nf Cs cu tx n) (hr : Rm lim zz kk) (kp : Keep h h1 (ownB t b na (fun i => i ∈ ino T))) (hz : hsz h1 ≤ hsz h + 110) (hu : hsu h1 ≤ hsu h + 1800) (ha : aM.map (shV m) = aM) (hj : mown jM = 7) (w : ∀ z Q, (∀ M', Chg h h1 c t b na K T N W M' → M' 0 0 = 0 → Q (some (vi y)) M') → WQ z d jM (vr (some 0) :: aM) K Q) : AftN lim d c m o sc L xs zz (kk + 1) jM aM h1 y :=
  aftN_of (P.2.2.1.keep kp (fun a z => P.oR z)) (P.ok.keep kp).2.1 (P.mle hr) ha hj w (fun M' H' C r k z u => P.core kp C r k (by omega) (by omega))
theorem LW.ch0 (P : LW h c m o sc L xs zz kk t b na K T N W F FL NB fa nf Cs cu tx n) (hr : Rm lim zz kk) (kp : Keep h h1 (ownB t b na (fun i => i ∈ ino T))) (hz : hsz h1 ≤ hsz h + 110) (hu : hsu h1 ≤ hsu h + 1800) (ha : aM.map (shV m) = aM) (hj : mown jM = 7) (w : ∀ z Q, (∀ M', Chg h h1 c t b na K T N W M' → Q (some (vi y)) M') → WQ z d jM (vr (some 0) :: aM) K Q) : Aft0 lim d c m o sc L xs zz (kk + 1) jM aM h1 y :=
  aft0_of (P.2.2.1.keep kp (fun a z => P.oR z)) (P.mle hr) ha hj w (fun M' H' C r k z u => P.core kp C r k (by omega) (by omega))
/-- a throw behind a change of the class's own -/
theorem LW.chX (P : LW h c m o sc L xs zz kk t b na K T N W F FL NB fa nf Cs cu tx n) (hr : Rm lim zz kk) {e : Nat} (kp : Keep h h1 (ownB t b na (fun i => i ∈ ino T))) (hz : hsz h1 ≤ hsz h) (hu : hsu h1 ≤ hsu h) (ha : aM.map (shV m) = aM) (hj : mown jM = 7) (w : ∀ z Q, (∀ y M', (∀ h2, Keep h1 h2 (fun _ => False) → Chg h h2 c t b na K T N W M') → M' 0 0 = k → Q (some (vi y)) M') → WQ z d jM (vr (some 0) :: aM) K Q) (qx : ∀ n h1, XCo cod (fun k => AftX lim d c m o sc L xs zz (kk + 1) jM aM h1 k ∧ Shs h1 c m o sc L xs) n → X n h1) (he : ∀ Pr : Int32 → Prop, Pr k → XCo cod Pr e) : thr lim X e h1 := by
  have b1 := P.2.2.2.2.2.2.1
  have b2 := P.2.2.2.2.2.2.2
  have b3 := hr.1
  have b4 := hr.2
  refine ⟨by omega, by omega, fun s u s1 s2 u1 u2 => ?_⟩
  have kg : Keep h1 (gr h1 s u) (fun _ => False) := gr_keep s1
  have kp2 : Keep h (gr h1 s u) (ownB t b na (fun i => i ∈ ino T)) := kp.trans (kg.mono (fun a z => z.elim))
  refine qx e _ (he _ ⟨?_, P.sho kp2⟩)
  refine aftX_of (P.2.2.1.keep kp2 (fun a z => P.oR z)) (P.mle hr) ha hj w (fun M' H' C r k z1 z2 => P.core kp2 (C _ kg) r k ?_ ?_)
  · have : hsz (gr h1 s u) = s := rfl
    omega
  · have : hsu (gr h1 s u) = u := rfl
    omega
/-- the same tree, other entries -/
theorem Chg.same {K1 : MT} {W2 : Int} (O : RO h1 c t b na K1 T N W2) (g1 : ∀ r i, 1 ≤ r → r ≤ 8 → M' r i = K1 r i) (h0 : ∀ i, 9 ≤ i → i ≤ 15 → M' 0 i = K1 0 i) (s : Sm N K M') (hW : 999 ≤ W2 ∧ W2 ≤ W + 1000) : Chg h h1 c t b na K T N W M' :=
  ⟨na, K1, T, N, W2, O.mix g1 h0, s, Nat.le_refl _, fun a z => Or.inl z, hW⟩
theorem wAdd_off {i a : Nat} {M : MT} {j : Nat} (h : i ≠ 3) : wAdd M x y w j i a = M i a := if_neg (fun z => h z.1)
theorem wAdd_thn {i a : Nat} {M : MT} {j : Nat} {k : Int32} (h : i ≠ 0 ∨ a ≠ 0) : wAdd (thn M k) x y w j i a = wAdd M x y w j i a := by
  unfold wAdd
  have e : thn M k i a = M i a := up2_ne (by omega)
  rw [e, thn_ne (by decide), thn_ne (by decide)]
theorem thn_e {M : MT} {k : Int32} {r i : Nat} (h : ¬ (r = 0 ∧ i = 0)) : thn M k r i = M r i := up2_ne h
theorem mRest_e {M : MT} {i r j : Nat} (h : ¬ (r = 0 ∧ j = 0)) : mRest M i r j = rsM M i r j := by
  show up2 (up2 (thn M 0) 4 i 0) 0 12 (M 0 12 - 1) r j = up2 (up2 M 4 i 0) 0 12 (M 0 12 - 1) r j
  by_cases z : r = 0 ∧ j = 12
  · rw [z.1, z.2, up2_at, up2_at]
  · rw [up2_ne z, up2_ne z]
    by_cases z2 : r = 4 ∧ j = i
    · rw [z2.1, z2.2, up2_at, up2_at]
    · rw [up2_ne z2, up2_ne z2, thn_e h]
theorem rsM_e {M : MT} {i r j : Nat} (h : ¬ (r = 0 ∧ j = 12)) (h2 : ¬ (r = 4 ∧ j = i)) : rsM M i r j = M r j := by
  unfold rsM; rw [up2_ne h, up2_ne h2]
theorem T_setRebuildPercentage (P : LW h c m o sc L xs zz kk t b na K T N W F FL NB fa nf Cs cu tx n) (hr : Rm lim zz kk) (hI : 300 < dI) (hM : 300 < dM) : Two lim dI dM c m o sc L xs zz (kk + 1) h j_It_setRebuildPercentage j_Mo_setRebuildPercentage [vi x] [(1, 1)] := by
  intro R X qn qx
  refine C_setPct P.1 (fun hx => P.tX hr rfl rfl (fun z Q q => S_setRebuildPercentage (by omega) (fun e => (hx e).elim) (fun _ => q _ _ Sc.thn up2_at)) qx (fun _ p => ⟨rfl, p⟩)) (fun hx g' O fr => ?_)
  have kp : Keep h g' (ownB t b na (fun i => i ∈ ino T)) := fr.keep.mono (fun a z => Or.inr z)
  refine qn _ _ (P.chN hr kp (by rw [fr.1]; omega) (by rw [fr.2.1]; omega) rfl rfl (fun z Q q => S_setRebuildPercentage (by omega) (fun _ => q _ (Chg.same O (fun r i h1 h2 => ?_) (fun i h1 h2 => ?_) ⟨fun r i h1 h2 h3 => ?_, fun i hi => ?_, fun i hi => ⟨?_, ?_⟩⟩ ⟨P.2.2.2.2.2.1.1, by omega⟩) ?_) (fun e => (e hx).elim))) (P.sho kp)
  · rw [up2_ne (by omega), up2_ne (by omega), thn_e (by omega)]
  · by_cases e : i = 13
    · rw [e, up2_at, up2_at]
    · rw [up2_ne (by omega), up2_ne (by omega), thn_e (by omega)]
  · rw [up2_ne (by omega), thn_e (by omega)]
  · rw [up2_ne (by omega), thn_e (by omega)]
  · rw [up2_ne (by omega), thn_e (by omega)]
  · rw [up2_ne (by omega), thn_e (by omega)]
  · rw [up2_ne (by omega)]; exact up2_at
theorem T_addWeight (P : LW h c m o sc L xs zz kk t b na K T N W F FL NB fa nf Cs cu tx n) (hr : Rm lim zz kk) (hI : 300 < dI) (hM : 300 < dM) : Two lim dI dM c m o sc L xs zz (kk + 1) h j_It_addWeight j_Mo_addWeight [vi x, vi y, vi w] [(1, 1)] := by
  intro R X qn qx
  have b1 := P.2.2.2.2.2.1
  have b4 := hr.2
  refine C_addWeight P.1 (by omega) (by omega) (by omega) (fun h1 h2 h3 g' O fr => ?_) (fun hx => P.tX hr rfl rfl (fun z Q q => S_addWeight P.1.2.2.1.1 P.1.2.2.1.2.1 (by omega) (fun e1 e2 e3 => (hx ⟨e1, e2, e3⟩).elim) (fun _ => q _ _ Sc.thn up2_at)) qx (fun _ p => ⟨rfl, p⟩))
  have kp : Keep h g' (ownB t b na (fun i => i ∈ ino T)) := fr.keep.mono (fun a z => Or.inr z)
  refine qn _ _ (P.chN hr kp (by rw [fr.1]; omega) (by rw [fr.2.1]; omega) rfl rfl (fun z Q q => S_addWeight P.1.2.2.1.1 P.1.2.2.1.2.1 (by omega) (fun _ _ _ => q _ (Chg.same O (fun r i h1 h2 => wAdd_thn (by omega)) (fun i h1 h2 => wAdd_thn (by omega)) ⟨fun r i h1 h2 h3 => ?_, fun i hi => ?_, fun i hi => ⟨?_, ?_⟩⟩ ⟨by omega, by omega⟩) ?_) (fun e => (e ⟨h1, h2, h3⟩).elim))) (P.sho kp)
  · rw [wAdd_off (by omega), thn_ne (by omega)]
  · rw [wAdd_off (by omega), thn_f (by omega)]
  · rw [wAdd_off (by omega), thn_ne (by omega)]
  · rw [wAdd_off (by omega), thn_ne (by omega)]
  · rw [wAdd_off (by omega)]; exact up2_at
theorem T_restore (P : LW h c m o sc L xs zz kk t b na K T N W F FL NB fa nf Cs cu tx n) (hr : Rm lim zz kk) (hI : 300 < dI) (hM : 300 < dM) : Two lim dI dM c m o sc L xs zz (kk + 1) h j_It_restore j_Mo_restore [vi x] [(3, 1), (2, 2)] := by
  intro R X qn qx
  have h5 := P.1.2.2.1.2.1
  have ixf : ∀ {i}, i < N → x = nI i → ix x N := fun {i} hi e => by rw [e]; exact ix_nI hi (by omega)
  have ne : ∀ {i j}, i < N → j < N → x = nI i → x = nI j → j = i := fun {i j} hi hj e ej => nI_inj (by omega) (by omega) (ej.symm.trans e)
  refine C_restore P.1 (by omega) (fun hx => P.tX hr rfl rfl (fun z Q q => S_restore P.1.2.2.1.1 P.1.2.2.1.2.1 (by omega) (fun _ => q _ _ Sc.thn up2_at) (fun i hi e => (hx (ixf hi e)).elim) (fun i hi e => (hx (ixf hi e)).elim)) qx (fun _ p => Or.inl ⟨rfl, p⟩)) (fun i hi e h4 g' O fr => ?_) (fun i hi e h4 => P.tX hr rfl rfl (fun z Q q => S_restore P.1.2.2.1.1 P.1.2.2.1.2.1 (by omega) (fun e1 => (e1 (ixf hi e)).elim) (fun j hj ej h => by rw [ne hi hj e ej] at h; exact (h4 h).elim) (fun _ _ _ _ => q _ _ Sc.thn up2_at)) qx (fun _ p => Or.inr ⟨rfl, p⟩))
  have kp : Keep h g' (ownB t b na (fun i => i ∈ ino T)) := fr.keep.mono (fun a z => Or.inr z)
  have sz := O.2.2.1.size
  have lv : live (up2 (rsM K i) 43 2 (nI (live (rsM K i) T).length)) T = live (rsM K i) T := live_E (fun k => up2_ne (by omega))
  rw [lv, up2_ne (by omega), up2_ne (by omega)] at sz
  have e11 : rsM K i 0 11 = K 0 11 := by unfold rsM; rw [up2_ne (by omega), up2_ne (by omega)]
  have e12 : rsM K i 0 12 = K 0 12 - 1 := up2_at
  rw [e11, e12] at sz
  rw [← sz]
  refine qn _ _ (P.chN hr kp (by rw [fr.1]; omega) (by rw [fr.2.1]; omega) rfl rfl (fun z Q q => S_restore P.1.2.2.1.1 P.1.2.2.1.2.1 (by omega) (fun e1 => (e1 (ixf hi e)).elim) (fun j hj ej h => ?_) (fun j hj ej h => by rw [ne hi hj e ej] at h; exact (h h4).elim))) (P.sho kp)
  rw [ne hi hj e ej]
  refine q _ (Chg.same O (fun r j h1 h2 => ?_) (fun j h1 h2 => ?_) ⟨fun r j h1 h2 h3 => ?_, fun j hj => ?_, fun j hj => ⟨?_, ?_⟩⟩ ⟨P.2.2.2.2.2.1.1, by omega⟩) ?_
  · rw [mRest_e (by omega), up2_ne (by omega)]
  · rw [mRest_e (by omega), up2_ne (by omega)]
  · rw [mRest_e (by omega), rsM_e (by omega) (by omega)]
  · rw [mRest_e (by omega), rsM_e (by omega) (by omega)]
  · rw [mRest_e (by omega), rsM_e (by omega) (by omega)]
  · rw [mRest_e (by omega), rsM_e (by omega) (by omega)]
  · show up2 (up2 (thn K 0) 4 i 0) 0 12 (K 0 12 - 1) 0 0 = 0
    rw [up2_ne (by omega), up2_ne (by omega)]; exact up2_at
theorem own_bt (hl : (live K T).length ≤ 100) {a : Nat} (z : ownB t b na (fun i => i ∈ ino (bt 7 (live K T))) a) : ownB t b na (fun i => i ∈ ino T) a := by
  rcases z with z | z | ⟨i, hi, z⟩
  · exact Or.inl z
  · exact Or.inr (Or.inl z)
  · rw [ino_bt 7 _ (by omega)] at hi; exact Or.inr (Or.inr ⟨i, (lvT hi).1, z⟩)
theorem RebP.sm {M1 : MT} {ll : List Nat} (p : RebP M1 M' N ll) (s : Sm N K M1) : Sm N K M' := by
  have q := p.2.2.2.2.2.2.2.1
  exact ⟨fun r i h1 h2 h3 => (q r i (by omega) (by omega) (by omega) (by omega) (by omega) (by omega) (by omega) (by omega) (by omega)).trans (s.1 r i h1 h2 h3), fun i hi => (q 0 i (by omega) (by omega) (by omega) (by omega) (by omega) (by omega) (by omega) (by omega) (by omega)).trans (s.2.1 i hi), fun i hi => ⟨(q 1 i (by omega) (by omega) (by omega) (by omega) (by omega) (by omega) (by omega) (by omega) (by omega)).trans (s.2.2 i hi).1, (q 2 i (by omega) (by omega) (by omega) (by omega) (by omega) (by omega) (by omega) (by omega) (by omega)).trans (s.2.2 i hi).2⟩⟩
theorem RebP.z0 {M1 : MT} {ll : List Nat} (p : RebP M1 M' N ll) : M' 0 0 = M1 0 0 := p.2.2.2.2.2.2.2.1 0 0 (by omega) (by omega) (by omega) (by omega) (by omega) (by omega) (by omega) (by omega) (by omega)
theorem T_rebuild (P : LW h c m o sc L xs zz kk t b na K T N W F FL NB fa nf Cs cu tx n) (hr : Rm lim zz kk) (hI : 300 < dI) (hM : 300 < dM) : Two0 lim dI dM c m o sc L xs zz (kk + 1) h j_It_rebuild j_Mo_rebuild [] := by
  intro R X qn
  have hl : (live K T).length ≤ 100 := by have := P.1.2.2.1.len; have := P.1.2.2.1.2.2.2.2.2.2.2.2.2.1; omega
  refine C_rebuild P.1 (by omega) (fun gB g' Kc V NP RP => ?_)
  have fr := nul_fr V NP
  refine qn _ _ (P.ch0 hr fr.keep (by rw [fr.1]; omega) (by rw [fr.2.1]; omega) rfl rfl (fun z Q q => S_rebuild P.1.2.2.1 (by omega) (fun M' p I' => q _ ?_))) (P.sho fr.keep)
  exact ⟨na, Kc, _, N, W, (P.1.renew V P.1.2.2.1 NP RP p (fun _ _ _ _ => rfl) (fun _ _ => rfl) I').1, p.sm ⟨fun _ _ _ _ _ => rfl, fun _ _ => rfl, fun _ _ => ⟨rfl, rfl⟩⟩, Nat.le_refl _, fun a z => Or.inl (own_bt hl z), ⟨P.2.2.2.2.2.1.1, by omega⟩⟩
end CHG2
