/-! ===== both sides of what adds filters, letters ===== -/
/-- what may change when a filter comes -/
def AdP (K M' : MT) : Prop := ∀ r i, ¬ (14 ≤ r ∧ r ≤ 21) → ¬ (r = 0 ∧ (i = 0 ∨ i = 24 ∨ (35 ≤ i ∧ i ≤ 38))) → M' r i = K r i
section FLT
variable {h g H' : AHp} {A : Nat → Prop} {lim : Nat × Nat} {d dI dM jM c m o sc L : Nat} {aM : List AV} {xs : Nat → Int32} {zz kk t b : Nat} {na : Nat → Nat} {K K' M' : MT} {T : Tr} {N : Nat} {W : Int} {F F2 : Nat} {FL FL2 : Nat → List SP} {NB NB2 : Nat → Int32} {fa fa2 : Nat → Nat} {nf nf2 Cs : Nat} {cu : Nat → Nat} {tx n n2 : Nat} {x y w k l u : Int32}
theorem LW.filt (P : LW h c m o sc L xs zz kk t b na K T N W F FL NB fa nf Cs cu tx n) (kp : Keep h g (fun a => a = c ∨ a = F)) (zg : hsz g ≤ hsz h + 70) (ug : hsu g ≤ hsu h + 400) (Y : FA g c F2 FL2 NB2 fa2 nf2) (hnf : nf ≤ nf2) (pP : hP g c = hP h c) (i5 : hI g c 5 = nI n2) (hn2 : n2 ≤ n) (kq : Keep g H' (fun a => a = o ∨ inR m a)) (z1 : hsz H' = hsz g) (z2 : hsu H' = hsu g) (r : RefAt H' m M') (rf : RFs M' FL2 nf2) (h35 : M' 0 35 = nI n2) (s : AdP K M') : LI H' c m o sc L xs zz (kk + 1) := by
  obtain ⟨l1, l2, l3, l4, l5, l6, l7⟩ := P.2.2.2.1
  have hc := P.1.1.1
  have hF : hk h F = 11 := l2.2.2.1.2.2.1
  have kA : Keep h H' (fun a => (a = c ∨ a = F) ∨ (a = o ∨ inR m a)) := (kp.mono (fun a z => Or.inl z)).trans (kq.mono (fun a z => Or.inr z))
  have kd : ∀ a, ((a = c ∨ a = F) ∨ (a = o ∨ inR m a)) → inR m a ∨ hk h a = 6 ∨ hk h a = 11 ∨ hk h a = 13 := fun a z => by
    rcases z with (z | z) | z | z
    · rw [z]; exact Or.inr (Or.inl hc)
    · rw [z]; exact Or.inr (Or.inr (Or.inl hF))
    · rw [z]; exact Or.inr (Or.inr (Or.inr l7.2.1))
    · exact Or.inl z
  have kd2 : ∀ a, ((a = c ∨ a = F) ∨ (a = o ∨ inR m a)) → hk h a = 6 ∨ hk h a = 11 ∨ hk h a = 13 ∨ hk h a = 7 ∨ hk h a = 8 ∨ hk h a = 9 := fun a z => by
    rcases kd a z with y | y
    · have := P.rk y; omega
    · omega
  have nRc : ¬ inR m c := fun z => by have := P.rk z; omega
  have nRF : ¬ inR m F := fun z => by have := P.rk z; omega
  have r1 : RefAt g m K := P.2.2.1.keep kp (fun a z => z.elim (fun z => by rw [z]; exact nRc) (fun z => by rw [z]; exact nRF))
  have og := (l7.keep kp).2.1
  have nco : c ≠ o := fun z => by have := l7.2.1; rw [← z, hc] at this; cases this
  have cc := (kq.2 c (Nat.lt_of_lt_of_le P.2.1 kp.1)).2.2 (fun z => z.elim nco nRc)
  have pc : ∀ j, hP H' c j = hP h c j := fun j => by rw [cc.2.1, pP]
  have mi : ∀ r i, r < 36 → mixM M' K r i = M' r i := fun r i hr => mixM_lo hr
  refine P.asm kA (fun a z => by have := kd2 a z; omega) (fun a z => by have := kd2 a z; omega) (pc 6) (l1.kp kA (pc 0) (fun a z => ?_)) (Y.keep kq (by rw [cc.1]) (by rw [cc.2.1]) (fun a z => ?_)) rf (l4.keep kA (pc 3) (fun a z => by have := kd2 a z; omega) (Nat.le_refl _) hnf (fun i => by rw [mi 24 i (by decide)]; exact s 24 i (by omega) (by omega)) (fun i => by rw [mi 25 i (by decide)]; exact s 25 i (by omega) (by omega)) (fun i => by rw [mi 26 i (by decide)]; exact s 26 i (by omega) (by omega)) (fun i _ => by rw [mi 1 i (by decide), mi 2 i (by decide)]; exact ⟨s 1 i (by omega) (by omega), s 2 i (by omega) (by omega)⟩)) (l5.kp2 kA (pc 0) (pc 4) (by rw [cc.1]; exact i5) hn2 (fun a z => ?_) (by rw [mi 0 35 (by decide)]; exact h35) (fun i => by rw [mi 23 i (by decide)]; exact s 23 i (by omega) (by omega))) (P.2.2.2.2.1.kp kA (pc 7) (fun a z => Or.inr (by have := kd2 a z; omega)) (fun a z => Or.inl z) (by rw [mi 0 42 (by decide)]; exact s 0 42 (by omega) (by omega)) (fun r i h1 h2 => by rw [mi r i (by omega)]; exact s r i (by omega) (by omega)) (by omega)) r (fun r i h1 h2 => s r i (by omega) (by omega)) (fun i h1 h2 => s 0 i (by omega) (by omega)) (by rw [z1]; omega) (by rw [z2]; omega)
  · rcases kd a z with y | y
    · exact Or.inl y
    · exact Or.inr (by omega)
  · rcases z with z | z
    · rw [z, og]; decide
    · have := r1.kind z; omega
  · rcases kd a z with y | y
    · exact Or.inl y
    · exact Or.inr (by omega)
/-- a filter more -/
theorem LW.fN (P : LW h c m o sc L xs zz kk t b na K T N W F FL NB fa nf Cs cu tx n) (hr : Rm lim zz kk) {L' : List SP} (a : AFP h g c F FL NB fa nf L') (i5 : hI g c 5 = nI n2) (hn2 : n2 ≤ n) (ha : aM.map (shV m) = aM) (hj : mown jM = 7) (w : ∀ z Q, (∀ M', (RFs M' (up1 FL nf L') (nf + 1) ∧ M' 0 35 = nI n2 ∧ AdP K M') → M' 0 0 = 0 → Q (some (vi y)) M') → WQ z d jM (vr (some 0) :: aM) K Q) : AftN lim d c m o sc L xs zz (kk + 1) jM aM g y ∧ Shs g c m o sc L xs := by
  obtain ⟨v, e, kp, zg, ug, Y, iP, pP⟩ := a
  obtain ⟨l1, l2, l3, l4, l5, l6, l7⟩ := P.2.2.2.1
  have hc := P.1.1.1
  have hF : hk h F = 11 := l2.2.2.1.2.2.1
  have nRc : ¬ inR m c := fun z => by have := P.rk z; omega
  have nRF : ¬ inR m F := fun z => by have := P.rk z; omega
  have r1 : RefAt g m K := P.2.2.1.keep kp (fun a z => z.elim (fun z => by rw [z]; exact nRc) (fun z => by rw [z]; exact nRF))
  refine ⟨aftN_of r1 (l7.keep kp).2.1 (P.mle hr) ha hj w (fun M' H' G r kq z1 z2 => P.filt kp zg ug Y (by omega) pP i5 hn2 kq z1 z2 r G.1 G.2.1 G.2.2), P.shk kp (fun z => ?_)⟩
  have h14 := l6.2.1
  rcases z with z | z
  · rw [z, hc] at h14; cases h14
  · rw [z, hF] at h14; cases h14
theorem ad_adp {a1 a2 a3 a4 : Int32} {f : Nat} : AdP K (adM (thn K 0) f a1 a2 a3 a4) := fun r i h1 h2 => by
  rw [adM_ne (by omega) (by omega)]; exact thn_e (by omega)
theorem ad_0 {a1 a2 a3 a4 : Int32} {f : Nat} : adM (thn K 0) f a1 a2 a3 a4 0 0 = 0 := by
  rw [adM_ne (by omega) (by omega)]; exact up2_at
theorem ad_35 {a1 a2 a3 a4 : Int32} {f : Nat} : adM (thn K 0) f a1 a2 a3 a4 0 35 = K 0 35 := by
  rw [adM_ne (by omega) (by omega)]; exact thn_e (by omega)
theorem T_addRangeFilter (P : LW h c m o sc L xs zz kk t b na K T N W F FL NB fa nf Cs cu tx n) (hr : Rm lim zz kk) (hI : 300 < dI) (hM : 300 < dM) : Two lim dI dM c m o sc L xs zz (kk + 1) h j_It_addRangeFilter j_Mo_addRangeFilter [vi x, vi y, vi u] [(1, 1), (2, 2)] := by
  intro R X qn qx
  have b1 := P.2.2.2.2.2.2
  have b3 := hr.1
  have b4 := hr.2
  have RFc := P.2.2.2.1.2.2.1
  have TXc := P.2.2.2.1.2.2.2.2.1
  refine C_addRangeFilter P.1.1.1 P.2.1 P.2.2.2.1.2.1 (by omega) (by omega) (by omega) (fun hx => P.tX hr rfl rfl (fun z Q q => S_addRangeFilter RFc (by omega) (fun _ => q _ _ Sc.thn up2_at) (fun e1 e2 => (hx ⟨e1, e2⟩).elim) (fun e1 e2 => (hx ⟨e1, e2⟩).elim)) qx (fun _ p => Or.inl ⟨rfl, p⟩)) (fun h1 h2 h3 => P.tX hr rfl rfl (fun z Q q => S_addRangeFilter RFc (by omega) (fun e => (e ⟨h1, h2⟩).elim) (fun _ _ _ => q _ _ Sc.thn up2_at) (fun _ _ e => absurd e (by omega))) qx (fun _ p => Or.inr ⟨rfl, p⟩)) (fun h1 h2 h3 g a i5 => ?_)
  have q := P.fN (d := dM) (jM := j_Mo_addRangeFilter) (y := nI nf) hr a (i5.trans TXc.2.2.2.2.2.2.2.1) (Nat.le_refl _) (aM := [vi x, vi y, vi u]) rfl rfl (fun z Q q => S_addRangeFilter RFc (by omega) (fun e => (e ⟨h1, h2⟩).elim) (fun _ _ e => absurd e (by omega)) (fun _ _ _ rf => q _ ⟨rf, ad_35.trans TXc.2.2.2.2.2.2.2.2.1, ad_adp⟩ ad_0))
  exact qn _ _ q.1 q.2
theorem T_addHeavierFilter (P : LW h c m o sc L xs zz kk t b na K T N W F FL NB fa nf Cs cu tx n) (hr : Rm lim zz kk) (hI : 300 < dI) (hM : 300 < dM) : Two lim dI dM c m o sc L xs zz (kk + 1) h j_It_addHeavierFilter j_Mo_addHeavierFilter [vi x] [(3, 1), (2, 2)] := by
  intro R X qn qx
  have b1 := P.2.2.2.2.2.2
  have b2 := P.2.2.2.2.2.1
  have b3 := hr.1
  have b4 := hr.2
  have RFc := P.2.2.2.1.2.2.1
  have TXc := P.2.2.2.1.2.2.2.2.1
  have ixf : ∀ {i}, i ∈ ino T → x = nI i → ix x N ∧ K 4 x.toNatClampNeg < 2 := fun {i} hi e => P.1.in_iff.mp ⟨i, hi, e⟩
  refine C_addHeavierFilter P.1 P.2.1 P.2.2.2.1.2.1 (by omega) (by omega) (by omega) (fun hx => P.tX hr rfl rfl (fun z Q q => S_addHeavierFilter P.1.2.2.1 (by omega) RFc (by omega) (fun _ => q _ _ Sc.thn up2_at) (fun i hi e => (hx (ixf hi e)).elim) (fun i hi e => (hx (ixf hi e)).elim)) qx (fun _ p => Or.inl ⟨rfl, p⟩)) (fun i hi e h3 => P.tX hr rfl rfl (fun z Q q => S_addHeavierFilter P.1.2.2.1 (by omega) RFc (by omega) (fun e1 => (e1 (ixf hi e)).elim) (fun _ _ _ _ => q _ _ Sc.thn up2_at) (fun _ _ _ e => absurd e (by omega))) qx (fun _ p => Or.inr ⟨rfl, p⟩)) (fun i hi e h3 g a i5 => ?_)
  have q := P.fN (d := dM) (jM := j_Mo_addHeavierFilter) (y := nI nf) hr a (i5.trans TXc.2.2.2.2.2.2.2.1) (Nat.le_refl _) (aM := [vi x]) rfl rfl (fun z Q q => S_addHeavierFilter P.1.2.2.1 (by omega) RFc (by omega) (fun e1 => (e1 (ixf hi e)).elim) (fun _ _ _ e => absurd e (by omega)) (fun j hj ej _ rf => by
    have : j = i := nI_inj (P.1.2.1.lt hj) (P.1.2.1.lt hi) (ej.symm.trans e)
    rw [this] at rf ⊢
    exact q _ ⟨rf, ad_35.trans TXc.2.2.2.2.2.2.2.2.1, ad_adp⟩ ad_0))
  exact qn _ _ q.1 q.2
theorem T_addCombinedFilter (P : LW h c m o sc L xs zz kk t b na K T N W F FL NB fa nf Cs cu tx n) (hr : Rm lim zz kk) (hI : 300 < dI) (hM : 300 < dM) : Two lim dI dM c m o sc L xs zz (kk + 1) h j_It_addCombinedFilter j_Mo_addCombinedFilter [vi x, vi y, vi u] [(1, 1), (2, 2)] := by
  intro R X qn qx
  have b1 := P.2.2.2.2.2.2
  have b3 := hr.1
  have b4 := hr.2
  have RFc := P.2.2.2.1.2.2.1
  have h8 := RFc.1
  have TXc := P.2.2.2.1.2.2.2.2.1
  have ixf : ∀ {r : Nat} {v : Int32}, r < nf → v = nI r → ix v nf := fun {r v} hr e => by rw [e]; exact ix_nI hr (by omega)
  refine C_addCombinedFilter P.1.1.1 P.2.1 P.2.2.2.1.2.1 (by omega) (by omega) (by omega) (fun hx => P.tX hr rfl rfl (fun z Q q => S_addCombinedFilter RFc (by omega) (fun _ => q _ _ Sc.thn up2_at) (fun e1 e2 e3 => (hx ⟨e1, e2, e3⟩).elim) (fun r1 r2 e1 k1 k2 e2 e3 => (hx ⟨e1, ixf k1 e2, ixf k2 e3⟩).elim)) qx (fun _ p => Or.inl ⟨rfl, p⟩)) (fun h1 h2 h3 h4 => P.tX hr rfl rfl (fun z Q q => S_addCombinedFilter RFc (by omega) (fun e => (e ⟨h1, h2, h3⟩).elim) (fun _ _ _ _ => q _ _ Sc.thn up2_at) (fun _ _ _ _ _ _ _ e => absurd e (by omega))) qx (fun _ p => Or.inr ⟨rfl, p⟩)) (fun r1 r2 h1 k1 k2 e2 e3 h4 g a i5 => ?_)
  have q := P.fN (d := dM) (jM := j_Mo_addCombinedFilter) (y := nI nf) hr a (i5.trans TXc.2.2.2.2.2.2.2.1) (Nat.le_refl _) (aM := [vi x, vi y, vi u]) rfl rfl (fun z Q q => S_addCombinedFilter RFc (by omega) (fun e => (e ⟨h1, ixf k1 e2, ixf k2 e3⟩).elim) (fun _ _ _ e => absurd e (by omega)) (fun q1 q2 _ j1 j2 g2 g3 _ rf => by
    have d1 : q1 = r1 := nI_inj (by omega) (by omega) (g2.symm.trans e2)
    have d2 : q2 = r2 := nI_inj (by omega) (by omega) (g3.symm.trans e3)
    rw [d1, d2] at rf
    exact q _ ⟨rf, ad_35.trans TXc.2.2.2.2.2.2.2.2.1, ad_adp⟩ ad_0))
  exact qn _ _ q.1 q.2
theorem EP.adp {M1 : MT} (e : EP nf (thn K 0) M1) {r i : Nat} (h1 : ¬ (14 ≤ r ∧ r ≤ 21)) (h2 : ¬ (r = 0 ∧ (i = 0 ∨ i = 24 ∨ (35 ≤ i ∧ i ≤ 38)))) : M1 r i = K r i := by
  rw [e r i (by omega) (by omega) (by omega)]; exact thn_e (by omega)
theorem T_parseFilter (P : LW h c m o sc L xs zz kk t b na K T N W F FL NB fa nf Cs cu tx n) (hr : Rm lim zz kk) (hI : 300 < dI) (hM : 300 < dM) : Two lim dI dM c m o sc L xs zz (kk + 1) h j_It_parseFilter j_Mo_parseFilter [] [(2, 1)] := by
  intro R X qn qx
  have b1 := P.2.2.2.2.2.2
  have b3 := hr.1
  have b4 := hr.2
  have RFc := P.2.2.2.1.2.2.1
  have Y := P.2.2.2.1.2.1
  have TXc := P.2.2.2.1.2.2.2.2.1
  have hn := TXc.2.2.2.2.2.2.1
  have h35 := TXc.2.2.2.2.2.2.2.2.1
  have h23 : ∀ k, k < n → ix (K 23 k) 256 := fun k hk => (TXc.2.2.2.2.2.2.2.2.2 k hk).2
  obtain ⟨res, hres⟩ := Rs_tot (tx := K 23) (n := n) (nf := nf) (p := 0) (due := true) (oc := 0) (rf := 0) (out := []) (ws := [])
  refine C_parseFilter P.1.1.1 P.2.1 Y TXc (by omega) (by omega) (by omega) hres (fun h3 => P.tX hr rfl rfl (fun z Q q => S_parseFilter RFc hn h35 h23 (by omega) (fun _ => q _ _ Sc.thn up2_at) (fun _ _ e => absurd e (by omega)) (fun _ _ e => absurd e (by omega))) qx (fun _ p => ⟨rfl, p⟩)) (fun h3 g p ep kp zg ug iP i5 pP => ?_) (fun h3 g L' p ep a i5 => ?_)
  · have hc := P.1.1.1
    have l6 := P.2.2.2.1.2.2.2.2.2.1
    have kp2 : Keep h g (fun a => a = c ∨ a = F) := kp.mono (fun a z => Or.inl z)
    have Yg : FA g c F FL NB fa nf := Y.keep kp (iP 2 (by decide)) (by rw [pP]) (fun a z => by rw [z, hc]; decide)
    have nRc : ¬ inR m c := fun z => by have := P.rk z; omega
    have r1 : RefAt g m K := P.2.2.1.keep kp (fun a z => by rw [z]; exact nRc)
    refine qn _ _ (aftN_of (G := fun M' => RFs M' FL nf ∧ M' 0 35 = nI 0 ∧ AdP K M') r1 (P.ok.keep kp).2.1 (P.mle hr) rfl rfl (fun z Q q => S_parseFilter RFc hn h35 h23 (by omega) (fun e => absurd e (by omega)) (fun p2 M1 _ rs _ E e36 => ?_) (fun L2 M1 _ rs => ?_)) (fun M' H' G r kq z1 z2 => P.filt kp2 zg ug Yg (Nat.le_refl _) pP (i5.trans nI_0.symm) (Nat.zero_le _) kq z1 z2 r G.1 G.2.1 G.2.2)) (P.shk kp (fun z => by have h14 := l6.2.1; rw [z, hc] at h14; cases h14))
    · have e1 := Rs_det hres rs
      rw [ep] at e1
      have e2 : p = p2 := (Prod.mk.inj e1).2
      rw [← e2]
      refine q _ ⟨⟨RFc.1, ?_, fun f hf => ⟨(RFc.2.2 f hf).1, (RFc.2.2 f hf).2.loc rfl (fun a h1 h2 => ?_) (fun a k h1 h2 h3 => ?_)⟩⟩, ?_, fun r i h1 h2 => ?_⟩ ?_
      · rw [up2_ne (by omega), up2_ne (by omega), E 0 24 (by omega) (by omega) (by omega), thn_e (by omega)]; exact RFc.2.1
      · rw [up2_ne (by omega), up2_ne (by omega), E a f (by omega) (by omega) (by omega), thn_e (by omega)]
      · rw [up2_ne (by omega), up2_ne (by omega), E a _ (by omega) (by omega) (by omega), thn_e (by omega)]
      · rw [up2_at]; rfl
      · rw [up2_ne (by omega), up2_ne (by omega)]; exact E.adp h1 h2
      · rw [up2_ne (by omega), up2_ne (by omega), E 0 0 (by omega) (by omega) (by omega)]; exact up2_at
    · have e1 := Rs_det hres rs
      rw [ep] at e1
      cases (Prod.mk.inj e1).1
  · have q := P.fN (d := dM) (jM := j_Mo_parseFilter) (y := nI nf) hr a (i5.trans nI_0.symm) (Nat.zero_le _) (aM := []) rfl rfl (fun z Q q => S_parseFilter RFc hn h35 h23 (by omega) (fun e => absurd e (by omega)) (fun p2 M1 _ rs => by
      have e1 := Rs_det hres rs
      rw [ep] at e1
      cases (Prod.mk.inj e1).1) (fun L2 M1 _ rs _ E rf => by
      have e1 := Rs_det hres rs
      rw [ep] at e1
      have e2 : L' = L2 := Option.some.inj (Prod.mk.inj e1).1
      rw [← e2] at rf
      refine q _ ⟨rf, ?_, fun r i h1 h2 => ?_⟩ ?_
      · rw [adM_ne (by omega) (by omega), up2_at]; rfl
      · rw [adM_ne (by omega) (by omega), up2_ne (by omega), up2_ne (by omega)]; exact E.adp h1 h2
      · rw [adM_ne (by omega) (by omega), up2_ne (by omega), up2_ne (by omega), E 0 0 (by omega) (by omega) (by omega)]; exact up2_at))
    exact qn _ _ q.1 q.2
theorem T_feed (P : LW h c m o sc L xs zz kk t b na K T N W F FL NB fa nf Cs cu tx n) (hr : Rm lim zz kk) (hI : 300 < dI) (hM : 300 < dM) : Two lim dI dM c m o sc L xs zz (kk + 1) h j_It_feed j_Mo_feed [vi x] [(1, 1), (2, 2)] := by
  intro R X qn qx
  obtain ⟨l1, l2, l3, l4, l5, l6, l7⟩ := P.2.2.2.1
  have hn := l5.2.2.2.2.2.2.1
  have h35 := l5.2.2.2.2.2.2.2.2.1
  refine C_feed P.1.1.1 l5 (fun hx => P.tX hr rfl rfl (fun z Q q => S_feed h35 hn (by omega) (fun _ => q _ _ Sc.thn up2_at) (fun e => (hx e).elim) (fun e => (hx e).elim)) qx (fun _ p => Or.inl ⟨rfl, p⟩)) (fun h1 h2 => P.tX hr rfl rfl (fun z Q q => S_feed h35 hn (by omega) (fun e => (e h1).elim) (fun _ _ => q _ _ Sc.thn up2_at) (fun _ e => absurd e (by omega))) qx (fun _ p => Or.inr ⟨rfl, p⟩)) (fun h1 h2 g fr pP iN i5 it => ?_)
  have hc := P.1.1.1
  obtain ⟨t1, t2, t3, t4, t5, t6, t7, t8, t9, t10⟩ := l5
  have nRc : ¬ inR m c := fun z => by have := P.rk z; omega
  have r1 : RefAt g m K := P.2.2.1.keep fr.keep (fun a z => z.elim (fun z => by rw [z]; exact t3) (fun z => by rw [z]; exact nRc))
  have nco : c ≠ o := fun z => by have := l7.2.1; rw [← z, hc] at this; cases this
  have nto : tx ≠ o := fun z => by have := l7.2.1; rw [← z, t4] at this; cases this
  refine qn _ _ (aftN_of (G := fun M' => M' = fdM K n x) r1 (l7.keep fr.keep).2.1 (P.mle hr) rfl rfl (fun z Q q => S_feed h35 hn (by omega) (fun e => (e h1).elim) (fun _ e => absurd e (by omega)) (fun _ _ => q _ rfl ?_)) (fun M' H' G r kq z1 z2 => ?_)) (P.shk fr.keep (fun z => ?_))
  · show up2 (up2 (thn K 0) 23 n x) 0 35 (nI (n + 1)) 0 0 = 0
    rw [up2_ne (by omega), up2_ne (by omega)]; exact up2_at
  · subst G
    have s : ∀ r i, ¬ (r = 0 ∧ (i = 0 ∨ i = 35)) → ¬ (r = 23 ∧ i = n) → fdM K n x r i = K r i := fun r i h1 h2 => by
      show up2 (up2 (thn K 0) 23 n x) 0 35 (nI (n + 1)) r i = K r i
      rw [up2_ne (by omega), up2_ne (by omega), thn_e (by omega)]
    have kA : Keep h H' (fun a => (a = tx ∨ a = c) ∨ (a = o ∨ inR m a)) := (fr.keep.mono (fun a z => Or.inl z)).trans (kq.mono (fun a z => Or.inr z))
    have kd2 : ∀ a, ((a = tx ∨ a = c) ∨ (a = o ∨ inR m a)) → hk h a = 6 ∨ hk h a = 13 ∨ hk h a = 7 ∨ hk h a = 8 ∨ hk h a = 9 := fun a z => by
      rcases z with (z | z) | z | z
      · rw [z, t4]; decide
      · rw [z, hc]; decide
      · rw [z, l7.2.1]; decide
      · have := P.rk z; omega
    have cc := (kq.2 c (by rw [fr.1]; exact P.2.1)).2.2 (fun z => z.elim nco nRc)
    have ct := (kq.2 tx (by rw [fr.1]; exact t2)).2.2 (fun z => z.elim nto t3)
    have pc : ∀ j, hP H' c j = hP h c j := fun j => by rw [cc.2.1, pP]
    have mi : ∀ r i, r < 36 → mixM (fdM K n x) K r i = fdM K n x r i := fun r i hr => mixM_lo hr
    refine P.asm kA (fun a z => by have := kd2 a z; omega) (fun a z => by have := kd2 a z; omega) (pc 6) ?_ (l2.keep kA (by rw [cc.1]; exact iN 2 (by decide)) (pc 1) (fun a z => by have := kd2 a z; omega)) (l3.congr (s 0 24 (by omega) (by omega)) (fun a j h1 h2 => s a j (by omega) (by omega))) (l4.keep kA (pc 3) (fun a z => by have := kd2 a z; omega) (Nat.le_refl _) (Nat.le_refl _) (fun i => by rw [mi 24 i (by decide)]; exact s 24 i (by omega) (by omega)) (fun i => by rw [mi 25 i (by decide)]; exact s 25 i (by omega) (by omega)) (fun i => by rw [mi 26 i (by decide)]; exact s 26 i (by omega) (by omega)) (fun i _ => by rw [mi 1 i (by decide), mi 2 i (by decide)]; exact ⟨s 1 i (by omega) (by omega), s 2 i (by omega) (by omega)⟩)) (n2 := n + 1) ⟨(pc 4).trans t1, Nat.lt_of_lt_of_le t2 kA.1, t3, (kA.2 tx t2).1.trans t4, (kA.2 tx t2).2.1.trans t5, by rw [pc 0]; exact t6, by omega, by rw [cc.1]; exact i5, ?_, fun i hi => ?_⟩ (P.2.2.2.2.1.kp kA (pc 7) (fun a z => Or.inr (by have := kd2 a z; omega)) (fun a z => Or.inl z) (by rw [mi 0 42 (by decide)]; exact s 0 42 (by omega) (by omega)) (fun r i h1 h2 => by rw [mi r i (by omega)]; exact s r i (by omega) (by omega)) (by omega)) r (fun r i h1 h2 => s r i (by omega) (by omega)) (fun i h1 h2 => s 0 i (by omega) (by omega)) (by rw [z1, fr.1]; omega) (by rw [z2, fr.2.1]; omega)
    · obtain ⟨a0, a1, a2, a3, a4, a5, a6⟩ := l1
      have ne : a0 ≠ tx := fun z => t6 (by rw [← z]; exact a1)
      have ne2 : a0 ≠ c := fun z => by rw [z, hc] at a4; cases a4
      have ne3 : a0 ≠ o := fun z => by have := l7.2.1; rw [← z, a4] at this; cases this
      have ka := kA.2 a0 a2
      refine ⟨a0, (pc 0).trans a1, Nat.lt_of_lt_of_le a2 kA.1, a3, ka.1.trans a4, ka.2.1.trans a5, fun i hi => ?_⟩
      rw [(ka.2.2 (fun z => z.elim (fun z => z.elim ne ne2) (fun z => z.elim ne3 a3))).1]; exact a6 i hi
    · rw [mi 0 35 (by decide)]; exact up2_at
    · rw [ct.1, it, mi 23 i (by decide)]
      by_cases e : i = n
      · rw [if_pos e, e]
        have : fdM K n x 23 n = x := by
          show up2 (up2 (thn K 0) 23 n x) 0 35 (nI (n + 1)) 23 n = x
          rw [up2_ne (by omega), up2_at]
        rw [this]; exact ⟨rfl, h1⟩
      · rw [if_neg e, s 23 i (by omega) (by omega)]; exact t10 i (by omega)
  · have h14 := l6.2.1
    rcases z with z | z
    · rw [z, t4] at h14; cases h14
    · rw [z, hc] at h14; cases h14
end FLT
