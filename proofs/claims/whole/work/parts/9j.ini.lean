/-! ===== the class's constructor ===== -/
theorem Keep.kp {h g g' : AHp} {A B : Nat → Prop} (K : Keep h g A) (f : Keep g g' B) (q : ∀ x, B x → hsz h ≤ x ∨ A x) : Keep h g' A := by
  refine ⟨Nat.le_trans K.1 f.1, fun a ha => ?_⟩
  have k1 := K.2 a ha
  have k2 := f.2 a (Nat.lt_of_lt_of_le ha K.1)
  refine ⟨k2.1.trans k1.1, k2.2.1.trans k1.2.1, fun hA => ?_⟩
  have c1 := k1.2.2 hA
  have c2 := k2.2.2 (fun z => by
    rcases q a z with y | y
    · omega
    · exact hA y)
  exact ⟨c2.1.trans c1.1, c2.2.1.trans c1.2.1, c2.2.2.trans c1.2.2⟩
section INIT
variable {h g : AHp} {c : Nat} {lim : Nat × Nat} {d : Nat} {R : RT} {X : XT}
theorem C_mdt18 {a k : Nat} {Y : AHp} (ka : hk Y a = 8) (la : hLen Y a = 256) (hk2 : k < 256) : ∀ (n s : Nat) (v : Int32), s + n = 8 → (∀ v2 s2, WP lim d j_It_makeDigestTable 8 [some (vr (some a)), some (vi (nI (k + 1))), some (vi v2), some (vi s2)] [] (sI Y a k (crcN n v)) R X) → WP lim d j_It_makeDigestTable 18 [some (vr (some a)), some (vi (nI k)), some (vi v), some (vi (nI s))] [] Y R X := by
  intro n
  induction n with
  | zero =>
    intro s v hs q
    refine B_It_makeDigestTable_18 ?_
    have e : s = 8 := by omega
    rw [e, if_neg (by decide), onR_s, nI_clamp (by omega), nI_1]
    exact ⟨ka, by rw [la]; exact ix_nI hk2 (by decide), q v _⟩
  | succ n ih =>
    intro s v hs q
    refine B_It_makeDigestTable_18 ?_
    rw [show (8 : Int32) = nI 8 from rfl, if_pos (nI_lt (by omega) (by omega)), nI_1]
    have q : ∀ v2 s2, WP lim d j_It_makeDigestTable 8 [some (vr (some a)), some (vi (nI (k + 1))), some (vi v2), some (vi s2)] [] (sI Y a k (crcN n (crc1 v))) R X := q
    unfold crc1 at q
    split
    · rename_i c; rw [if_pos c] at q; exact ih (s + 1) _ (by omega) q
    · rename_i c; rw [if_neg c] at q; exact ih (s + 1) _ (by omega) q
theorem C_mdt8 {a : Nat} {G : AHp} (ka : hk G a = 8) (la : hLen G a = 256) (q : ∀ g, Fr G g (fun x => x = a) → (∀ i, i < 256 → hI g a i = crcN 8 (nI i)) → R (some (vr (some a))) g) : ∀ (n k : Nat) (l2 l3 : Option AV) (Y : AHp), k + n = 256 → Fr G Y (fun x => x = a) → (∀ i, i < k → hI Y a i = crcN 8 (nI i)) → WP lim d j_It_makeDigestTable 8 [some (vr (some a)), some (vi (nI k)), l2, l3] [] Y R X := by
  intro n
  induction n with
  | zero =>
    intro k l2 l3 Y hk2 fr h0
    refine B_It_makeDigestTable_8 ?_
    have e : k = 256 := by omega
    rw [onR_s, fr.2.2.1, fr.2.2.2.1, ka, la, e, if_neg (nI_nlt (Nat.le_refl _) (by decide))]
    exact ⟨by decide, rfl, q Y fr (fun i hi => h0 i (by omega))⟩
  | succ n ih =>
    intro k l2 l3 Y hk2 fr h0
    refine B_It_makeDigestTable_8 ?_
    rw [onR_s, fr.2.2.1, fr.2.2.2.1, ka, la, if_pos (nI_lt (by omega) (by omega))]
    refine ⟨by decide, ?_⟩
    rw [← nI_0]
    refine C_mdt18 (by rw [fr.2.2.1]; exact ka) (by rw [fr.2.2.2.1]; exact la) (by omega) 8 0 (nI k) (by decide) (fun v2 s2 => ih (k + 1) _ _ _ (by omega) (fr.trans sI_fr) (fun i hi => ?_))
    by_cases e : i = k
    · rw [e, hI_at]
    · rw [hI_ne (fun z => e z.2)]; exact h0 i (by omega)
theorem C_mdt (hz : hsz h + 1 ≤ lim.1) (hu : hsu h + 256 ≤ lim.2) (q : ∀ g, Keep h g (fun _ => False) → hsz g = hsz h + 1 → hsu g = hsu h + 256 → hk g (hsz h) = 8 → hLen g (hsz h) = 256 → (∀ i, i < 256 → hI g (hsz h) i = crcN 8 (nI i)) → R (some (vr (some (hsz h)))) g) : WM lim d j_It_makeDigestTable [] h R X := by
  have e5 : (256 : Int32).toNatClampNeg = 256 := rfl
  refine B_It_makeDigestTable_0 ?_
  rw [e5]
  have kN : hk (nw h 8 256) (hsz h) = 8 := up1_on _
  have lN : hLen (nw h 8 256) (hsz h) = 256 := up1_on _
  have k0 : Keep h (nw h 8 256) (fun _ => False) := nw_keep
  have z0 : hsz (nw h 8 256) = hsz h + 1 := rfl
  have u0 : hsu (nw h 8 256) = hsu h + 256 := rfl
  refine ⟨by decide, by decide, hz, hu, ?_⟩
  generalize nw h 8 256 = g0 at kN lN k0 z0 u0
  rw [← nI_0]
  refine C_mdt8 kN lN (fun g fr hi => q g (k0.kp fr.keep (fun x hx => Or.inl (by omega))) (by rw [fr.1, z0]) (by rw [fr.2.1, u0]) (by rw [fr.2.2.1, kN]) (by rw [fr.2.2.2.1, lN]) hi) 256 0 _ _ g0 (by decide) Fr.refl (fun i hi => by omega)
/-- the digest table's cell -/
def TBL (g : AHp) (c a : Nat) : Prop := hP g c 0 = some a ∧ a < hsz g ∧ hk g a = 8 ∧ hLen g a = 256 ∧ ∀ i, i < 256 → hI g a i = crcN 8 (nI i)
theorem TBL.keep {g' : AHp} {a : Nat} {B : Nat → Prop} (t : TBL g c a) (k : Keep g g' B) (hB : ¬ B a) (hp : hP g' c 0 = hP g c 0) : TBL g' c a := by
  obtain ⟨t1, t2, t3, t4, t5⟩ := t
  have ka := k.2 a t2
  exact ⟨hp.trans t1, Nat.lt_of_lt_of_le t2 k.1, ka.1.trans t3, ka.2.1.trans t4, fun i hi => by rw [(ka.2.2 hB).1]; exact t5 i hi⟩
/-- a stage of the constructor: the table and n filters stand -/
def ItS (h g : AHp) (c a F : Nat) (FL : Nat → List SP) (NB : Nat → Int32) (fa : Nat → Nat) (n : Nat) : Prop :=
  Keep h g (fun x => x = c) ∧ hsz g ≤ hsz h + 2 + 70 * n ∧ hsu g ≤ hsu h + 264 + 400 * n ∧ TBL g c a ∧ hsz h ≤ a ∧ FA g c F FL NB fa n ∧ hsz h ≤ F ∧ hk g c = 6
set_option maxRecDepth 8000 in
theorem ItS.add {a F n : Nat} {FL : Nat → List SP} {NB : Nat → Int32} {fa : Nat → Nat} {L : List SP} (S : ItS h g c a F FL NB fa n) (hcz : c < hsz h) {g' : AHp} (P : AFP g g' c F FL NB fa n L) : ∃ w e, ItS h g' c a F (up1 FL n L) (up1 NB n w) (up1 fa n e) (n + 1) := by
  obtain ⟨w, e, p1, p2, p3, p4, p5, p6⟩ := P
  obtain ⟨s1, s2, s3, s4, s5, s6, s7, s8⟩ := S
  have na : a ≠ c := by omega
  have nF : a ≠ F := fun z => by
    have h1 := s4.2.2.1
    have h2 := s6.2.2.1.2.2.1
    rw [z, h2] at h1; cases h1
  refine ⟨w, e, s1.kp p1 (fun x hx => ?_), by omega, by omega, s4.keep p1 (fun z => ?_) (by rw [p6]), s5, p4, s7, ?_⟩
  · rcases hx with rfl | rfl
    · exact Or.inr rfl
    · exact Or.inl s7
  · rcases z with z | z
    · exact na z
    · exact nF z
  · rw [(p1.2 c (Nat.lt_of_lt_of_le hcz s1.1)).1]; exact s8
theorem C_addF2 {a F n : Nat} {FL : Nat → List SP} {NB : Nat → Int32} {fa : Nat → Nat} {L : List SP} {cs : List Nat} (S : ItS h g c a F FL NB fa n) (hcz : c < hsz h) (hn : n < 8) (hd : 0 < d) (hw : wf n L 0) {g1 : AHp} (z : hsz g1 = hsz g + 2) (u : hsu g1 = hsu g + 8) (kp : Keep g g1 (fun _ => False)) (C : FCh g1 (hsz g) cs L) (q : ∀ g' w e, ItS h g' c a F (up1 FL n L) (up1 NB n w) (up1 fa n e) (n + 1) → R (some (vi (nI n))) g') : WM lim d j_It_addFilter [vr (some c), vr (some (hsz g))] g1 R X := by
  have hcg : c < hsz g := Nat.lt_of_lt_of_le hcz S.1.1
  have cc := (kp.2 c hcg).2.2 (fun z => z)
  refine C_addF S.2.2.2.2.2.2.2 hcg S.2.2.2.2.2.1 hn hd (kp.mono (fun x z => z.elim)) (fun k _ => by rw [cc.1]) cc.2.1 (Nat.le_refl _) C hw (by omega) (by omega) (fun g' P _ => ?_)
  obtain ⟨w, e, S'⟩ := S.add hcz P
  exact q g' w e S'
def FL3 : Nat → List SP := up1 (up1 (up1 (fun _ => []) 0 [(0, 3, -2147483648, 2147483647)]) 1 [(0, 3, 0, 0)]) 2 [(1, 0, 0, 0)]
theorem C_itA (hc : hk h c = 6) (hcz : c < hsz h) (hd : 3 < d) (hz : hsz h + 300 ≤ lim.1) (hu : hsu h + 3000 ≤ lim.2) (q : ∀ g G a F NB fa, ItS h g c a F FL3 NB fa 3 → G = sP (nw g 10 4) c 3 (some (hsz g)) → WP lim d j_It_init 67 [some (vr (some c)), some (vi (nI 0))] [] G R X) : WM lim d j_It_init [vr (some c)] h R X := by
  have e8 : (8 : Int32).toNatClampNeg = 8 := rfl
  have e4 : (4 : Int32).toNatClampNeg = 4 := rfl
  refine B_It_init_0 ⟨by omega, C_mdt (by omega) (by omega) (fun g1 k1 z1 u1 ka la ia => onO_v ?_)⟩
  rw [e8]
  have kc1 : hk g1 c = 6 := (k1.2 c hcz).1.trans hc
  have z2 : hsz (sP g1 c 0 (some (hsz h))) = hsz h + 1 := z1
  have u2 : hsu (sP g1 c 0 (some (hsz h))) = hsu h + 256 := u1
  have kp2 : Keep h (sP g1 c 0 (some (hsz h))) (fun x => x = c) := sP_kp (k1.mono (fun x z => z.elim)) (Or.inr rfl)
  have T2 : TBL (sP g1 c 0 (some (hsz h))) c (hsz h) := ⟨by rw [hP_sP, hPq_at], by rw [z2]; omega, ka, la, ia⟩
  have kc2 : hk (sP g1 c 0 (some (hsz h))) c = 6 := kc1
  refine ⟨kc1, by decide, by decide, by omega, by omega, ?_⟩
  generalize sP g1 c 0 (some (hsz h)) = g2 at z2 u2 kp2 T2 kc2
  have cg2 : c < hsz g2 := by omega
  have kc3 : hk (nw g2 11 8) c = 6 := (up1_off _ (by omega)).trans kc2
  refine ⟨kc3, ?_⟩
  intro h4
  have z4 : hsz h4 = hsz h + 2 := by show hsz g2 + 1 = _; omega
  have u4 : hsu h4 = hsu h + 264 := by show hsu g2 + 8 = _; omega
  have kp4 : Keep g2 h4 (fun x => x = c) := sP_kp nw_keep (Or.inr rfl)
  have p1 : hP h4 c 1 = some (hsz g2) := hPq_at
  have p0 : hP h4 c 0 = hP g2 c 0 := by
    show up2 (hP (nw g2 11 8)) c 1 (some (hsz g2)) c 0 = _
    rw [hPq_ne (by omega)]
    exact (((nw_keep (h := g2) (k := 11) (n := 8) (A := fun _ => False)).2 c cg2).2.2 (fun z => z)).2.1 ▸ rfl
  have kF : hk h4 (hsz g2) = 11 := by show hk (nw g2 11 8) (hsz g2) = 11; exact up1_on _
  have lF : hLen h4 (hsz g2) = 8 := by show hLen (nw g2 11 8) (hsz g2) = 8; exact up1_on _
  have kc4 : hk h4 c = 6 := kc3
  clear_value h4
  refine ⟨kc4, by omega, ?_⟩
  have z5 : hsz (sI h4 c 2 0) = hsz h + 2 := z4
  have u5 : hsu (sI h4 c 2 0) = hsu h + 264 := u4
  have kp5 : Keep h4 (sI h4 c 2 0) (fun x => x = c) := sI_fr.keep
  have i5 : hI (sI h4 c 2 0) c 2 = 0 := hI_at
  have p5 : hP (sI h4 c 2 0) = hP h4 := hP_sI
  have k5 : hk (sI h4 c 2 0) = hk h4 := hk_sI
  have l5 : hLen (sI h4 c 2 0) = hLen h4 := hLen_sI
  generalize sI h4 c 2 0 = g5 at z5 u5 kp5 i5 p5 k5 l5
  have S0 : ItS h g5 c (hsz h) (hsz g2) (fun _ => []) (fun _ => 0) (fun _ => 0) 0 := by
    have kpA : Keep g2 g5 (fun x => x = c) := kp4.trans kp5
    refine ⟨kp2.trans kpA, by omega, by omega, T2.keep kpA (by omega) (by rw [p5]; exact p0), Nat.le_refl _, ⟨by omega, i5, ⟨by rw [p5]; exact p1, by omega, by rw [k5]; exact kF, by rw [l5]; exact lF, fun f hf => by omega⟩, fun f hf => by omega, fun f hf => by omega⟩, by omega, by rw [k5]; exact kc4⟩
  clear kp2 T2 kp4 kp5 p0 p1 p5 k5 l5 i5 kF lF
  refine C_rangeFilter (by omega) (by omega) (by omega) (fun g6 cs6 z6 u6 kp6 C6 => onO_v ⟨all1.mpr ((kp6.2 c (by omega)).1.trans S0.2.2.2.2.2.2.2), by omega, C_addF2 S0 hcz (by omega) (by omega) (wf_one (Or.inl rfl)) z6 u6 kp6 C6 (fun g7 w7 e7 S7 => onI_v ⟨by omega, ?_⟩)⟩)
  have b7 := S7.2.1
  have v7 := S7.2.2.1
  have c7 : c < hsz g7 := Nat.lt_of_lt_of_le hcz S7.1.1
  refine C_rangeFilter (by omega) (by omega) (by omega) (fun g8 cs8 z8 u8 kp8 C8 => onO_v ⟨all1.mpr ((kp8.2 c c7).1.trans S7.2.2.2.2.2.2.2), by omega, C_addF2 S7 hcz (by omega) (by omega) (wf_one (Or.inl rfl)) z8 u8 kp8 C8 (fun g9 w9 e9 S9 => onI_v ⟨by omega, ?_⟩)⟩)
  have b9 := S9.2.1
  have v9 := S9.2.2.1
  have c9 : c < hsz g9 := Nat.lt_of_lt_of_le hcz S9.1.1
  refine C_overlappingFilter (by omega) (by omega) (by omega) (fun gA csA zA uA kpA CA => onO_v ⟨all1.mpr ((kpA.2 c c9).1.trans S9.2.2.2.2.2.2.2), by omega, C_addF2 S9 hcz (by omega) (by omega) (wf_one (Or.inr rfl)) zA uA kpA CA (fun gB wB eB SB => onI_v ?_)⟩)
  have bB := SB.2.1
  have vB := SB.2.2.1
  have cB : c < hsz gB := Nat.lt_of_lt_of_le hcz SB.1.1
  rw [e4]
  refine ⟨by decide, by decide, by omega, by omega, (up1_off _ (by omega)).trans SB.2.2.2.2.2.2.2, ?_⟩
  exact q gB _ _ _ _ _ SB rfl
/-- what stands when the cursors come -/
def CuS (G Y : AHp) (Cs : Nat) (cu : Nat → Nat) (k : Nat) : Prop :=
  Keep G Y (fun x => x = Cs) ∧ hsz Y = hsz G + k ∧ hsu Y = hsu G + 6 * k ∧ ∀ j, j < k → hP Y Cs j = some (hsz G + j) ∧ hk Y (hsz G + j) = 0 ∧ hI Y (hsz G + j) 0 = 0
theorem C_cuI {X : XT} (q : ∀ g, Keep h g (fun _ => False) → hsz g = hsz h + 1 → hsu g = hsu h + 6 → hk g (hsz h) = 0 → hI g (hsz h) 0 = 0 → R none g) : WM lim d j_Cu_init [vr (some (hsz h))] (nw h 0 6) R X := by
  have kN : hk (nw h 0 6) (hsz h) = 0 := up1_on _
  have k0 : Keep h (nw h 0 6) (fun _ => False) := nw_keep
  have z0 : hsz (nw h 0 6) = hsz h + 1 := rfl
  have u0 : hsu (nw h 0 6) = hsu h + 6 := rfl
  generalize nw h 0 6 = g0 at kN k0 z0 u0
  have a1 : hk (sI g0 (hsz h) 0 0) (hsz h) = 0 := by rw [hk_sI]; exact kN
  have a2 : hk (sI (sI g0 (hsz h) 0 0) (hsz h) 1 0) (hsz h) = 0 := by rw [hk_sI]; exact a1
  refine B_Cu_init_0 ⟨kN, Or.inl rfl, a1, a2, Or.inl rfl, ?_⟩
  intro H1
  have k1 : Keep h H1 (fun _ => False) := sI_kp (sI_kp (sI_kp k0 (Or.inl (Nat.le_refl _))) (Or.inl (Nat.le_refl _))) (Or.inl (Nat.le_refl _))
  have kk : hk H1 = hk g0 := by show hk (sI (sI (sI g0 (hsz h) 0 0) (hsz h) 1 0) (hsz h) 2 0) = _; rw [hk_sI, hk_sI, hk_sI]
  have zz : hsz H1 = hsz g0 := by show hsz (sI (sI (sI g0 (hsz h) 0 0) (hsz h) 1 0) (hsz h) 2 0) = _; rw [hsz_sI, hsz_sI, hsz_sI]
  have uu : hsu H1 = hsu g0 := by show hsu (sI (sI (sI g0 (hsz h) 0 0) (hsz h) 1 0) (hsz h) 2 0) = _; rw [hsu_sI, hsu_sI, hsu_sI]
  have ii : hI H1 (hsz h) 0 = 0 := by
    show hI (sI (sI (sI g0 (hsz h) 0 0) (hsz h) 1 0) (hsz h) 2 0) (hsz h) 0 = 0
    rw [hI_ne (by omega), hI_ne (by omega), hI_at]
  clear_value H1
  have kN1 : hk H1 (hsz h) = 0 := by rw [kk]; exact kN
  have a1 : hk (sI H1 (hsz h) 3 0) (hsz h) = 0 := by rw [hk_sI]; exact kN1
  have a2 : hk (sI (sI H1 (hsz h) 3 0) (hsz h) 4 0) (hsz h) = 0 := by rw [hk_sI]; exact a1
  refine ⟨kN1, a1, a2, ?_⟩
  intro H2
  have k2 : Keep h H2 (fun _ => False) := sI_kp (sI_kp (sI_kp k1 (Or.inl (Nat.le_refl _))) (Or.inl (Nat.le_refl _))) (Or.inl (Nat.le_refl _))
  have kk2 : hk H2 = hk H1 := by show hk (sI (sI (sI H1 (hsz h) 3 0) (hsz h) 4 0) (hsz h) 5 (-1)) = _; rw [hk_sI, hk_sI, hk_sI]
  have zz2 : hsz H2 = hsz H1 := by show hsz (sI (sI (sI H1 (hsz h) 3 0) (hsz h) 4 0) (hsz h) 5 (-1)) = _; rw [hsz_sI, hsz_sI, hsz_sI]
  have uu2 : hsu H2 = hsu H1 := by show hsu (sI (sI (sI H1 (hsz h) 3 0) (hsz h) 4 0) (hsz h) 5 (-1)) = _; rw [hsu_sI, hsu_sI, hsu_sI]
  have ii2 : hI H2 (hsz h) 0 = 0 := by
    show hI (sI (sI (sI H1 (hsz h) 3 0) (hsz h) 4 0) (hsz h) 5 (-1)) (hsz h) 0 = 0
    rw [hI_ne (by omega), hI_ne (by omega), hI_ne (by omega)]; exact ii
  clear_value H2
  exact ⟨rfl, q H2 k2 (by rw [zz2, zz, z0]) (by rw [uu2, uu, u0]) (by rw [kk2]; exact kN1) ii2⟩
theorem C_it67 {G : AHp} {Cs : Nat} (hc : hk G c = 6) (hcz : c < hsz G) (p3 : hP G c 3 = some Cs) (hCs : Cs < hsz G) (kC : hk G Cs = 10) (lC : hLen G Cs = 4) (hd : 0 < d) (hz : hsz G + 4 ≤ lim.1) (hu : hsu G + 24 ≤ lim.2) (q : ∀ Y, CuS G Y Cs (fun j => hsz G + j) 4 → WP lim d j_It_init 67 [some (vr (some c)), some (vi (nI 4))] [] Y R X) : ∀ (n k : Nat) (Y : AHp), k + n = 4 → CuS G Y Cs (fun j => hsz G + j) k → WP lim d j_It_init 67 [some (vr (some c)), some (vi (nI k))] [] Y R X := by
  have ncs : c ≠ Cs := fun z => by rw [z, kC] at hc; cases hc
  intro n
  induction n with
  | zero =>
    intro k Y hk4 S
    have e : k = 4 := by omega
    rw [e] at S ⊢
    exact q Y S
  | succ n ih =>
    intro k Y hk4 S
    have S0 := S
    obtain ⟨s1, s2, s3, s4⟩ := S
    have kc := s1.2 c hcz
    have cc := kc.2.2 ncs
    have kCs := s1.2 Cs hCs
    refine B_It_init_67 ?_
    rw [show (4 : Int32) = nI 4 from rfl, if_pos (nI_lt (by omega) (by omega)), cc.2.1, p3, nI_1, nI_clamp (by omega)]
    refine ⟨kc.1.trans hc, by omega, by omega, hd, C_cuI (fun g kp z u kN iN => ?_)⟩
    rw [onR_s]
    have kCg := kp.2 Cs (by omega)
    refine ⟨kCg.1.trans (kCs.1.trans kC), by rw [kCg.2.1, kCs.2.1, lC]; exact ix_nI (by omega) (by decide), fun b hb => by cases hb; exact kN, ih (k + 1) _ (by omega) ⟨?_, ?_, ?_, ?_⟩⟩
    · exact s1.kp (sP_kp (kp.mono (fun x z => z.elim)) (Or.inr rfl) : Keep Y (sP g Cs k (some (hsz Y))) (fun x => x = Cs)) (fun x hx => Or.inr hx)
    · show hsz g = _; omega
    · show hsu g = _; omega
    · intro j hj
      by_cases e : j = k
      · rw [e, hP_sP, hPq_at, hk_sP, hI_sP, ← s2]
        exact ⟨rfl, kN, iN⟩
      · have sj := s4 j (by omega)
        have kj := kp.2 (hsz G + j) (by omega)
        refine ⟨?_, ?_, ?_⟩
        · rw [hP_sP, hPq_ne (fun z => e z.2), (kCg.2.2 (fun z => z)).2.1]; exact sj.1
        · rw [hk_sP, kj.1]; exact sj.2.1
        · rw [hI_sP, (kj.2.2 (fun z => z)).1]; exact sj.2.2
/-- a new object -/
def ItI (h g : AHp) (c : Nat) : Prop := ∃ (a F : Nat) (NB : Nat → Int32) (fa : Nat → Nat) (Cs : Nat) (cu : Nat → Nat) (tx t b : Nat), Keep h g (fun x => x = c) ∧ hsz g ≤ hsz h + 300 ∧ hsu g ≤ hsu h + 3000 ∧ TBL g c a ∧ FA g c F FL3 NB fa 3 ∧
  (hP g c 3 = some Cs ∧ Cs < hsz g ∧ hk g Cs = 10 ∧ hLen g Cs = 4) ∧ (∀ k, k < 4 → hP g Cs k = some (cu k) ∧ cu k < hsz g ∧ hk g (cu k) = 0 ∧ hI g (cu k) 0 = 0) ∧ (∀ k j, k < 4 → j < 4 → cu k = cu j → k = j) ∧
  (hP g c 4 = some tx ∧ tx < hsz g ∧ a ≠ tx ∧ hk g tx = 8 ∧ hLen g tx = 60 ∧ hI g c 5 = 0) ∧
  (hk g c = 6 ∧ hP g c 6 = some t ∧ hP g c 7 = none) ∧ (hk g t = 5 ∧ t < hsz g ∧ hP g t 0 = some b ∧ hk g b = 12 ∧ hLen g b = 500 ∧ b < hsz g) ∧ (∀ k, 1 ≤ k → k ≤ 3 → hP g t k = none) ∧ (hI g t 4 = 0 ∧ hI g t 5 = 0 ∧ hI g t 6 = 0 ∧ hI g t 7 = 50 ∧ hI g t 8 = 0 ∧ hI g t 9 = 0) ∧ (∀ i, hP g b i = none)
theorem C_itInit (hc : hk h c = 6) (hcz : c < hsz h) (hd : 3 < d) (hz : hsz h + 300 ≤ lim.1) (hu : hsu h + 3000 ≤ lim.2) (q : ∀ g, ItI h g c → R none g) : WM lim d j_It_init [vr (some c)] h R X := by
  refine C_itA hc hcz hd hz hu (fun g G a F NB fa S eG => ?_)
  obtain ⟨s1, s2, s3, s4, s5, s6, s7, s8⟩ := S
  have cg : c < hsz g := Nat.lt_of_lt_of_le hcz s1.1
  have kG : Keep g G (fun x => x = c) := by rw [eG]; exact sP_kp nw_keep (Or.inr rfl)
  have zG : hsz G = hsz g + 1 := by rw [eG]; rfl
  have uG : hsu G = hsu g + 4 := by rw [eG]; rfl
  have cG6 : hk G c = 6 := (kG.2 c cg).1.trans s8
  have p3 : hP G c 3 = some (hsz g) := by rw [eG, hP_sP, hPq_at]
  have pN : ∀ k, k ≠ 3 → hP G c k = hP g c k := fun k hk3 => by
    rw [eG, hP_sP, hPq_ne (by omega)]
    exact (((nw_keep (h := g) (k := 10) (n := 4) (A := fun _ => False)).2 c cg).2.2 (fun z => z)).2.1 ▸ rfl
  have iN : hI G c = hI g c := by
    rw [eG, hI_sP]
    exact (((nw_keep (h := g) (k := 10) (n := 4) (A := fun _ => False)).2 c cg).2.2 (fun z => z)).1
  have kC : hk G (hsz g) = 10 := by rw [eG, hk_sP]; exact up1_on _
  have lC : hLen G (hsz g) = 4 := by rw [eG, hLen_sP]; exact up1_on _
  clear eG
  refine C_it67 cG6 (by omega) p3 (by omega) kC lC (by omega) (by omega) (by omega) (fun Y SY => ?_) 4 0 G (by decide) ⟨⟨Nat.le_refl _, fun x hx => ⟨rfl, rfl, fun _ => ⟨rfl, rfl, rfl⟩⟩⟩, rfl, rfl, fun j hj => by omega⟩
  obtain ⟨y1, y2, y3, y4⟩ := SY
  have e60 : (60 : Int32).toNatClampNeg = 60 := rfl
  have ncs : c ≠ hsz g := by omega
  have kcY := y1.2 c (by omega)
  have ccY := kcY.2.2 ncs
  have cY6 : hk Y c = 6 := kcY.1.trans cG6
  have cY : c < hsz Y := by omega
  refine B_It_init_67 ?_
  rw [if_neg (by decide), e60]
  refine ⟨by decide, by decide, by omega, by omega, (up1_off _ (by omega)).trans cY6, ?_⟩
  intro h3
  have k3 : Keep Y h3 (fun x => x = c) := sP_kp nw_keep (Or.inr rfl)
  have z3 : hsz h3 = hsz Y + 1 := rfl
  have u3 : hsu h3 = hsu Y + 60 := rfl
  have p4 : hP h3 c 4 = some (hsz Y) := hPq_at
  have p4N : ∀ k, k ≠ 4 → hP h3 c k = hP Y c k := fun k hk4 => by
    show up2 (hP (nw Y 8 60)) c 4 (some (hsz Y)) c k = _
    rw [hPq_ne (by omega)]
    exact (((nw_keep (h := Y) (k := 8) (n := 60) (A := fun _ => False)).2 c cY).2.2 (fun z => z)).2.1 ▸ rfl
  have i3 : hI h3 c = hI Y c := (((nw_keep (h := Y) (k := 8) (n := 60) (A := fun _ => False)).2 c cY).2.2 (fun z => z)).1
  have kT : hk h3 (hsz Y) = 8 := by show hk (nw Y 8 60) (hsz Y) = 8; exact up1_on _
  have lT : hLen h3 (hsz Y) = 60 := by show hLen (nw Y 8 60) (hsz Y) = 60; exact up1_on _
  clear_value h3
  have c36 : hk h3 c = 6 := (k3.2 c cY).1.trans cY6
  have z5 : hsz (sI h3 c 5 0) = hsz Y + 1 := z3
  have u5 : hsu (sI h3 c 5 0) = hsu Y + 60 := u3
  have k5 : Keep h3 (sI h3 c 5 0) (fun x => x = c) := sI_fr.keep
  have p5 : hP (sI h3 c 5 0) = hP h3 := hP_sI
  have i5 : hI (sI h3 c 5 0) c 5 = 0 := hI_at
  have i5N : ∀ k, k ≠ 5 → hI (sI h3 c 5 0) c k = hI h3 c k := fun k hk5 => hI_ne (by omega)
  refine ⟨c36, by rw [z5]; omega, by rw [u5]; omega, by omega, ?_⟩
  generalize sI h3 c 5 0 = h5 at z5 u5 k5 p5 i5 i5N
  refine C_treeI (by omega) (by omega) (fun h6 k6 z6 u6 t6 t6p t6i t6b => ?_)
  have c5 : c < hsz h5 := by omega
  have c66 : hk h6 c = 6 := (k6.2 c c5).1.trans ((k5.2 c (by omega)).1.trans c36)
  have c6e := (k6.2 c c5).2.2 (fun z => z)
  refine ⟨c66, by rw [hk_sP]; exact c66, ?_⟩
  intro h7
  have k7 : Keep h6 h7 (fun x => x = c) := (sP_fr.trans sP_fr).keep
  have z7 : hsz h7 = hsz h6 := by show hsz (sP (sP h6 c 6 (some (hsz h5))) c 7 none) = _; rw [hsz_sP, hsz_sP]
  have u7 : hsu h7 = hsu h6 := by show hsu (sP (sP h6 c 6 (some (hsz h5))) c 7 none) = _; rw [hsu_sP, hsu_sP]
  have i7 : hI h7 = hI h6 := by show hI (sP (sP h6 c 6 (some (hsz h5))) c 7 none) = _; rw [hI_sP, hI_sP]
  have kk7 : hk h7 = hk h6 := by show hk (sP (sP h6 c 6 (some (hsz h5))) c 7 none) = _; rw [hk_sP, hk_sP]
  have q6 : hP h7 c 6 = some (hsz h5) := by
    show hP (sP (sP h6 c 6 (some (hsz h5))) c 7 none) c 6 = _
    rw [hP_sP, hPq_ne (by omega), hP_sP, hPq_at]
  have q7 : hP h7 c 7 = none := by
    show hP (sP (sP h6 c 6 (some (hsz h5))) c 7 none) c 7 = _
    rw [hP_sP, hPq_at]
  have qN : ∀ k, k ≠ 6 → k ≠ 7 → hP h7 c k = hP h6 c k := fun k a1 a2 => by
    show hP (sP (sP h6 c 6 (some (hsz h5))) c 7 none) c k = _
    rw [hP_sP, hPq_ne (by omega), hP_sP, hPq_ne (by omega)]
  clear_value h7
  refine ⟨rfl, q h7 ?_⟩
  -- from Y on, but for c, all stays
  have KY : Keep Y h7 (fun x => x = c) := ((k3.trans k5).trans (k6.mono (fun x z => z.elim))).trans k7
  have KG : Keep G h7 (fun x => x = c ∨ x = hsz g) := (y1.mono (fun x z => Or.inr z)).trans (KY.mono (fun x z => Or.inl z))
  have Kg : Keep g h7 (fun x => x = c) := kG.kp KG (fun x z => z.elim Or.inr (fun z => Or.inl (by omega)))
  have pg : ∀ k, k ≠ 3 → k ≠ 4 → k ≠ 6 → k ≠ 7 → hP h7 c k = hP g c k := fun k a1 a2 a3 a4 => by
    rw [qN k a3 a4, c6e.2.1, p5, p4N k a2, ccY.2.1, pN k a1]
  have ig : ∀ k, k ≠ 5 → hI h7 c k = hI g c k := fun k a1 => by
    rw [i7, c6e.1, i5N k a1, i3, ccY.1, iN]
  have old : ∀ x, x < hsz h5 → x ≠ c → hk h7 x = hk h5 x ∧ hLen h7 x = hLen h5 x ∧ hI h7 x = hI h5 x ∧ hP h7 x = hP h5 x := fun x hx hxc => by
    have a1 := k6.2 x hx
    have a2 := k7.2 x (by omega)
    have b1 := a1.2.2 (fun z => z)
    have b2 := a2.2.2 hxc
    exact ⟨a2.1.trans a1.1, a2.2.1.trans a1.2.1, b2.1.trans b1.1, b2.2.1.trans b1.2.1⟩
  have new : ∀ x, hsz h5 ≤ x → x < hsz h6 → hk h7 x = hk h6 x ∧ hLen h7 x = hLen h6 x ∧ hI h7 x = hI h6 x ∧ hP h7 x = hP h6 x := fun x hx hxc => by
    have a2 := k7.2 x hxc
    have b2 := a2.2.2 (by omega : x ≠ c)
    exact ⟨a2.1, a2.2.1, b2.1, b2.2.1⟩
  have nt := new (hsz h5) (by omega) (by omega)
  have nb := new (hsz h5 + 1) (by omega) (by omega)
  have fz := s6.2.2.1.2.1
  have az := s4.2.1
  refine ⟨a, F, NB, fa, hsz g, (fun j => hsz G + j), hsz Y, hsz h5, hsz h5 + 1, s1.trans Kg, by omega, by omega, s4.keep Kg (by omega) (pg 0 (by decide) (by decide) (by decide) (by decide)), s6.keep Kg (ig 2 (by decide)) (pg 1 (by decide) (by decide) (by decide) (by decide)) (fun x hx => by rw [hx, s8]; decide), ?_, fun k hk4 => ?_, fun k j _ _ e => by have : hsz G + k = hsz G + j := e; omega, ?_, ?_, ?_, fun k a1 a2 => ?_, ?_, fun i => ?_⟩
  · have a1 := KG.2 (hsz g) (by omega)
    refine ⟨?_, by omega, a1.1.trans kC, a1.2.1.trans lC⟩
    rw [qN 3 (by decide) (by decide), c6e.2.1, p5, p4N 3 (by decide), ccY.2.1, p3]
  · have yk := y4 k hk4
    have a1 := KY.2 (hsz g) (by omega)
    have a2 := KY.2 (hsz G + k) (by omega)
    refine ⟨?_, ?_, a2.1.trans yk.2.1, ?_⟩
    · rw [(a1.2.2 (by omega)).2.1]; exact yk.1
    · show hsz G + k < hsz h7; omega
    · show hI h7 (hsz G + k) 0 = 0
      rw [(a2.2.2 (by omega)).1]; exact yk.2.2
  · have a1 := k5.2 (hsz Y) (by omega)
    have a2 := old (hsz Y) (by omega) (by omega)
    refine ⟨?_, by omega, by omega, a2.1.trans (a1.1.trans kT), a2.2.1.trans (a1.2.1.trans lT), ?_⟩
    · rw [qN 4 (by decide) (by decide), c6e.2.1, p5, p4]
    · rw [i7, c6e.1]; exact i5
  · exact ⟨by rw [kk7]; exact c66, q6, q7⟩
  · exact ⟨nt.1.trans t6.1, by omega, by rw [nt.2.2.2]; exact t6.2.1, nb.1.trans t6.2.2.1, nb.2.1.trans t6.2.2.2, by omega⟩
  · rw [nt.2.2.2]; exact t6p k a1 a2
  · rw [nt.2.2.1]; exact t6i
  · rw [nb.2.2.2]; exact t6b i
end INIT
