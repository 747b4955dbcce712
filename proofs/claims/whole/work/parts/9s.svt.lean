/-! ===== both sides of save and load ===== -/
theorem RO.mix5 {g : AHp} {c t b : Nat} {na : Nat → Nat} {K M' : MT} {T : Tr} {N : Nat} {W : Int} (O : RO g c t b na K T N W) (e : ∀ r i, 1 ≤ r → r ≤ 8 → i < 500 → M' r i = K r i) (h8 : ∀ i, b01 (M' 8 i)) (h0 : ∀ i, 9 ≤ i → i ≤ 15 → M' 0 i = K 0 i) : RO g c t b na (mixM M' K) T N W := by
  have mi : ∀ r i, r < 36 → mixM M' K r i = M' r i := fun r i hr => mixM_lo hr
  have mh : ∀ r i, ¬ r < 36 → mixM M' K r i = K r i := fun r i hr => if_neg hr
  have lt : ∀ i, i ∈ ino T → i < 500 := fun i hi => (O.2.2.1.lt hi).2
  refine ⟨O.1, O.2.1.congr (fun r i hi hr => ?_) (fun i hi => ?_) (fun i hi => mh 43 i (by omega)), TI_congr5 (fun r i h1 h2 h3 => ?_) (fun i => ?_) (fun i h1 h2 => ?_) O.2.2.1, O.2.2.2.1.congr (fun i _ => ⟨mh 40 i (by omega), mh 41 i (by omega)⟩) (mh 43 0 (by omega)) (mh 43 1 (by omega)), O.2.2.2.2.1, ?_⟩
  · by_cases z : r < 36
    · rw [mi r i z]; exact e r i (by omega) (by omega) (lt i hi)
    · exact mh r i z
  · rw [mi 0 i (by decide)]; exact h0 i (by omega) (by omega)
  · rw [mi r i (by omega)]; exact e r i h1 h2 h3
  · rw [mi 8 i (by decide)]; exact h8 i
  · rw [mi 0 i (by decide)]; exact h0 i (by omega) (by omega)
  · have : live (mixM M' K) T = live K T := filt_congr (fun x hx => by rw [mi 4 x (by decide)]; exact e 4 x (by decide) (by decide) (lt x hx))
    rw [mh 43 2 (by omega), this]; exact O.2.2.2.2.2
section SVT
variable {h g H' : AHp} {lim : Nat × Nat} {d dI dM jM c m o sc L : Nat} {aM : List AV} {xs : Nat → Int32} {zz kk t b : Nat} {na : Nat → Nat} {K K' M' : MT} {T : Tr} {N : Nat} {W : Int} {F : Nat} {FL : Nat → List SP} {NB : Nat → Int32} {fa : Nat → Nat} {nf Cs : Nat} {cu : Nat → Nat} {tx n : Nat} {x y w k l u : Int32}
theorem T_save (P : LW h c m o sc L xs zz kk t b na K T N W F FL NB fa nf Cs cu tx n) (hr : Rm lim zz kk) (hdI : 300 < dI) (hdM : 300 < dM) : Two0 lim dI dM c m o sc L xs zz (kk + 1) h j_It_save j_Mo_save [] := by
  intro R X qn
  have b1 := P.2.2.2.2.2.2
  have b2 := P.2.2.2.2.2.1
  have b3 := hr.1
  have b4 := hr.2
  obtain ⟨l1, l2, l3, l4, l5, l6, l7⟩ := P.2.2.2.1
  have hc := P.1.1.1
  refine C_save P.1 P.2.1 (by omega) (by omega) (by omega) (fun g t' b' na' K2 O2 hK kp nT zg ug iP pP => ?_)
  have nRc : ¬ inR m c := fun z => by have := P.rk z; omega
  have nco : c ≠ o := fun z => by have := l7.2.1; rw [← z, hc] at this; cases this
  have r1 : RefAt g m K := P.2.2.1.keep kp (fun a z => by rw [z]; exact nRc)
  refine qn _ _ (aft0_of (G := fun M' => SavP K M') r1 (P.mle hr) rfl rfl (fun z Q q => S_save P.1.2.2.1 (by omega) q) (fun M' H' G r kq z1 z2 => ?_)) (P.shk kp (fun z => by have h14 := l6.2.1; rw [z, hc] at h14; cases h14))
  obtain ⟨s1, s2, s3, s4⟩ := G
  have kA : Keep h H' (fun a => a = c ∨ (a = o ∨ inR m a)) := (kp.mono (fun a z => Or.inl z)).trans (kq.mono (fun a z => Or.inr z))
  have kd2 : ∀ a, (a = c ∨ (a = o ∨ inR m a)) → inR m a ∨ hk h a = 6 ∨ hk h a = 13 := fun a z => by
    rcases z with z | z | z
    · rw [z, hc]; exact Or.inr (by decide)
    · rw [z, l7.2.1]; exact Or.inr (by decide)
    · exact Or.inl z
  have kd : ∀ a, (a = c ∨ (a = o ∨ inR m a)) → hk h a = 6 ∨ hk h a = 13 ∨ hk h a = 7 ∨ hk h a = 8 ∨ hk h a = 9 := fun a z => by
    rcases kd2 a z with y | y
    · have := P.rk y; omega
    · omega
  have cc := (kq.2 c (Nat.lt_of_lt_of_le P.2.1 kp.1)).2.2 (fun z => z.elim nco nRc)
  have pc : ∀ j, j ≠ 7 → hP H' c j = hP h c j := fun j hj => by rw [cc.2.1, pP, if_neg hj]
  have ic : ∀ j, hI H' c j = hI h c j := fun j => by rw [cc.1, iP]
  have mi : ∀ r i, r < 36 → mixM M' K r i = M' r i := fun r i hr => mixM_lo hr
  refine P.asm kA (fun a z => by have := kd a z; omega) (fun a z => by have := kd a z; omega) (pc 6 (by decide)) (l1.kp kA (pc 0 (by decide)) (fun a z => ?_)) (l2.keep kA (ic 2) (pc 1 (by decide)) (fun a z => by have := kd a z; omega)) (l3.congr (s4 0 24 (by omega) (by omega)) (fun a j h1 h2 => s4 a j (by omega) (by omega))) (l4.keep kA (pc 3 (by decide)) (fun a z => by have := kd a z; omega) (Nat.le_refl _) (Nat.le_refl _) (fun i => by rw [mi 24 i (by decide)]; exact s4 24 i (by omega) (by omega)) (fun i => by rw [mi 25 i (by decide)]; exact s4 25 i (by omega) (by omega)) (fun i => by rw [mi 26 i (by decide)]; exact s4 26 i (by omega) (by omega)) (fun i _ => by rw [mi 1 i (by decide), mi 2 i (by decide)]; exact ⟨s4 1 i (by omega) (by omega), s4 2 i (by omega) (by omega)⟩)) (l5.kp kA (pc 0 (by decide)) (pc 4 (by decide)) (ic 5) (fun a z => ?_) (by rw [mi 0 35 (by decide)]; exact s4 0 35 (by omega) (by omega)) (fun i => by rw [mi 23 i (by decide)]; exact s4 23 i (by omega) (by omega))) (Or.inr ⟨by rw [mi 0 42 (by decide)]; exact s3, t', b', na', K2, T, N, W, by rw [cc.2.1, pP, if_pos rfl], O2.keep kq (fun a za zo => ?_), ⟨b2.1, by omega⟩, fun a z zo => ?_, fun r i h1 h2 h3 h4 => ?_, fun i hi => ?_⟩) r (fun r i h1 h2 => s4 r i (by omega) (by omega)) (fun i h1 h2 => s4 0 i (by omega) (by omega)) (by rw [z1]; omega) (by rw [z2]; omega)
  · rcases kd2 a z with y | y
    · exact Or.inl y
    · exact Or.inr (by omega)
  · rcases kd2 a z with y | y
    · exact Or.inl y
    · exact Or.inr (by omega)
  · have n1 := nT a zo
    have r0 := P.2.2.1.1
    rcases za with za | za
    · have := l7.1; omega
    · have := za.2; omega
  · have n1 := nT a zo
    have := (P.oB z).1
    omega
  · rw [mi r i (by omega), s1 r i h1 h2 h3 h4, hK _ _ (by have := sR_lt h2 h3; omega)]
  · rw [mi 34 i (by decide), s2 i hi, hK 0 _ (by decide)]
set_option maxRecDepth 8000 in
theorem T_load (P : LW h c m o sc L xs zz kk t b na K T N W F FL NB fa nf Cs cu tx n) (hr : Rm lim zz kk) (hdI : 300 < dI) (hdM : 300 < dM) : Two lim dI dM c m o sc L xs zz (kk + 1) h j_It_load j_Mo_load [] [(2, 1)] := by
  intro R X qn qx
  have b1 := P.2.2.2.2.2.2
  have b2 := P.2.2.2.2.2.1
  have b3 := hr.1
  have b4 := hr.2
  have lw := P
  obtain ⟨l1, l2, l3, l4, l5, l6, l7⟩ := P.2.2.2.1
  have hc := P.1.1.1
  rcases P.2.2.2.2.1 with ⟨v1, v2⟩ | ⟨v1, t', b', na', K', T', N', W', v2, v3, v4, v5, v6, v7⟩
  · exact C_loadX hc v2 (P.tX hr rfl rfl (fun z Q q => S_load (Or.inl v1) (fun e => by rw [v1] at e; cases e) (by omega) (fun _ => q _ _ Sc.thn up2_at) (fun e => by rw [v1] at e; cases e)) qx (fun _ p => ⟨rfl, p⟩))
  have b35 : ∀ i, i < 500 → b01 (K 35 i) := fun i hi => by
    rw [v6 35 i (by decide) (by decide) (by decide) hi]
    exact v3.2.1.2.2.2.2.2.2.2.2.2.2.2.2 i
  refine C_load P.1 P.2.1 l4 (by omega) (by omega) (by omega) v2 v3 (fun g t2 b2' na2 K2 O2 hK kp nT zg ug iP pP hcl => ?_)
  have nRc : ¬ inR m c := fun z => by have := P.rk z; omega
  have nco : c ≠ o := fun z => by have := l7.2.1; rw [← z, hc] at this; cases this
  have kcu : ∀ j, j < 4 → hk h (cu j) = 0 := fun j hj => (l4.2.1 j hj).2.2.1
  have r1 : RefAt g m K := P.2.2.1.keep kp (fun a z => z.elim (fun z => by rw [z]; exact nRc) (fun ⟨j, hj, z⟩ => by rw [z]; exact (P.nCu hj).1))
  have e2 : nI (live K' T').length = K 34 2 - K 34 3 := by rw [v7 2 (by decide), v7 3 (by decide)]; exact v3.2.1.size.symm
  rw [e2]
  refine qn _ _ (aftN_of (G := fun M' => LoaP (thn K 0) M') r1 (l7.keep kp).2.1 (P.mle hr) rfl rfl (fun z Q q => S_load (Or.inr v1) (fun _ => b35) (by omega) (fun e => by rw [v1] at e; cases e) (fun _ M' G => q _ G ?_)) (fun M' H' G r kq z1 z2 => ?_)) (P.shk kp (fun z => ?_))
  · rw [G.2.2.2.2 0 0 (Or.inr (by omega)) (by decide)]; exact up2_at
  · obtain ⟨g1, g2, g3, g4, g5⟩ := G
    have s : ∀ r i, (9 ≤ r ∨ (r = 0 ∧ (i < 9 ∨ 15 < i))) → r ≠ 24 → ¬ (r = 0 ∧ i = 0) → M' r i = K r i := fun r i a1 a2 a3 => (g5 r i a1 a2).trans (thn_e a3)
    have kA : Keep h H' (fun a => (a = c ∨ ∃ j, j < 4 ∧ a = cu j) ∨ (a = o ∨ inR m a)) := (kp.mono (fun a z => Or.inl z)).trans (kq.mono (fun a z => Or.inr z))
    have kd2 : ∀ a, ((a = c ∨ ∃ j, j < 4 ∧ a = cu j) ∨ (a = o ∨ inR m a)) → inR m a ∨ hk h a = 6 ∨ hk h a = 13 ∨ hk h a = 0 := fun a z => by
      rcases z with (z | ⟨j, hj, z⟩) | z | z
      · rw [z, hc]; exact Or.inr (by decide)
      · rw [z, kcu j hj]; exact Or.inr (by decide)
      · rw [z, l7.2.1]; exact Or.inr (by decide)
      · exact Or.inl z
    have kd : ∀ a, ((a = c ∨ ∃ j, j < 4 ∧ a = cu j) ∨ (a = o ∨ inR m a)) → hk h a = 6 ∨ hk h a = 13 ∨ hk h a = 0 ∨ hk h a = 7 ∨ hk h a = 8 ∨ hk h a = 9 := fun a z => by
      rcases kd2 a z with y | y
      · have := P.rk y; omega
      · omega
    have cc := (kq.2 c (Nat.lt_of_lt_of_le P.2.1 kp.1)).2.2 (fun z => z.elim nco nRc)
    have pc : ∀ j, j ≠ 6 → hP H' c j = hP h c j := fun j hj => by rw [cc.2.1, pP, if_neg hj]
    have ic : ∀ j, hI H' c j = hI h c j := fun j => by rw [cc.1, iP]
    have mi : ∀ r i, r < 36 → mixM M' K2 r i = M' r i := fun r i hr => mixM_lo hr
    have w1 : ∀ r i, 1 ≤ r → r ≤ 8 → i < 500 → M' r i = K' r i := fun r i a1 a2 a3 => by
      rw [g1 r i a1 a2 a3]
      by_cases e : r = 8
      · rw [if_pos e, thn_e (by omega), v6 35 i (by decide) (by decide) (by decide) a3, e]; rfl
      · rw [if_neg e, thn_e (by omega), v6 (r + 26) i (by omega) (by omega) (by omega) a3]
        unfold sR; rw [if_neg (by omega), Nat.add_sub_cancel]
    have w0 : ∀ i, 9 ≤ i → i ≤ 15 → M' 0 i = K' 0 i := fun i a1 a2 => by
      have := g3 (i - 9) (by omega)
      rw [show 9 + (i - 9) = i by omega] at this
      rw [this, thn_e (by omega), v7 (i - 9) (by omega), show 9 + (i - 9) = i by omega]
    have w8 : ∀ i, b01 (M' 8 i) := fun i => by
      by_cases e : i < 500
      · rw [w1 8 i (by decide) (by decide) e]; exact v3.2.1.2.2.2.2.2.2.2.2.2.2.2.2 i
      · rw [g2 8 i (by decide) (by decide) (by omega), thn_e (by omega)]; exact P.1.2.2.1.2.2.2.2.2.2.2.2.2.2.2.2 i
    have O3 : RTr H' t2 b2' na2 K2 T' N' W' := O2.keep kq (fun a za zo => by
      have n1 := nT a zo
      have r0 := P.2.2.1.1
      rcases za with za | za
      · have := l7.1; omega
      · have := za.2; omega)
    have O4 : RO H' c t2 b2' na2 K2 T' N' W' := O3.ro ((kA.2 c P.2.1).1.trans hc) (by rw [cc.2.1, pP, if_pos rfl])
    have O5 : RO H' c t2 b2' na2 (mixM M' K2) T' N' W' := O4.mix5 (fun r i a1 a2 a3 => by rw [w1 r i a1 a2 a3, hK r i (by omega)]) w8 (fun i a1 a2 => by rw [w0 i a1 a2, hK 0 i (by decide)])
    have rf2 : RFs (mixM M' K2) FL nf := l3.congr (by rw [mi 0 24 (by decide)]; exact s 0 24 (by omega) (by omega) (by omega)) (fun a j h1 h2 => by rw [mi a j (by omega)]; exact s a j (by omega) (by omega) (by omega))
    refine ⟨t2, b2', na2, mixM M' K2, T', N', W', F, FL, NB, fa, nf, Cs, cu, tx, n, O5, Nat.lt_of_lt_of_le P.2.1 kA.1, r.mix, ⟨l1.kp kA (pc 0 (by decide)) (fun a z => ?_), l2.keep kA (ic 2) (pc 1 (by decide)) (fun a z => by have := kd a z; omega), rf2, l4.shut kA (pc 3 (by decide)) (fun a z => by have := kd a z; omega) (fun j hj => ⟨?_, by rw [mi 24 j (by decide)]; exact g4 j hj⟩), l5.kp kA (pc 0 (by decide)) (pc 4 (by decide)) (ic 5) (fun a z => ?_) (by rw [mi 0 35 (by decide)]; exact s 0 35 (by omega) (by omega) (by omega)) (fun i => by rw [mi 23 i (by decide)]; exact s 23 i (by omega) (by omega) (by omega)), l6.keep kA (fun z => by have := kd sc z; have := l6.2.1; omega), l7.keep kA⟩, Or.inr ⟨by rw [mi 0 42 (by decide)]; exact (s 0 42 (by omega) (by omega) (by omega)).trans v1, t', b', na', K', T', N', W', (pc 7 (by decide)).trans v2, v3.keep kA (fun a za zo => ?_), ⟨v4.1, by omega⟩, fun a z zo => ?_, fun r i h1 h2 h3 h4 => ?_, fun i hi => ?_⟩, ⟨v4.1, by omega⟩, by rw [z1]; omega, by rw [z2]; omega⟩
    · rcases kd2 a z with y | y
      · exact Or.inl y
      · exact Or.inr (by omega)
    · have cz : cu j < hsz g := Nat.lt_of_lt_of_le (l4.2.1 j hj).2.1 kp.1
      rw [((kq.2 (cu j) cz).2.2 (fun z => z.elim (fun z => (P.nCu hj).2.1 z.symm) (P.nCu hj).1)).1]; exact hcl j hj
    · rcases kd2 a z with y | y
      · exact Or.inl y
      · exact Or.inr (by omega)
    · have := kd a za
      have := (v3.old zo).2
      omega
    · have n1 := nT a z
      have := (v3.old zo).1
      omega
    · rw [mi r i (by omega), s r i (by omega) (by omega) (by omega)]; exact v6 r i h1 h2 h3 h4
    · rw [mi 34 i (by decide), s 34 i (by omega) (by omega) (by omega)]; exact v7 i hi
  · have h14 := l6.2.1
    rcases z with z | ⟨j, hj, z⟩
    · rw [z, hc] at h14; cases h14
    · rw [z, kcu j hj] at h14; cases h14
end SVT
