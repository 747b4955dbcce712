/-! ===== the class: turning ===== -/
theorem up2_comm {M : MT} {a k b j : Nat} {v w : Int32} (h : ¬ (a = b ∧ k = j)) : up2 (up2 M a k v) b j w = up2 (up2 M b j w) a k v := by
  funext c l
  by_cases h1 : c = b ∧ l = j
  · rw [h1.1, h1.2, up2_at, up2_ne (by omega), up2_at]
  · rw [up2_ne h1]
    by_cases h2 : c = a ∧ l = k
    · rw [h2.1, h2.2, up2_at, up2_at]
    · rw [up2_ne h2, up2_ne h2, up2_ne h1]
def setM (K : MT) (r n : Nat) (x : Int32) : MT := if x = -1 then up2 K r n x else up2 (up2 K r n x) 7 x.toNatClampNeg (nI n)
def endM (K : MT) (u : Int32) (p n : Nat) : MT := if u = -1 then up2 K 0 9 (nI n) else if K 5 u.toNatClampNeg = nI p then up2 K 5 u.toNatClampNeg (nI n) else up2 K 6 u.toNatClampNeg (nI n)
theorem endM_eq {A : MT} {u : Int32} {p n : Nat} (h : n ≠ p) : endM (up2 (up2 A 7 p (nI n)) 7 n u) u p n = up2 (hangM A u (nI p) n) 7 p (nI n) := by
  unfold endM hangM
  rw [show (up2 (up2 A 7 p (nI n)) 7 n u) 5 u.toNatClampNeg = A 5 u.toNatClampNeg by rw [up2_ne (by omega), up2_ne (by omega)]]
  split
  · rw [up2_comm (a := 7) (k := p) (by omega), up2_comm (a := 7) (k := p) (by omega)]
  · split
    · rw [up2_comm (a := 7) (k := p) (by omega), up2_comm (a := 7) (k := p) (by omega)]
    · rw [up2_comm (a := 7) (k := p) (by omega), up2_comm (a := 7) (k := p) (by omega)]
section LIFT
variable {g0 g : AHp} {t b : Nat} {na : Nat → Nat} {D : Nat → Prop} {K : MT} {n p : Nat} {lim : Nat × Nat} {d : Nat} {R : RT} {X : XT} {x : Int32} {o : Option Nat}
theorem CV.nul (V : CV g0 g t b na D K) (hx : pd D x) : (x = -1 ∧ oa na x = none) ∨ ∃ i, D i ∧ x = nI i ∧ oa na x = some (na i) ∧ ¬ x = -1 ∧ x.toNatClampNeg = i := by
  rcases hx with rfl | ⟨i, hi, rfl⟩
  · exact Or.inl ⟨rfl, oa_n⟩
  · have := V.lt hi; exact Or.inr ⟨i, hi, rfl, oa_s this, nI_m1 (by omega), nI_clamp (by omega)⟩
theorem C_setLeft (V : CV g0 g t b na D K) (hn : D n) (hx : pd D x) (ho : o = oa na x) (q : ∀ g', CV g0 g' t b na D (setM K 5 n x) → R none g') : WM lim d j_No_setLeft [vr (some (na n)), vr o] g R X := by
  subst ho
  refine B_No_setLeft_0 ⟨V.kn hn, ?_⟩
  unfold setM at q
  have V1 := V.wnP (k := 7) hn (by decide) hx
  rcases V.nul hx with ⟨e, eo⟩ | ⟨i, hi, e, eo, e1, e2⟩
  · rw [if_pos e] at q
    rw [eo] at V1 ⊢
    exact ⟨rfl, q _ V1⟩
  · rw [if_neg e1, e2] at q
    rw [eo] at V1 ⊢
    have V2 := V1.wnP (k := 6) hi (by decide) (Or.inr ⟨n, hn, rfl⟩)
    rw [oa_s (V.lt hn)] at V2
    exact ⟨V1.kn hi, rfl, q _ V2⟩
theorem C_setRight (V : CV g0 g t b na D K) (hn : D n) (hx : pd D x) (ho : o = oa na x) (q : ∀ g', CV g0 g' t b na D (setM K 6 n x) → R none g') : WM lim d j_No_setRight [vr (some (na n)), vr o] g R X := by
  subst ho
  refine B_No_setRight_0 ⟨V.kn hn, ?_⟩
  unfold setM at q
  have V1 := V.wnP (k := 8) hn (by decide) hx
  rcases V.nul hx with ⟨e, eo⟩ | ⟨i, hi, e, eo, e1, e2⟩
  · rw [if_pos e] at q
    rw [eo] at V1 ⊢
    exact ⟨rfl, q _ V1⟩
  · rw [if_neg e1, e2] at q
    rw [eo] at V1 ⊢
    have V2 := V1.wnP (k := 6) hi (by decide) (Or.inr ⟨n, hn, rfl⟩)
    rw [oa_s (V.lt hn)] at V2
    exact ⟨V1.kn hi, rfl, q _ V2⟩
theorem lift_end {g3 : AHp} {u : Int32} (V : CV g0 g3 t b na D K) (hn : D n) (hp : D p) (hu : pd D u) (q : ∀ g', CV g0 g' t b na D (endM K u p n) → R none g') :
    ifN (oa na u) (hk g3 t = 5 ∧ R none (sP g3 t 1 (some (na n)))) (onR (oa na u) fun a => hk g3 a = 2 ∧ if hP g3 a 7 = some (na p) then (onR (oa na u) fun a => hk g3 a = 2 ∧ R none (sP g3 a 7 (some (na n)))) else (onR (oa na u) fun a => hk g3 a = 2 ∧ R none (sP g3 a 8 (some (na n))))) := by
  unfold endM at q
  rcases V.nul hu with ⟨e, eo⟩ | ⟨i, hi, e, eo, e1, e2⟩
  · rw [if_pos e] at q
    rw [eo]
    have V1 := V.wtP (k := 1) (by decide) (by decide) (Or.inr ⟨n, hn, rfl⟩)
    rw [oa_s (V.lt hn)] at V1
    exact ⟨V.kt, q _ V1⟩
  · rw [if_neg e1, e2] at q
    rw [eo]
    refine ⟨V.kn hi, ?_⟩
    rw [(V.le hi).1]
    by_cases c : K 5 i = nI p
    · rw [if_pos ((V.oeq (V.le hi).2 hp).mpr c)]
      rw [if_pos c] at q
      have V1 := V.wnP (k := 7) hi (by decide) (Or.inr ⟨n, hn, rfl⟩)
      rw [oa_s (V.lt hn)] at V1
      exact ⟨V.kn hi, q _ V1⟩
    · rw [if_neg (fun h => c ((V.oeq (V.le hi).2 hp).mp h))]
      rw [if_neg c] at q
      have V1 := V.wnP (k := 8) hi (by decide) (Or.inr ⟨n, hn, rfl⟩)
      rw [oa_s (V.lt hn)] at V1
      exact ⟨V.kn hi, q _ V1⟩
theorem C_lift (V : CV g0 g t b na D K) (hn : D n) (hp : D p) (hnp : n ≠ p) (h7 : K 7 n = nI p) (hd : 0 < d) (q : ∀ g', CV g0 g' t b na D (riseM K n p) → R none g') : WM lim d j_Tr_lift [vr (some t), vr (some (na n))] g R X := by
  have n5 := V.lt hn
  have p5 := V.lt hp
  have e6 : hP g (na n) 6 = some (na p) := by rw [(V.pa hn).1, h7, oa_s p5]
  have hsp : ∀ A r, setM A r n (nI p) = up2 (up2 A r n (nI p)) 7 p (nI n) := fun A r => by unfold setM; rw [if_neg (nI_m1 (by omega)), nI_clamp (by omega)]
  refine B_Tr_lift_0 ?_
  simp only [onR_s, ifN_s, e6, (V.pa hp).1, (V.le hp).1, (V.ri hn).1, (V.le hn).1, all1, true_and]
  refine ⟨V.kn hn, V.kn hp, V.kn hp, ?_⟩
  unfold riseM at q
  by_cases c : K 5 p = nI n
  · rw [if_pos ((V.oeq (V.le hp).2 hn).mpr c)]
    rw [if_pos c] at q
    refine ⟨V.kn hn, V.kn hp, hd, C_setLeft V hp (V.ri hn).2 rfl (fun g1 V1 => ⟨V1.kn hn, hd, C_setRight V1 hn (Or.inr ⟨p, hp, rfl⟩) (oa_s p5).symm (fun g2 V2 => ⟨V2.kn hn, ?_⟩)⟩)⟩
    rw [hsp] at V2
    have V3 := V2.wnP (k := 6) hn (by decide) (V.pa hp).2
    refine lift_end V3 hn hp (V.pa hp).2 (fun g' V' => q g' ?_)
    rw [show nrP 6 = 7 from rfl, endM_eq hnp] at V'
    exact V'
  · rw [if_neg (fun h => c ((V.oeq (V.le hp).2 hn).mp h))]
    rw [if_neg c] at q
    refine ⟨V.kn hn, V.kn hp, hd, C_setRight V hp (V.le hn).2 rfl (fun g1 V1 => ⟨V1.kn hn, hd, C_setLeft V1 hn (Or.inr ⟨p, hp, rfl⟩) (oa_s p5).symm (fun g2 V2 => ⟨V2.kn hn, ?_⟩)⟩)⟩
    rw [hsp] at V2
    have V3 := V2.wnP (k := 6) hn (by decide) (V.pa hp).2
    refine lift_end V3 hn hp (V.pa hp).2 (fun g' V' => q g' ?_)
    rw [show nrP 6 = 7 from rfl, endM_eq hnp] at V'
    exact V'
end LIFT
section TURN
variable {g0 : AHp} {t b : Nat} {na : Nat → Nat} {L : List Nat} {lim : Nat × Nat} {d : Nat} {R : RT} {X : XT} {o1 : Option Nat}
theorem CV.col {g : AHp} {K : MT} {p q : Nat} {D : Nat → Prop} (V : CV g0 g t b na D K) (hp : D p) (hq : D q) : CV g0 (sI (sI g (na p) 5 0) (na q) 5 1) t b na D (colM K p q) :=
  (V.wnI (k := 5) hp (by decide) 0).wnI (k := 5) hq (by decide) 1
theorem C_turn {g : AHp} {K : MT} {n p e : Nat} (V : CV g0 g t b na (· ∈ L) K) (hn : n ∈ L) (hp : p ∈ L) (he : e ∈ L) (hd : 1 < d) (Rz : if (K 5 p = nI n ↔ K 5 e = nI p) then RiseOK L (colM K p e) p e else RiseOK L K n p ∧ RiseOK L (colM (riseM K n p) n e) n e) (q : ∀ g', CV g0 g' t b na (· ∈ L) (turnM K n p e) → R none g') : WM lim d j_Tr_turn [vr (some t), vr (some (na n)), vr (some (na p)), vr (some (na e))] g R X := by
  refine B_Tr_turn_0 ?_
  simp only [onR_s, all1, true_and, (V.le hp).1, (V.le he).1]
  have c1 := V.oeq (V.le hp).2 hn
  have c2 := V.oeq (V.le he).2 hp
  unfold turnM at q
  refine ⟨V.kn hp, ?_⟩
  have sameC : ∀ {g : AHp} {K : MT} {n : Nat}, CV g0 g t b na (· ∈ L) K → n ∈ L → RiseOK L (colM K n e) n e → (∀ g', CV g0 g' t b na (· ∈ L) (riseM (colM K n e) n e) → R none g') → (hk g (na n) = 2 ∧ b01 0 ∧ hk (sI g (na n) 5 0) (na e) = 2 ∧ b01 1 ∧ hk (sI (sI g (na n) 5 0) (na e) 5 1) t = 5 ∧ 0 < d ∧ WM lim (d - 1) j_Tr_lift [vr (some t), vr (some (na n))] (sI (sI g (na n) 5 0) (na e) 5 1) (fun _ h => R none h) X) := by
    intro g K n V hn R1 q
    obtain ⟨h1, h2, h3, h4, -⟩ := R1
    have V1 := V.col hn he
    exact ⟨V.kn hn, b01_0, V.kn he, b01_1, V.kt, by omega, C_lift V1 hn he h3 h4 (by omega) q⟩
  by_cases k1 : K 5 p = nI n
  · rw [if_pos (c1.mpr k1)]
    refine ⟨V.kn he, ?_⟩
    by_cases k2 : K 5 e = nI p
    · have hi : (K 5 p = nI n ↔ K 5 e = nI p) := ⟨fun _ => k2, fun _ => k1⟩
      rw [if_pos hi] at Rz q
      rw [if_pos (c2.mpr k2)]
      exact sameC V hp Rz q
    · have hi : ¬ (K 5 p = nI n ↔ K 5 e = nI p) := fun c => k2 (c.mp k1)
      rw [if_neg hi] at Rz q
      rw [if_neg (fun h => k2 (c2.mp h))]
      obtain ⟨⟨h1, h2, h3, h4, -⟩, R2⟩ := Rz
      exact ⟨V.kt, by omega, C_lift V hn hp h3 h4 (by omega) (fun g1 V1 => sameC V1 hn R2 q)⟩
  · rw [if_neg (fun h => k1 (c1.mp h))]
    refine ⟨V.kn he, ?_⟩
    by_cases k2 : K 5 e = nI p
    · have hi : ¬ (K 5 p = nI n ↔ K 5 e = nI p) := fun c => k1 (c.mpr k2)
      rw [if_neg hi] at Rz q
      rw [if_pos (c2.mpr k2)]
      obtain ⟨⟨h1, h2, h3, h4, -⟩, R2⟩ := Rz
      exact ⟨V.kt, by omega, C_lift V hn hp h3 h4 (by omega) (fun g1 V1 => sameC V1 hn R2 q)⟩
    · have hi : (K 5 p = nI n ↔ K 5 e = nI p) := ⟨fun c => (k1 c).elim, fun c => (k2 c).elim⟩
      rw [if_pos hi] at Rz q
      rw [if_neg (fun h => k2 (c2.mp h))]
      exact sameC V hp Rz q
theorem C_blk {g : AHp} {K : MT} (V : CV g0 g t b na (· ∈ L) K) (F : Fin0 K L) (hL : L ≠ []) (hdp : L.Nodup) (hb : ∀ x ∈ L, x < 500) (q : ∀ g', CV g0 g' t b na (· ∈ L) (blk K) → R none g') :
    hk g t = 5 ∧ ifN (hP g t 1) (R none g) (hk g t = 5 ∧ onR (hP g t 1) fun a => hk g a = 2 ∧ b01 0 ∧ R none (sI g a 5 0)) := by
  obtain ⟨r, hr, e⟩ := (fin_blk F hL hdp hb).2
  have hrL : r ∈ L := by
    rcases V.ro.2 with c | ⟨i, hi, c⟩
    · exact (nI_m1 (n := r) (by omega) (e.symm.trans c)).elim
    · rw [nI_inj hr (hb i hi) (e.symm.trans c)]; exact hi
  rw [V.ro.1, e, oa_s hr]
  refine ⟨V.kt, V.kt, V.kn hrL, b01_0, q _ ?_⟩
  have V1 := V.wnI (k := 5) hrL (by decide) 0
  unfold blk
  rw [e, nI_clamp (by omega)]; exact V1
theorem pd_L {K : MT} {i p : Nat} {r : Nat} (hb : ∀ x ∈ L, x < 500) (h : pd (· ∈ L) (K r i)) (hp : p < 500) (e : K r i = nI p) : p ∈ L := by
  rcases h with c | ⟨j, hj, c⟩
  · exact (nI_m1 (n := p) (by omega) (e.symm.trans c)).elim
  · rw [nI_inj hp (hb j hj) (e.symm.trans c)]; exact hj
theorem C_bal (hL : L ≠ []) (hdp : L.Nodup) (hb : ∀ x ∈ L, x < 500) (hd : 2 < d) : ∀ (f : Nat) (g : AHp) (K : MT) (n : Nat) (cx : Zc) (l4 l5 l6 : Option AV), n ∈ L → Zp K n cx L → cx.length < f → f ≤ 40 → CV g0 g t b na (· ∈ L) K → (∀ g', CV g0 g' t b na (· ∈ L) (mendM f K n) → R none g') →
    WP lim d j_Tr_balance 4 [some (vr (some t)), some (vr o1), some (vr (some (na n))), some (vi (nI (40 - f))), l4, l5, l6] [] g R X := by
  intro f
  induction f with
  | zero => intro _ _ _ _ _ _ _ _ _ h; omega
  | succ f ih =>
    intro g K n cx l4 l5 l6 hn Z hf h40 V q
    have hlt : nI (40 - (f + 1)) < (40 : Int32) := by rw [show (40 : Int32) = nI 40 from rfl]; exact nI_lt (by omega) (by omega)
    refine B_Tr_balance_4 ?_
    rw [if_pos hlt, show nI (40 - (f + 1)) + 1 = nI (40 - f) by rw [nI_1]; congr 1; omega, onR_s, (V.pa hn).1]
    rcases mend_cases Z hdp hb with ⟨h, F⟩ | ⟨p, hp, h, h8, F⟩ | ⟨p, e, u, cx', hp, he, hu, h, h8, h7, hun, hu8, hc, Z'⟩ | ⟨p, e, hp, he, h, h8, h7, hun, Rz, F⟩
    · rw [mendM_A h] at q
      simp only [h, oa_n, ifN_n, true_and]
      exact ⟨V.kn hn, C_blk V F hL hdp hb q⟩
    · rw [mendM_B hp h h8] at q
      have pL := pd_L hb (V.pa hn).2 hp h
      simp only [h, oa_s hp, onR_s, ifN_s, true_and, (V.pa pL).1, (V.re pL), h8, if_true]
      refine ⟨V.kn hn, V.kn pL, ?_⟩
      rcases V.nul (V.pa pL).2 with ⟨-, eo⟩ | ⟨i, hi, -, eo, -⟩
      · rw [eo, ifN_n]; exact C_blk V F hL hdp hb q
      · rw [eo, ifN_s]; exact ⟨V.kn pL, C_blk V F hL hdp hb q⟩
    · rw [mendM_C hp he hu h h8 h7 hun hu8] at q
      have pL := pd_L hb (V.pa hn).2 hp h
      have eL := pd_L hb (V.pa pL).2 he h7
      have c2 := V.oeq (V.le eL).2 pL
      simp only [h, oa_s hp, onR_s, ifN_s, true_and, (V.pa pL).1, (V.re pL), h7, oa_s he, if_neg h8, (V.le eL).1, (V.ri eL).1]
      refine ⟨V.kn hn, V.kn pL, V.kn pL, V.kn eL, ?_⟩
      unfold uncM at hun
      by_cases k2 : K 5 e = nI p
      · rw [if_pos k2] at hun
        have uL := pd_L hb (V.ri eL).2 hu hun
        rw [if_pos (c2.mpr k2)]
        simp only [hun, oa_s hu, onR_s, ifN_s, V.re uL, if_neg hu8]
        exact ⟨V.kn eL, V.kn uL, V.kn pL, b01_0, V.kn uL, b01_0, V.kn eL, b01_1, ih _ _ e cx' _ _ _ eL Z' (by omega) (by omega) (((V.wnI (k := 5) pL (by decide) 0).wnI (k := 5) uL (by decide) 0).wnI (k := 5) eL (by decide) 1) q⟩
      · rw [if_neg k2] at hun
        have uL := pd_L hb (V.le eL).2 hu hun
        rw [if_neg (fun h => k2 (c2.mp h))]
        simp only [hun, oa_s hu, onR_s, ifN_s, V.re uL, if_neg hu8]
        exact ⟨V.kn eL, V.kn uL, V.kn pL, b01_0, V.kn uL, b01_0, V.kn eL, b01_1, ih _ _ e cx' _ _ _ eL Z' (by omega) (by omega) (((V.wnI (k := 5) pL (by decide) 0).wnI (k := 5) uL (by decide) 0).wnI (k := 5) eL (by decide) 1) q⟩
    · rw [mendM_D hp he h h8 h7 hun] at q
      have pL := pd_L hb (V.pa hn).2 hp h
      have eL := pd_L hb (V.pa pL).2 he h7
      have c2 := V.oeq (V.le eL).2 pL
      simp only [h, oa_s hp, onR_s, ifN_s, true_and, (V.pa pL).1, (V.re pL), h7, oa_s he, if_neg h8, (V.le eL).1, (V.ri eL).1, all1]
      refine ⟨V.kn hn, V.kn pL, V.kn pL, V.kn eL, ?_⟩
      have tail : hk g t = 5 ∧ 0 < d ∧ WM lim (d - 1) j_Tr_turn [vr (some t), vr (some (na n)), vr (some (na p)), vr (some (na e))] g (fun _ h21 => hk h21 t = 5 ∧ ifN (hP h21 t 1) (R none h21) (hk h21 t = 5 ∧ onR (hP h21 t 1) fun a22 => hk h21 a22 = 2 ∧ b01 (0 : Int32) ∧ R none (sI h21 a22 5 (0 : Int32)))) X :=
        ⟨V.kt, by omega, C_turn V hn pL eL (by omega) Rz (fun g1 V1 => C_blk V1 F hL hdp hb q)⟩
      unfold uncM at hun
      by_cases k2 : K 5 e = nI p
      · rw [if_pos k2] at hun
        rw [if_pos (c2.mpr k2)]
        refine ⟨V.kn eL, ?_⟩
        rcases hun with c | ⟨u, hu, c, hu8⟩
        · rw [c, oa_n, ifN_n]; exact tail
        · have uL := pd_L hb (V.ri eL).2 hu c
          simp only [c, oa_s hu, onR_s, ifN_s, V.re uL, hu8, if_true]
          exact ⟨V.kn uL, tail⟩
      · rw [if_neg k2] at hun
        rw [if_neg (fun h => k2 (c2.mp h))]
        refine ⟨V.kn eL, ?_⟩
        rcases hun with c | ⟨u, hu, c, hu8⟩
        · rw [c, oa_n, ifN_n]; exact tail
        · have uL := pd_L hb (V.le eL).2 hu c
          simp only [c, oa_s hu, onR_s, ifN_s, V.re uL, hu8, if_true]
          exact ⟨V.kn uL, tail⟩
theorem C_balance {g : AHp} {K : MT} {n : Nat} {cx : Zc} (hL : L ≠ []) (hdp : L.Nodup) (hb : ∀ x ∈ L, x < 500) (hd : 2 < d) (hn : n ∈ L) (Z : Zp K n cx L) (hc : cx.length < 40) (V : CV g0 g t b na (· ∈ L) K) (q : ∀ g', CV g0 g' t b na (· ∈ L) (mendM 40 K n) → R none g') : WM lim d j_Tr_balance [vr (some t), vr (some (na n))] g R X :=
  B_Tr_balance_0 (C_bal hL hdp hb hd 40 g K n cx none none none hn Z hc (Nat.le_refl _) V q)
end TURN
