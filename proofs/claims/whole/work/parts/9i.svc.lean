/-! ===== save and load of the class ===== -/
section SVC
variable {h g H H' : AHp} {c t b Cs : Nat} {na cu : Nat → Nat} {K : MT} {T : Tr} {N nf : Nat} {W : Int} {A : Nat → Prop} {lim : Nat × Nat} {d : Nat} {R : RT} {X : XT}
theorem RTr.keep (O : RTr H t b na K T N W) (k : Keep H H' A) (hA : ∀ a, A a → ¬ ownB t b na (fun i => i ∈ ino T) a) : RTr H' t b na K T N W := by
  have cb := (k.2 b O.1.1.2.2.2.2.2).2.2 (fun z => hA b z (Or.inl rfl))
  refine ⟨O.1.keep k (fun a z y => hA a z (Or.inr y)), O.2.1, O.2.2.1, fun i hi => ?_, O.2.2.2.2⟩
  rw [cb.2.1]; exact O.2.2.2.1 i hi
theorem RTr.old (O : RTr H t b na K T N W) {a : Nat} (ha : ownB t b na (fun i => i ∈ ino T) a) : a < hsz H ∧ (hk H a = 12 ∨ hk H a = 5 ∨ hk H a = 2) := by
  rcases ha with rfl | rfl | ⟨i, hi, rfl⟩
  · exact ⟨O.1.1.2.2.2.2.2, Or.inl O.1.1.2.2.2.1⟩
  · exact ⟨O.1.1.2.1, Or.inr (Or.inl O.1.1.1)⟩
  · exact ⟨(O.1.2.1 i hi).2.1, Or.inr (Or.inr (O.1.2.1 i hi).2.2.1)⟩
/-- a copy's cells are new -/
def NewT (h : AHp) (t b : Nat) (na : Nat → Nat) (T : Tr) : Prop := ∀ a, ownB t b na (fun i => i ∈ ino T) a → hsz h ≤ a
theorem C_save (O : RO h c t b na K T N W) (hcz : c < hsz h) (hd : 21 < d) (hz : hsz h + 110 ≤ lim.1) (hu : hsu h + 1750 ≤ lim.2) (q : ∀ g t' b' na' K2, RTr g t' b' na' K2 T N W → (∀ r i, r < 36 → K2 r i = K r i) → Keep h g (fun a => a = c) → NewT h t' b' na' T → hsz g ≤ hsz h + 102 → hsu g ≤ hsu h + 1710 → hI g c = hI h c → (∀ k, hP g c k = if k = 7 then some t' else hP h c k) → R (some (vi (nI (live K T).length))) g) : WM lim d j_It_save [vr (some c)] h R X := by
  refine B_It_save_0 ⟨O.1.1, ?_⟩
  rw [O.1.2, onR_s]
  refine ⟨all1.mpr O.2.1.kt, by omega, C_copy O.rt (by omega) hz hu (fun g t' b' na' K2 O2 hK kp ht hb hn h1 h2 => onO_v ?_)⟩
  have kc := kp.2 c hcz
  have cc := kc.2.2 (fun z => z)
  have kt := kp.2 t O.2.1.1.2.1
  have ct := kt.2.2 (fun z => z)
  have k6 : hk g c = 6 := kc.1.trans O.1.1
  have nt : t ≠ c := fun z => by have := O.2.1.kt; rw [z, O.1.1] at this; cases this
  have p6 : hP (sP g c 7 (some t')) c 6 = some t := by rw [hP_sP, hPq_ne (by omega), cc.2.1, O.1.2]
  rw [p6, onR_s]
  have i6 : hI (sP g c 7 (some t')) t 6 = nI (live K T).length := by rw [hI_sP, ct.1, O.2.1.liv]; exact O.2.2.2.2.2
  rw [i6]
  refine ⟨k6, k6, kt.1.trans O.2.1.kt, rfl, ?_⟩
  have nu : NewT h t' b' na' T := fun a ha => by
    rcases ha with rfl | rfl | ⟨i, hi, rfl⟩
    · exact hb
    · exact ht
    · exact hn i hi
  have kp2 : Keep g (sP g c 7 (some t')) (fun a => a = c) := sP_fr.keep
  refine q _ t' b' na' K2 (O2.keep kp2 (fun a ha hb => by have := nu a hb; omega)) hK ((kp.mono (fun a z => z.elim)).trans kp2) nu h1 h2 ?_ (fun k => ?_)
  · rw [hI_sP, cc.1]
  · rw [hP_sP]
    by_cases e : k = 7
    · rw [if_pos e, e, hPq_at]
    · rw [if_neg e, hPq_ne (by omega), cc.2.1]
theorem C_ld39 {G : AHp} {v : Int32} {t2 : Nat} (h6 : hk G c = 6) (hCs : hk G Cs = 10 ∧ hLen G Cs = 4) (hcu : ∀ k, k < 4 → hP G Cs k = some (cu k) ∧ hk G (cu k) = 0) (ht : hP G c 6 = some t2) (kt : hk G t2 = 5) (hv : hI G t2 6 = v) (q : ∀ g, Fr G g (fun a => ∃ j, j < 4 ∧ a = cu j) → hP g = hP G → (∀ j, j < 4 → hI g (cu j) 0 = 0) → R (some (vi v)) g) :
    ∀ (n k : Nat) (o : Option AV) (Y : AHp), k + n = 4 → Fr G Y (fun a => ∃ j, j < 4 ∧ a = cu j) → hP Y = hP G → (∀ j, j < k → hI Y (cu j) 0 = 0) → WP lim d j_It_load 39 [some (vr (some c)), some (vr (some Cs)), some (vi (nI 4)), some (vi (nI k)), o] [] Y R X := by
  intro n
  induction n with
  | zero =>
    intro k o Y hk4 fr hp h0
    have e : k = 4 := by omega
    refine B_It_load_39 ?_
    rw [e, if_neg (nI_nlt (Nat.le_refl _) (by decide)), hp, ht, onR_s]
    have ne : ¬ ∃ j, j < 4 ∧ t2 = cu j := fun ⟨j, hj, z⟩ => by have := (hcu j hj).2; rw [← z, kt] at this; cases this
    rw [(fr.2.2.2.2 t2 ne).1, hv]
    exact ⟨by rw [fr.2.2.1]; exact h6, by rw [fr.2.2.1]; exact kt, rfl, q Y fr hp (fun j hj => h0 j (by omega))⟩
  | succ n ih =>
    intro k o Y hk4 fr hp h0
    refine B_It_load_39 ?_
    rw [if_pos (nI_lt (by omega) (by omega)), onR_s, nI_clamp (by omega), hp, (hcu k (by omega)).1, ifN_s, onR_s, nI_1]
    refine ⟨by rw [fr.2.2.1]; exact hCs.1, by rw [fr.2.2.2.1, hCs.2]; exact ix_nI (by omega) (by decide), by rw [fr.2.2.1]; exact (hcu k (by omega)).2, Or.inl rfl, ih (k + 1) _ _ (by omega) (fr.trans (sI_fr.mono (fun a z => ⟨k, by omega, z⟩))) (by rw [hP_sI]; exact hp) (fun j hj => ?_)⟩
    by_cases e : cu j = cu k
    · rw [e, hI_at]
    · rw [hI_ne (fun z => e z.1)]
      have : j ≠ k := fun z => e (by rw [z])
      exact h0 j (by omega)
theorem C_load {T' : Tr} {t' b' N' : Nat} {na' : Nat → Nat} {K' : MT} {W' : Int} (O : RO h c t b na K T N W) (hcz : c < hsz h) (U : CU h c Cs cu K N nf) (hd : 21 < d) (hz : hsz h + 110 ≤ lim.1) (hu : hsu h + 1750 ≤ lim.2) (hs : hP h c 7 = some t') (O' : RTr h t' b' na' K' T' N' W') (q : ∀ g t2 b2 na2 K2, RTr g t2 b2 na2 K2 T' N' W' → (∀ r i, r < 36 → K2 r i = K' r i) → Keep h g (fun a => a = c ∨ ∃ j, j < 4 ∧ a = cu j) → NewT h t2 b2 na2 T' → hsz g ≤ hsz h + 102 → hsu g ≤ hsu h + 1710 → hI g c = hI h c → (∀ k, hP g c k = if k = 6 then some t2 else hP h c k) → (∀ j, j < 4 → hI g (cu j) 0 = 0) → R (some (vi (nI (live K' T').length))) g) : WM lim d j_It_load [vr (some c)] h R X := by
  refine B_It_load_0 ⟨O.1.1, ?_⟩
  rw [hs, ifN_s, onR_s]
  refine ⟨O.1.1, all1.mpr O'.1.kt, by omega, C_copy O' (by omega) hz hu (fun g t2 b2 na2 K2 O2 hK kp ht hb hn h1 h2 => onO_v ?_)⟩
  have kc := kp.2 c hcz
  have cc := kc.2.2 (fun z => z)
  have k6 : hk g c = 6 := kc.1.trans O.1.1
  have p3 : hP (sP g c 6 (some t2)) c 3 = some Cs := by rw [hP_sP, hPq_ne (by omega), cc.2.1]; exact U.1.1
  rw [p3, onR_s]
  have kC := kp.2 Cs U.1.2.1
  have kC1 : hk (sP g c 6 (some t2)) Cs = 10 := kC.1.trans U.1.2.2.1
  have lC1 : hLen (sP g c 6 (some t2)) Cs = 4 := kC.2.1.trans U.1.2.2.2
  refine ⟨k6, k6, by rw [kC1]; decide, ?_⟩
  rw [lC1, ← nI_0]
  have nCs : Cs ≠ c := fun z => by have := U.1.2.2.1; rw [z, O.1.1] at this; cases this
  have nu : NewT h t2 b2 na2 T' := fun a ha => by
    rcases ha with rfl | rfl | ⟨i, hi, rfl⟩
    · exact hb
    · exact ht
    · exact hn i hi
  have kt2 : hk g t2 = 5 := O2.1.kt
  have nt2 : t2 ≠ c := by omega
  refine C_ld39 (G := sP g c 6 (some t2)) (t2 := t2) (cu := cu) (v := nI (live K' T').length) k6 ⟨kC1, lC1⟩ (fun k hk4 => ⟨?_, ?_⟩) (by rw [hP_sP, hPq_at]) kt2 ?_ (fun g' fr hp h0 => ?_) 4 0 none _ (by decide) Fr.refl rfl (fun j hj => by omega)
  · rw [hP_sP, hPq_ne (by omega), (kC.2.2 (fun z => z)).2.1]; exact (U.2.1 k hk4).1
  · exact (kp.2 _ (U.2.1 k hk4).2.1).1.trans (U.2.1 k hk4).2.2.1
  · rw [hI_sP, O2.1.liv, O2.2.2.2.2, live_E (fun k => hK 4 k (by decide))]
  · have kp2 : Keep g (sP g c 6 (some t2)) (fun a => a = c) := sP_fr.keep
    have kp3 : Keep h (sP g c 6 (some t2)) (fun a => a = c) := (kp.mono (fun a z => z.elim)).trans kp2
    have kp4 : Keep h g' (fun a => a = c ∨ ∃ j, j < 4 ∧ a = cu j) := (kp3.mono (fun a z => Or.inl z)).trans (fr.keep.mono (fun a z => Or.inr z))
    have kp5 : Keep g g' (fun a => a = c ∨ ∃ j, j < 4 ∧ a = cu j) := (kp2.mono (fun a z => Or.inl z)).trans (fr.keep.mono (fun a z => Or.inr z))
    have ncu : ∀ j, j < 4 → c ≠ cu j := fun j hj z => by have := (U.2.1 j hj).2.2.1; rw [← z, O.1.1] at this; cases this
    refine q g' t2 b2 na2 K2 (O2.keep kp5 (fun a ha hb => ?_)) hK kp4 nu (by rw [fr.1]; exact h1) (by rw [fr.2.1]; exact h2) ?_ (fun k => ?_) h0
    · have z := nu a hb
      rcases ha with rfl | ⟨j, hj, rfl⟩
      · omega
      · have := (U.2.1 j hj).2.1; omega
    · rw [(fr.2.2.2.2 c (fun ⟨j, hj, z⟩ => ncu j hj z)).1, hI_sP, cc.1]
    · rw [hp, hP_sP]
      by_cases e : k = 6
      · rw [if_pos e, e, hPq_at]
      · rw [if_neg e, hPq_ne (by omega), cc.2.1]
theorem C_loadX (hc : hk h c = 6) (hs : hP h c 7 = none) (q : thr lim X 2 h) : WM lim d j_It_load [vr (some c)] h R X := by
  refine B_It_load_0 ⟨hc, ?_⟩
  rw [hs, ifN_n]
  exact ⟨rfl, q⟩
end SVC
