/-! ===== the class's changes, the rest ===== -/
theorem Enc_ptr {M : MT} : ∀ {t : Tr} {up : Int32}, Enc M up t → ∀ i ∈ ino t, pd (fun j => j ∈ ino t) (M 5 i) ∧ pd (fun j => j ∈ ino t) (M 6 i) ∧ (M 7 i = up ∨ pd (fun j => j ∈ ino t) (M 7 i)) := by
  intro t
  induction t with
  | leaf _ => intro _ _ i hi; cases hi
  | branch n l r hl hr =>
    intro up ⟨a1, a2, a3, a4, a5⟩ i hi
    have ml : ∀ x, pd (fun j => j ∈ ino l) x → pd (fun j => j ∈ ino (.branch n l r)) x := fun x h => h.imp (fun y => y) (fun ⟨j, a, b⟩ => ⟨j, List.mem_append_left _ a, b⟩)
    have mr : ∀ x, pd (fun j => j ∈ ino r) x → pd (fun j => j ∈ ino (.branch n l r)) x := fun x h => h.imp (fun y => y) (fun ⟨j, a, b⟩ => ⟨j, List.mem_append_right _ (List.mem_cons_of_mem _ a), b⟩)
    have mn : pd (fun j => j ∈ ino (.branch n l r)) (nI n) := Or.inr ⟨n, List.mem_append_right _ List.mem_cons_self, rfl⟩
    rcases List.mem_append.mp hi with hi | hi
    · have := hl a4 i hi
      exact ⟨ml _ this.1, ml _ this.2.1, Or.inr (this.2.2.elim (fun e => by rw [e]; exact mn) (fun e => ml _ e))⟩
    · rcases List.mem_cons.mp hi with rfl | hi
      · exact ⟨by rw [a2]; exact ml _ (root_pd (fun x h => h)), by rw [a3]; exact mr _ (root_pd (fun x h => h)), Or.inl a1⟩
      · have := hr a5 i hi
        exact ⟨mr _ this.1, mr _ this.2.1, Or.inr (this.2.2.elim (fun e => by rw [e]; exact mn) (fun e => mr _ e))⟩
section CHGD
variable {g : AHp} {c t b : Nat} {na : Nat → Nat} {K : MT} {T : Tr} {N : Nat} {W : Int} {lim : Nat × Nat} {d : Nat} {R : RT} {X : XT} {x y w : Int32}
def ownB (t b : Nat) (na : Nat → Nat) (D : Nat → Prop) (a : Nat) : Prop := a = b ∨ own t na D a
theorem RO.renew {K2 K2' M' Kc : MT} {gB g' : AHp} (O : RO g c t b na K T N W) (V' : CV gB g' t b na (fun i => i ∈ ino T) Kc) (I2 : TI K2 T N W) (NP : NulP g gB b ((ino T).filter fun z => decide (¬ K2 4 z = 0))) (RP : RenP K2 Kc (live K2 T)) (P : RebP K2' M' N (live K2 T)) (hK : ∀ r i, 1 ≤ r → r ≤ 4 → K2' r i = K2 r i) (hK0 : ∀ i, (i = 10 ∨ i = 13 ∨ i = 14 ∨ i = 15) → K2' 0 i = K2 0 i) (I' : TI M' (bt 7 (live K2 T)) N W) :
    RO g' c t b na (mixM M' Kc) (bt 7 (live K2 T)) N W ∧ Fr g g' (ownB t b na (fun i => i ∈ ino T)) := by
  have hlen : (live K2 T).length ≤ 100 := by have := I2.len; have := I2.2.2.2.2.2.2.2.2.2.1; omega
  have ib : ino (bt 7 (live K2 T)) = live K2 T := ino_bt 7 _ (by omega)
  obtain ⟨r1, r2, r3, r4, r5, r6, r7, r8, r9, r10⟩ := RP
  obtain ⟨p1, p2, p3, p4, p5, p6, p7, p8, p9⟩ := P
  have hlT : ∀ z ∈ live K2 T, z ∈ ino T := fun z hz => (lvT hz).1
  have hl4 : ∀ z ∈ live K2 T, M' 4 z = 0 := fun z hz => by
    rw [p1, hK 4 z (by decide) (by decide), (lvT hz).2]; rw [if_neg (fun c => absurd c.2 (by decide))]
  have po : ∀ r i, (r = 1 ∨ r = 2 ∨ r = 3) → M' r i = K2 r i := fun r i h => by
    rw [p8 r i (by omega) (by omega) (by omega) (by omega) (by omega) (by omega) (by omega) (by omega) (by omega), hK r i (by omega) (by omega)]
  have F := V'.2.2.2.2.2
  have fr : Fr g g' (ownB t b na (fun i => i ∈ ino T)) := by
    refine ⟨F.1.trans NP.1, F.2.1.trans NP.2.1, F.2.2.1.trans NP.2.2.1, F.2.2.2.1.trans NP.2.2.2.1, fun a ha => ?_⟩
    have h1 := F.2.2.2.2 a (fun c => ha (Or.inr c))
    have hab : a ≠ b := fun c => ha (Or.inl c)
    rw [h1.1, h1.2.1, h1.2.2, NP.2.2.2.2.1, NP.2.2.2.2.2.1, NP.2.2.2.2.2.2.1 a hab]; exact ⟨rfl, rfl, rfl⟩
  refine ⟨?_, fr⟩
  have hcb : c ≠ b := fun e => by have h1 := O.1.1; rw [e, O.2.1.1.2.2.2.1] at h1; cases h1
  have hc := fr.2.2.2.2 c (fun h => h.elim hcb O.c_own)
  have Vs : CV g' g' t b na (fun i => i ∈ live K2 T) Kc := by
    refine V'.sub hlT (fun i hi k hk => ?_) (fun k h1 h2 => ?_)
    · have hp := Enc_ptr r1.1 i (by rw [ib]; exact hi)
      rw [ib] at hp
      have h7 : pd (fun j => j ∈ live K2 T) (Kc 7 i) := hp.2.2.elim (fun e => Or.inl (e.trans rfl)) (fun e => e)
      obtain ⟨A, B, e⟩ := List.append_of_mem hi
      have hch := CH.at (e ▸ r3 : CH Kc (A ++ i :: B))
      rcases nrP_v hk with ⟨-, e2⟩ | ⟨-, e2⟩ | ⟨-, e2⟩ | ⟨-, e2⟩ | ⟨-, e2⟩ <;> rw [e2]
      · exact h7
      · exact hp.1
      · exact hp.2.1
      · rw [hch.1]; exact laI_pd (fun z hz => by rw [e]; exact List.mem_append_left _ hz)
      · rw [hch.2]; exact hdI_pd (fun z hz => by rw [e]; exact List.mem_append_right _ (List.mem_cons_of_mem _ hz))
    · have : k = 1 ∨ k = 2 ∨ k = 3 := by omega
      rcases this with rfl | rfl | rfl
      · show pd _ (Kc 0 9)
        rw [show Kc 0 9 = rootOf (bt 7 (live K2 T)) from r1.2]; exact root_pd (by rw [ib]; exact fun z h => h)
      · show pd _ (Kc 43 0)
        rw [r3.1]; exact hdI_pd (fun z h => h)
      · show pd _ (Kc 43 1)
        rw [r3.2.1]; exact laI_pd (fun z h => h)
  have eE := Enc_uniq p2.1 r1.1
  have eC := ColT_uniq p3 r2
  rw [ib] at eE eC
  have Vm : CV g' g' t b na (fun i => i ∈ live K2 T) (mixM M' Kc) := by
    refine Vs.congr (fun r i hi hr => ?_) (fun i hi => ?_) (fun i _ => mixM_hi (by omega))
    · by_cases c36 : r < 36
      · rw [mixM_lo c36]
        have : r = 1 ∨ r = 2 ∨ r = 3 ∨ r = 4 ∨ r = 5 ∨ r = 6 ∨ r = 7 ∨ r = 8 := by omega
        rcases this with rfl | rfl | rfl | rfl | rfl | rfl | rfl | rfl
        · rw [po 1 i (by omega), r4 1 i (by omega)]
        · rw [po 2 i (by omega), r4 2 i (by omega)]
        · rw [po 3 i (by omega), r4 3 i (by omega)]
        · rw [hl4 i hi, r4 4 i (by omega), (lvT hi).2]
        · exact (eE i hi).1
        · exact (eE i hi).2.1
        · exact (eE i hi).2.2
        · exact eC i hi
      · exact mixM_hi c36
    · rw [mixM_lo (by omega)]
      rcases hi with rfl | rfl | rfl | rfl | rfl | rfl
      · exact (show M' 0 9 = _ from p2.2).trans (show Kc 0 9 = _ from r1.2).symm
      · rw [I'.1, r5, I2.1]
      · rw [p4, r7]
      · rw [p8 0 13 (by omega) (by omega) (by omega) (by omega) (by omega) (by omega) (by omega) (by omega) (by omega), hK0 13 (by omega), r6]
      · rw [p6, hK0 14 (by omega), r8]
      · rw [p7, hK0 15 (by omega), r9]
  have hlive : live (mixM M' Kc) (bt 7 (live K2 T)) = live K2 T := by
    show (ino (bt 7 (live K2 T))).filter (fun x => decide (mixM M' Kc 4 x = 0)) = live K2 T
    rw [ib]; exact List.filter_eq_self.mpr (fun z hz => by rw [mixM_lo (by decide), hl4 z hz]; decide)
  refine ⟨⟨by rw [fr.2.2.1]; exact O.1.1, by rw [hc.2.1]; exact O.1.2⟩, ?_, TI_congr (fun r i h1 h2 => mixM_lo (by omega)) (fun i h1 h2 => mixM_lo (by omega)) I', ?_, fun i hi => ?_, ?_⟩
  · rw [ib]; exact Vm
  · rw [ib]; exact r3.congr (fun i _ => ⟨mixM_hi (by omega), mixM_hi (by omega)⟩) (mixM_hi (by omega)) (mixM_hi (by omega))
  · have hb := F.2.2.2.2 b O.b_own
    rw [ib, hb.2.1, NP.2.2.2.2.2.2.2 i]
    constructor
    · intro hl
      rw [if_neg (fun h => (of_decide_eq_true (List.mem_filter.mp h).2) (lvT hl).2)]
      exact (O.2.2.2.2.1 i hi).1 (hlT i hl)
    · intro hl
      by_cases hT : i ∈ ino T
      · have hne : ¬ K2 4 i = 0 := fun e => hl (List.mem_filter.mpr ⟨hT, decide_eq_true e⟩)
        rw [if_pos (List.mem_filter.mpr ⟨hT, decide_eq_true hne⟩)]
      · by_cases hz : i ∈ (ino T).filter fun z => decide (¬ K2 4 z = 0)
        · rw [if_pos hz]
        · rw [if_neg hz]; exact (O.2.2.2.2.1 i hi).2 hT
  · rw [hlive, mixM_hi (by omega), r10]
theorem C_rebuild (O : RO g c t b na K T N W) (hd : 13 < d) (q : ∀ gB g' Kc, CV gB g' t b na (fun i => i ∈ ino T) Kc → NulP g gB b ((ino T).filter fun z => decide (¬ K 4 z = 0)) → RenP K Kc (live K T) → R (some (vi (nI (gone K T).length))) g') : WM lim d j_It_rebuild [vr (some c)] g R X := by
  refine B_It_rebuild_0 ⟨O.1.1, ?_⟩
  rw [O.1.2, onR_s]
  exact ⟨all1.mpr O.2.1.kt, by omega, C_renew O.2.1 O.2.2.1 O.2.2.2.1 O.2.2.2.2.2 (by omega) (fun gB g' Kc a1 a2 a3 => onI_v ⟨rfl, q gB g' Kc a1 a2 a3⟩)⟩
/-- the memory after a mark, with the class's own count -/
def mkM (K : MT) (T : Tr) (i : Nat) : MT := up2 (rmM K i) 43 2 (nI (live (rmM K i) T).length)
theorem mk_rows {i r j : Nat} (h : ¬ (r = 43 ∧ j = 2)) : mkM K T i r j = rmM K i r j := up2_ne h
theorem mk_live {i : Nat} : live (mkM K T i) T = live (rmM K i) T := filt_congr (fun z _ => mk_rows (by omega))
theorem C_mark {g00 g : AHp} (V : CV g00 g t b na (fun i => i ∈ ino T) K) (I : TI K T N W) (C : CH K (ino T)) (hl : K 43 2 = nI (live K T).length) (hd : 13 < d) {i : Nat} (hi : i ∈ live K T)
    (q1 : ¬ due (rmM K i) → ∀ g', CV g00 g' t b na (fun i => i ∈ ino T) (mkM K T i) → R none g')
    (q2 : due (rmM K i) → ∀ gB g' Kc, CV gB g' t b na (fun i => i ∈ ino T) Kc → NulP g00 gB b ((ino T).filter fun z => decide (¬ mkM K T i 4 z = 0)) → RenP (mkM K T i) Kc (live (rmM K i) T) → R none g') : WM lim d j_Tr_markRemoved [vr (some t), vr (some (na i))] g R X := by
  have hiT := (lvT hi).1
  have I1 := TI_rm I hi
  have hl1 := I.len
  have hl2 := I1.len
  have hg : rmM K i 0 12 = K 0 12 + 1 := by unfold rmM; rw [up2_at]
  have hgn : nI (gone (rmM K i) T).length = nI (gone K T).length + 1 := by rw [← I1.2.2.2.2.2.2.2.2.2.2.1, hg, I.2.2.2.2.2.2.2.2.2.2.1]
  have hgl : (gone (rmM K i) T).length = (gone K T).length + 1 := by
    rw [nI_1] at hgn
    have h10 := I.2.2.2.2.2.2.2.2.2.1
    exact nI_inj (by omega) (by omega) hgn
  have V1 : CV g00 (sI g (na i) 4 1) t b na (fun i => i ∈ ino T) (up2 K 4 i 1) := V.wnI (k := 4) hiT (by decide) 1
  have V2 : CV g00 (sI (sI g (na i) 4 1) t 6 (hI (sI g (na i) 4 1) t 6 - 1)) t b na (fun i => i ∈ ino T) (up2 (up2 K 4 i 1) 43 2 (hI (sI g (na i) 4 1) t 6 - 1)) := V1.wtI (k := 6) (by decide) (by decide) _
  have e6 : hI (sI g (na i) 4 1) t 6 - 1 = nI (live (rmM K i) T).length := by
    rw [V1.liv, up2_ne (by omega), hl, show (1 : Int32) = nI 1 from rfl, nI_sub (by omega)]; congr 1; omega
  rw [e6] at V2
  have V3 : CV g00 (sI (sI g (na i) 4 1) t 6 (nI (live (rmM K i) T).length)) t b na (fun i => i ∈ ino T) (mkM K T i) := by
    unfold mkM
    generalize nI (live (rmM K i) T).length = v at V2 ⊢
    have h1 : ∀ r j, ¬ (r = 43 ∧ j = 2) → ¬ (r = 0 ∧ j = 12) → up2 (rmM K i) 43 2 v r j = up2 (up2 K 4 i 1) 43 2 v r j := fun r j a b => by
      have e1 : up2 (rmM K i) 43 2 v r j = rmM K i r j := up2_ne a
      have e2 : up2 (up2 K 4 i 1) 43 2 v r j = up2 K 4 i 1 r j := up2_ne a
      rw [e1, e2]; exact up2_ne b
    refine V2.congr (fun r j _ hr => h1 r j (by omega) (by omega)) (fun j hj' => h1 0 j (by omega) (by omega)) (fun j hj' => ?_)
    by_cases e : j = 2
    · subst e; rw [up2_at, up2_at]
    · exact h1 43 j (by omega) (by omega)
  have I3 : TI (mkM K T i) T N W := TI_congr (fun r j a b => mk_rows (by omega)) (fun j a b => mk_rows (by omega)) I1
  have hro : ∀ r j, r ≠ 4 → ¬ (r = 0 ∧ j = 12) → ¬ (r = 43 ∧ j = 2) → mkM K T i r j = K r j := fun r j a b c => by rw [mk_rows c]; unfold rmM; rw [up2_ne b, up2_ne (by omega)]
  have C3 : CH (mkM K T i) (ino T) := C.congr (fun j _ => ⟨hro 40 j (by omega) (by omega) (by omega), hro 41 j (by omega) (by omega) (by omega)⟩) (hro 43 0 (by omega) (by omega) (by omega)) (hro 43 1 (by omega) (by omega) (by omega))
  have hl3 : mkM K T i 43 2 = nI (live (mkM K T i) T).length := by rw [mk_live]; exact up2_at
  refine B_Tr_markRemoved_0 ?_
  rw [onR_s, e6]
  refine ⟨V.kn hiT, b01_1, V1.kt, V1.kt, ?_⟩
  have kt := V3.kt
  have c1 : hI (sI (sI g (na i) 4 1) t 6 (nI (live (rmM K i) T).length)) t 7 * hI (sI (sI g (na i) 4 1) t 6 (nI (live (rmM K i) T).length)) t 5 = rmM K i 0 13 * rmM K i 0 11 := by rw [V3.per, V3.nod, mk_rows (by omega), mk_rows (by omega)]
  have c2 : (100 : Int32) * (hI (sI (sI g (na i) 4 1) t 6 (nI (live (rmM K i) T).length)) t 5 - hI (sI (sI g (na i) 4 1) t 6 (nI (live (rmM K i) T).length)) t 6) = 100 * rmM K i 0 12 := by
    rw [V3.nod, V3.liv, mk_rows (by omega), I1.2.2.2.2.2.2.2.2.1, hl3, mk_live, nI_sub (by omega), I1.2.2.2.2.2.2.2.2.2.2.1]; congr 2; omega
  generalize hgg : sI (sI g (na i) 4 1) t 6 (nI (live (rmM K i) T).length) = g3 at V3 kt c1 c2 ⊢
  refine ⟨kt, kt, kt, kt, ?_⟩
  rw [c1, c2]
  split
  · rename_i hdu
    refine ⟨all1.mpr kt, by omega, C_renew V3 I3 C3 hl3 (by omega) (fun gB g' Kc a1 a2 a3 => onI_v ⟨rfl, q2 hdu gB g' Kc a1 a2 (by rw [mk_live] at a3; exact a3)⟩)⟩
  · rename_i hdu
    exact ⟨rfl, q1 hdu g3 V3⟩
end CHGD
