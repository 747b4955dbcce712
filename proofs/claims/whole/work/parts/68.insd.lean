/-! ===== the class's insert ===== -/
def InsF (g g' : AHp) (A : Nat → Prop) : Prop := hsz g' = hsz g + 1 ∧ hsu g' = hsu g + 12 ∧ ∀ a, a < hsz g → hk g' a = hk g a ∧ hLen g' a = hLen g a ∧ (¬ A a → hI g' a = hI g a ∧ hP g' a = hP g a ∧ hJ g' a = hJ g a)
theorem ColT_b {M : MT} {E : Nat} : ∀ {t : Tr} {dep : Nat}, ColT M E dep t → ∀ i ∈ ino t, b01 (M 8 i) := by
  intro t
  induction t with
  | leaf _ => intro _ _ i hi; cases hi
  | branch n l r hl hr =>
    intro dep ⟨a1, a2, a3⟩ i hi
    rcases List.mem_append.mp hi with hi | hi
    · exact hl a2 i hi
    · rcases List.mem_cons.mp hi with rfl | hi
      · rw [a1]; split
        · exact b01_1
        · exact b01_0
      · exact hr a3 i hi
/-- a memory that a rebuild may have left, made of the class's -/
def mkR (K Kc : MT) (N : Nat) (ll : List Nat) : MT := fun r i =>
  if r = 4 then (if i < N ∧ K 4 i = 1 then 2 else K 4 i)
  else if r = 8 then (if i ∈ ll then Kc 8 i else 0)
  else if r = 5 ∨ r = 6 ∨ r = 7 then Kc r i
  else if r = 0 ∧ i = 9 then Kc 0 9
  else if r = 0 ∧ i = 11 then nI ll.length
  else if r = 0 ∧ i = 12 then 0
  else if r = 0 ∧ i = 14 then K 0 14 + 1
  else if r = 0 ∧ i = 15 then K 0 15 + nI ll.length
  else K r i
theorem mkR_P {K Kc : MT} {N : Nat} {ll : List Nat} (hl : ll.length ≤ 100) (RP : RenP K Kc ll) : RebP K (mkR K Kc N ll) N ll := by
  have ib : ino (bt 7 ll) = ll := ino_bt 7 _ (by omega)
  obtain ⟨r1, r2, r3, r4, r5, r6, r7, r8, r9, r10⟩ := RP
  have e567 : ∀ r i, (r = 5 ∨ r = 6 ∨ r = 7) → mkR K Kc N ll r i = Kc r i := fun r i h => by unfold mkR; rw [if_neg (by omega), if_neg (by omega), if_pos h]
  refine ⟨fun i => by unfold mkR; rw [if_pos rfl], ⟨Enc_congr (fun x _ => ⟨(e567 5 x (by omega)).symm, (e567 6 x (by omega)).symm, (e567 7 x (by omega)).symm⟩) r1.1, ?_⟩, ColT_congr (fun x hx => ?_) r2, ?_, ?_, ?_, ?_, fun r i a4 a5 a6 a7 a8 a9 a10 a11 a0 => ?_, fun h i => ?_⟩
  · show mkR K Kc N ll 0 9 = _
    unfold mkR; rw [if_neg (by omega), if_neg (by omega), if_neg (by omega), if_pos ⟨rfl, rfl⟩]; exact r1.2
  · rw [ib] at hx; unfold mkR; rw [if_neg (by omega), if_pos rfl, if_pos hx]
  · unfold mkR; rw [if_neg (by omega), if_neg (by omega), if_neg (by omega), if_neg (by omega), if_pos ⟨rfl, rfl⟩]
  · unfold mkR; rw [if_neg (by omega), if_neg (by omega), if_neg (by omega), if_neg (by omega), if_neg (by omega), if_pos ⟨rfl, rfl⟩]
  · unfold mkR; rw [if_neg (by omega), if_neg (by omega), if_neg (by omega), if_neg (by omega), if_neg (by omega), if_neg (by omega), if_pos ⟨rfl, rfl⟩]
  · unfold mkR; rw [if_neg (by omega), if_neg (by omega), if_neg (by omega), if_neg (by omega), if_neg (by omega), if_neg (by omega), if_neg (by omega), if_pos ⟨rfl, rfl⟩]
  · unfold mkR; rw [if_neg (by omega), if_neg (by omega), if_neg (by omega), if_neg (by omega), if_neg (by omega), if_neg (by omega), if_neg (by omega), if_neg (by omega)]
  · unfold mkR; rw [if_neg (by omega), if_pos rfl]
    split
    · rename_i hi; exact ColT_b r2 i (by rw [ib]; exact hi)
    · exact b01_0
section INSD
variable {g : AHp} {c t b : Nat} {na : Nat → Nat} {K K1 : MT} {T : Tr} {N : Nat} {W : Int} {lim : Nat × Nat} {d : Nat} {R : RT} {X : XT} {l h w : Int32}
def inOK (l h w : Int32) : Prop := -1000 ≤ l.toInt ∧ l.toInt ≤ h.toInt ∧ h.toInt ≤ 1000 ∧ 0 ≤ w.toInt ∧ w.toInt ≤ 999
theorem RO.add {M' K' : MT} {gn g' : AHp} (O : RO g c t b na K1 T N W) (hcz : c < hsz g) (hN5 : N < 500) (h100 : (ino T).length < 100) (hok : inOK l h w) (hW : 999 ≤ W)
    (h1 : ∀ r i, 1 ≤ r → r ≤ 4 → M' r i = K1 r i) (h2 : ∀ r i, 5 ≤ r → r ≤ 8 → i ∈ ino T → M' r i = K1 r i) (h0 : ∀ i, (i = 9 ∨ i = 10 ∨ i = 11 ∨ i = 13 ∨ i = 14 ∨ i = 15) → M' 0 i = K1 0 i) (I' : TI M' T N W)
    (NN : NewN g gn b N) (V' : CV gn g' t b (up1 na N (hsz g)) (· ∈ inL K1 T N l h w) K') (hG : eqG K' (insM K1 T N l h w)) (hl : K' 43 2 = K1 43 2 + 1) (CC : CH K' (inL K1 T N l h w)) :
    (∃ T', RO g' c t b (up1 na N (hsz g)) (mixM (insM M' T N l h w) K') T' (N + 1) W) ∧ InsF g g' (ownB t b na (fun i => i ∈ ino T)) := by
  obtain ⟨a1, a2, a3⟩ := ins_agree (l := l) (h := h) (w := w) O.2.2.1 hN5 h1 h2 h0
  obtain ⟨ok1, ok2, ok3, ok4, ok5⟩ := hok
  obtain ⟨T', I2, hT', -⟩ := TI_ins I' hN5 h100 ok1 ok2 ok3 ok4 ok5 hW
  have hTL : ino T' = inL K1 T N l h w := by rw [hT', a1]; rfl
  have hin : ∀ i, i ∈ inL K1 T N l h w ↔ i = N ∨ i ∈ ino T := fun i => by
    have hL := (ins_zp O.2.2.1 hN5 l h w).2.1
    unfold inL; rw [hL]; simp only [List.mem_append, List.mem_cons]
    exact ⟨fun q => by rcases q with q | q | q <;> simp [q], fun q => by rcases q with q | q | q <;> simp [q]⟩
  have hNT : N ∉ ino T := fun q => absurd (O.2.2.1.lt q).1 (Nat.lt_irrefl _)
  have hnaT : ∀ i ∈ ino T, up1 na N (hsz g) i = na i := fun i hi => up1_off _ (fun q => hNT (q ▸ hi))
  have hb6 : b < hsz g := O.2.1.1.2.2.2.2.2
  have F := V'.2.2.2.2.2
  have hout : ∀ a, a < hsz g → ¬ own t na (fun i => i ∈ ino T) a → ¬ own t (up1 na N (hsz g)) (· ∈ inL K1 T N l h w) a := fun a ha hq hc => by
    rcases hc with hc | ⟨i, hi, hc⟩
    · exact hq (Or.inl hc)
    · rcases (hin i).mp hi with e | hi'
      · subst e; rw [up1_on] at hc; omega
      · rw [hnaT i hi'] at hc; exact hq (Or.inr ⟨i, hi', hc⟩)
  have hcb : c ≠ b := fun e => by have q1 := O.1.1; rw [e, O.2.1.1.2.2.2.1] at q1; cases q1
  have kc := NN.2.2.1 c hcz
  have kb := NN.2.2.1 b hb6
  have fc := F.2.2.2.2 c (hout c hcz O.c_own)
  have fb := F.2.2.2.2 b (hout b hb6 O.b_own)
  refine ⟨⟨T', ⟨by rw [F.2.2.1, kc.1]; exact O.1.1, by rw [fc.2.1, kc.2.2.2.2 hcb]; exact O.1.2⟩, ?_, TI_congr (fun r i q1 q2 => mixM_lo (by omega)) (fun i q1 q2 => mixM_lo (by omega)) I2, ?_, fun i hi => ?_, ?_⟩, F.1.trans NN.1, F.2.1.trans NN.2.1, fun a ha => ?_⟩
  · rw [hTL]
    refine V'.rebase.congr (fun r i hi hr => ?_) (fun i hi => ?_) (fun i _ => mixM_hi (by omega))
    · by_cases c36 : r < 36
      · rw [mixM_lo c36, a2 r i (by omega) (by omega) hi, hG r i c36]
      · exact mixM_hi c36
    · rw [mixM_lo (by omega), a3 i hi, hG 0 i (by omega)]
  · rw [hTL]; exact CC.congr (fun i _ => ⟨mixM_hi (by omega), mixM_hi (by omega)⟩) (mixM_hi (by omega)) (mixM_hi (by omega))
  · rw [hTL, fb.2.1]
    by_cases e : i = N
    · subst e
      exact ⟨fun _ => by rw [NN.2.2.2.2, up1_on], fun q => (q ((hin i).mpr (Or.inl rfl))).elim⟩
    · rw [NN.2.2.2.1 i e]
      constructor
      · intro q
        have hT := ((hin i).mp q).resolve_left e
        rw [hnaT i hT]; exact (O.2.2.2.2.1 i hi).1 hT
      · intro q
        exact (O.2.2.2.2.1 i hi).2 (fun z => q ((hin i).mpr (Or.inr z)))
  · have hs := I2.size
    have hlv : live (mixM (insM M' T N l h w) K') T' = live (insM M' T N l h w) T' := filt_congr (fun z _ => mixM_lo (by decide))
    have e11 : insM M' T N l h w 0 11 = M' 0 11 + 1 := by unfold insM; rw [up2_ne (by omega), up2_at]
    have e12 : insM M' T N l h w 0 12 = M' 0 12 := by rw [insM_o ⟨by omega, by omega, by omega, by omega, by omega⟩ (by omega), in1_ne (by omega)]
    have hs0 := I'.size
    have hlv0 : live M' T = live K1 T := filt_congr (fun z _ => h1 4 z (by decide) (by decide))
    rw [hlv, mixM_hi (by omega), hl, O.2.2.2.2.2, ← hs, e11, e12, ← hlv0, ← hs0]
    rw [Int32.sub_eq_add_neg, Int32.sub_eq_add_neg, i32_assoc, i32_assoc, i32_comm 1]
  · have ka := NN.2.2.1 a ha
    refine ⟨by rw [F.2.2.1, ka.1], by rw [F.2.2.2.1, ka.2.1], fun q => ?_⟩
    have fa := F.2.2.2.2 a (hout a ha (fun z => q (Or.inr z)))
    rw [fa.1, fa.2.1, fa.2.2, ka.2.2.1, ka.2.2.2.1, ka.2.2.2.2 (fun z => q (Or.inl z))]; exact ⟨rfl, rfl, rfl⟩
theorem RO.thn (O : RO g c t b na K T N W) (k : Int32) : RO g c t b na (thn K k) T N W := by
  refine ⟨O.1, O.2.1.congr (fun r i _ hr => thn_ne (by omega)) (fun i hi => thn_f (by omega)) (fun i _ => thn_ne (by omega)), TI_thn O.2.2.1, O.2.2.2.1.congr (fun i _ => ⟨thn_ne (by omega), thn_ne (by omega)⟩) (thn_ne (by omega)) (thn_ne (by omega)), O.2.2.2.2.1, ?_⟩
  rw [thn_ne (by omega), live_thn]; exact O.2.2.2.2.2
set_option maxRecDepth 8000 in
theorem C_insert (O : RO g c t b na K T N W) (hcz : c < hsz g) (hd : 20 < d) (hW : 999 ≤ W) (r1 : hsz g + 1 ≤ lim.1) (r2 : hsu g + 12 ≤ lim.2)
    (q1 : ¬ inOK l h w → thr lim X 1 g)
    (q2 : inOK l h w → ((ino T).length = 100 ∧ (gone K T).length = 0) ∨ N = 500 → thr lim X 2 g)
    (q3 : inOK l h w → (ino T).length = 100 → ¬ (gone K T).length = 0 → N < 500 → ∀ g', InsF g g' (ownB t b na (fun i => i ∈ ino T)) → (∀ M', RebP (thn K 0) M' N (live K T) → TI M' (bt 7 (live K T)) N W → ∃ K' T' na', RO g' c t b na' (mixM (insM M' (bt 7 (live K T)) N l h w) K') T' (N + 1) W) → R (some (vi (nI N))) g')
    (q4 : inOK l h w → (ino T).length < 100 → N < 500 → ∀ g' K' T' na', InsF g g' (ownB t b na (fun i => i ∈ ino T)) → RO g' c t b na' (mixM (insM (thn K 0) T N l h w) K') T' (N + 1) W → R (some (vi (nI N))) g') : WM lim d j_It_insert [vr (some c), vi l, vi h, vi w] g R X := by
  have I := O.2.2.1
  have hlen := I.2.2.2.2.2.2.2.2.2.1
  have hgl := I.len
  have hN := I.2.1
  have m1 : (-1000 : Int32).toInt = -1000 := rfl
  have m2 : (1000 : Int32).toInt = 1000 := rfl
  have m3 : (999 : Int32).toInt = 999 := rfl
  have m0 : (0 : Int32).toInt = 0 := rfl
  have e11 : hI g t 5 = nI (ino T).length := by rw [O.2.1.nod, I.2.2.2.2.2.2.2.2.1]
  have e10 : hI g t 4 = nI N := by rw [O.2.1.ins, I.1]
  have e6 : hI g t 6 = nI (live K T).length := by rw [O.2.1.liv, O.2.2.2.2.2]
  refine B_It_insert_0 ?_
  simp only [O.1.2, onR_s, e11, e10, e6, i_lt, m1, m2, m3, m0, all1, nI_toInt (show (ino T).length < 2 ^ 31 by omega), nI_toInt (show (live K T).length < 2 ^ 31 by omega), nI_toInt (show N < 2 ^ 31 by omega), show (100 : Int32).toInt = 100 from rfl, show (500 : Int32).toInt = 500 from rfl, true_and]
  by_cases c1 : l.toInt < -1000
  · rw [if_pos c1]; exact q1 (fun q => by unfold inOK at q; omega)
  rw [if_neg c1]
  by_cases c2 : 1000 < l.toInt
  · rw [if_pos c2]; exact q1 (fun q => by unfold inOK at q; omega)
  rw [if_neg c2]
  by_cases c3 : h.toInt < l.toInt
  · rw [if_pos c3]; exact q1 (fun q => by unfold inOK at q; omega)
  rw [if_neg c3]
  by_cases c4 : 1000 < h.toInt
  · rw [if_pos c4]; exact q1 (fun q => by unfold inOK at q; omega)
  rw [if_neg c4]
  by_cases c5 : w.toInt < 0
  · rw [if_pos c5]; exact q1 (fun q => by unfold inOK at q; omega)
  rw [if_neg c5]
  by_cases c6 : 999 < w.toInt
  · rw [if_pos c6]; exact q1 (fun q => by unfold inOK at q; omega)
  rw [if_neg c6]
  have hok : inOK l h w := ⟨by omega, by omega, by omega, by omega, by omega⟩
  refine ⟨O.1.1, O.2.1.kt, ?_⟩
  by_cases c7 : ((ino T).length : Int) < 100
  · rw [if_pos c7]
    refine ⟨O.1.1, O.2.1.kt, ?_⟩
    by_cases c8 : (N : Int) < 500
    · rw [if_pos c8]
      have O0 := O.thn 0
      refine ⟨O.1.1, O.2.1.kt, by omega, C_add O0.2.1 O0.2.2.1 O0.2.2.2.1 (by omega) (by omega) r1 r2 (fun gn g' K' NN V' hG hl CC => onI_v ?_)⟩
      obtain ⟨⟨T', O'⟩, F⟩ := RO.add (M' := thn K 0) O0 hcz (by omega) (by omega) hok hW (fun _ _ _ _ => rfl) (fun _ _ _ _ _ => rfl) (fun _ _ => rfl) O0.2.2.1 NN V' hG hl CC
      exact q4 hok (by omega) (by omega) g' K' T' _ F O'
    · rw [if_neg c8]; exact q2 hok (Or.inr (by omega))
  · rw [if_neg c7]
    refine ⟨O.1.1, O.2.1.kt, O.1.1, O.2.1.kt, ?_⟩
    by_cases c8 : ((live K T).length : Int) < (ino T).length
    · rw [if_pos c8]
      refine ⟨O.1.1, O.2.1.kt, ?_⟩
      by_cases c9 : (N : Int) < 500
      · rw [if_pos c9]
        refine ⟨O.1.1, O.2.1.kt, by omega, C_renew O.2.1 I O.2.2.2.1 O.2.2.2.2.2 (by omega) (fun gB g1 Kc V1 NP RP => onI_v ?_)⟩
        have hll : (live K T).length < 100 := by omega
        have P1 := mkR_P (N := N) (by omega) RP
        have ib : ino (bt 7 (live K T)) = live K T := ino_bt 7 _ (by omega)
        obtain ⟨O1, F1⟩ := O.renew (K2 := K) (K2' := K) V1 I NP RP P1 (fun _ _ _ _ => rfl) (fun _ _ => rfl) (TI_reb I P1)
        have z1 : hsz g1 = hsz g := F1.1
        have z2 : hsu g1 = hsu g := F1.2.1
        refine ⟨O1.1.1, ?_⟩
        rw [O1.1.2, onR_s]
        refine ⟨O1.2.1.kt, by omega, C_add O1.2.1 O1.2.2.1 O1.2.2.2.1 (by omega) (by omega) (by omega) (by omega) (fun gn g' K' NN V' hG hl CC => onI_v ?_)⟩
        have add : ∀ M', RebP (thn K 0) M' N (live K T) → TI M' (bt 7 (live K T)) N W → (∃ T', RO g' c t b (up1 na N (hsz g1)) (mixM (insM M' (bt 7 (live K T)) N l h w) K') T' (N + 1) W) ∧ InsF g1 g' (ownB t b na (fun i => i ∈ ino (bt 7 (live K T)))) := by
          intro M' P' I'
          have eE := Enc_uniq P'.2.1.1 P1.2.1.1
          have eC := ColT_uniq P'.2.2.1 P1.2.2.1
          refine RO.add O1 (by omega) (by omega) (by rw [ib]; exact hll) hok hW (fun r i a b => ?_) (fun r i a b hi => ?_) (fun i hi => ?_) I' NN V' hG hl CC
          · rw [mixM_lo (by omega)]
            by_cases e4 : r = 4
            · subst e4; rw [P'.1, P1.1, thn_ne (by decide)]
            · rw [P'.2.2.2.2.2.2.2.1 r i e4 (by omega) (by omega) (by omega) (by omega) (by omega) (by omega) (by omega) (by omega), P1.2.2.2.2.2.2.2.1 r i e4 (by omega) (by omega) (by omega) (by omega) (by omega) (by omega) (by omega) (by omega), thn_ne (by omega)]
          · rw [mixM_lo (by omega)]
            have : r = 5 ∨ r = 6 ∨ r = 7 ∨ r = 8 := by omega
            rcases this with rfl | rfl | rfl | rfl
            · exact (eE i hi).1
            · exact (eE i hi).2.1
            · exact (eE i hi).2.2
            · exact eC i hi
          · rw [mixM_lo (by omega)]
            rcases hi with rfl | rfl | rfl | rfl | rfl | rfl
            · exact (show M' 0 9 = _ from P'.2.1.2).trans (show mkR K Kc N (live K T) 0 9 = _ from P1.2.1.2).symm
            · rw [I'.1, (TI_reb I P1).1]
            · rw [P'.2.2.2.1, P1.2.2.2.1]
            · rw [P'.2.2.2.2.2.2.2.1 0 13 (by omega) (by omega) (by omega) (by omega) (by omega) (by omega) (by omega) (by omega) (by omega), P1.2.2.2.2.2.2.2.1 0 13 (by omega) (by omega) (by omega) (by omega) (by omega) (by omega) (by omega) (by omega) (by omega), thn_f (by omega)]
            · rw [P'.2.2.2.2.2.1, P1.2.2.2.2.2.1, thn_f (by omega)]
            · rw [P'.2.2.2.2.2.2.1, P1.2.2.2.2.2.2.1, thn_f (by omega)]
        have P0 : RebP (thn K 0) (thn (mkR K Kc N (live K T)) 0) N (live K T) := by
          obtain ⟨p1, p2, p3, p4, p5, p6, p7, p8, p9⟩ := P1
          refine ⟨fun i => by rw [thn_ne (by decide), p1, thn_ne (by decide)], EncZ_congr (fun x => ⟨(thn_ne (by decide)).symm, (thn_ne (by decide)).symm, (thn_ne (by decide)).symm⟩) (thn_f (by decide)).symm p2, ColT_congr (fun x _ => (thn_ne (by decide)).symm) p3, by rw [thn_f (by decide)]; exact p4, by rw [thn_f (by decide)]; exact p5, by rw [thn_f (by decide), thn_f (by decide)]; exact p6, by rw [thn_f (by decide), thn_f (by decide)]; exact p7, fun r i a4 a5 a6 a7 a8 a9 a10 a11 a0 => ?_, fun q i => ?_⟩
          · by_cases e : r = 0 ∧ i = 0
            · rw [e.1, e.2]
              exact (up2_at (M := mkR K Kc N (live K T))).trans (up2_at (M := K)).symm
            · have u1 : thn (mkR K Kc N (live K T)) 0 r i = mkR K Kc N (live K T) r i := up2_ne e
              have u2 : thn K 0 r i = K r i := up2_ne e
              rw [u1, u2]; exact p8 r i a4 a5 a6 a7 a8 a9 a10 a11 a0
          · rw [thn_ne (by decide)]; exact p9 (fun j => by have := q j; rw [thn_ne (by decide)] at this; exact this) i
        have F2 := (add _ P0 (TI_thn (TI_reb I P1))).2
        refine q3 hok (by omega) (by omega) (by omega) g' ⟨by rw [F2.1, z1], by rw [F2.2.1, z2], fun a ha => ?_⟩ (fun M' P' I' => ?_)
        · have k2 := F2.2.2 a (by omega)
          refine ⟨by rw [k2.1, F1.2.2.1], by rw [k2.2.1, F1.2.2.2.1], fun q => ?_⟩
          have k1 := F1.2.2.2.2 a q
          have := k2.2.2 (fun z => q (by
            rcases z with z | z | ⟨i, hi, z⟩
            · exact Or.inl z
            · exact Or.inr (Or.inl z)
            · rw [ib] at hi; exact Or.inr (Or.inr ⟨i, (lvT hi).1, z⟩)))
          rw [this.1, this.2.1, this.2.2]; exact k1
        · obtain ⟨⟨T', O'⟩, -⟩ := add M' P' I'
          exact ⟨K', T', _, O'⟩
      · rw [if_neg c9]; exact q2 hok (Or.inr (by omega))
    · rw [if_neg c8]; exact q2 hok (Or.inl ⟨by omega, by omega⟩)
end INSD
