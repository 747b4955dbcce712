/-! ===== insert once more: where the new node lies ===== -/
section INSE
variable {g : AHp} {c t b : Nat} {na : Nat → Nat} {K K1 : MT} {T : Tr} {N : Nat} {W : Int} {lim : Nat × Nat} {d : Nat} {R : RT} {X : XT} {l h w : Int32}
set_option maxRecDepth 8000 in
theorem C_insert2 (O : RO g c t b na K T N W) (hcz : c < hsz g) (hd : 20 < d) (hW : 999 ≤ W) (r1 : hsz g + 1 ≤ lim.1) (r2 : hsu g + 12 ≤ lim.2)
    (q1 : ¬ inOK l h w → thr lim X 1 g)
    (q2 : inOK l h w → ((ino T).length = 100 ∧ (gone K T).length = 0) ∨ N = 500 → thr lim X 2 g)
    (q3 : inOK l h w → (ino T).length = 100 → ¬ (gone K T).length = 0 → N < 500 → ∀ g', InsF g g' (ownB t b na (fun i => i ∈ ino T)) → (∀ M', RebP (thn K 0) M' N (live K T) → TI M' (bt 7 (live K T)) N W → ∃ K' T', RO g' c t b (up1 na N (hsz g)) (mixM (insM M' (bt 7 (live K T)) N l h w) K') T' (N + 1) W) → R (some (vi (nI N))) g')
    (q4 : inOK l h w → (ino T).length < 100 → N < 500 → ∀ g' K' T', InsF g g' (ownB t b na (fun i => i ∈ ino T)) → RO g' c t b (up1 na N (hsz g)) (mixM (insM (thn K 0) T N l h w) K') T' (N + 1) W → R (some (vi (nI N))) g') : WM lim d j_It_insert [vr (some c), vi l, vi h, vi w] g R X := by
  have I := O.2.2.1
  have hlen := I.2.2.2.2.2.2.2.2.2.1
  have hgl := I.len
  have hN := I.2.1
  have m1 : (-1000 : Int32).toInt = -1000 := rfl
  have m2 : (1000 : Int32).toInt = 1000 := rfl
  have m3 : (999 : Int32).toInt = 999 := rfl
  have m0 : (0 : Int32).toInt = 0 := rfl
  have e11 : hI g t 5 = nI (ino T).length := by rw [O.2.1.nod, I.2.2.2.2.2.2.2.2.1]
  have e10 : hI g t 4 = nI N := by rw [O.2.1.ins, I.1]
  have e6 : hI g t 6 = nI (live K T).length := by rw [O.2.1.liv, O.2.2.2.2.2]
  refine B_It_insert_0 ?_
  simp only [O.1.2, onR_s, e11, e10, e6, i_lt, m1, m2, m3, m0, all1, nI_toInt (show (ino T).length < 2 ^ 31 by omega), nI_toInt (show (live K T).length < 2 ^ 31 by omega), nI_toInt (show N < 2 ^ 31 by omega), show (100 : Int32).toInt = 100 from rfl, show (500 : Int32).toInt = 500 from rfl, true_and]
  by_cases c1 : l.toInt < -1000
  · rw [if_pos c1]; exact q1 (fun q => by unfold inOK at q; omega)
  rw [if_neg c1]
  by_cases c2 : 1000 < l.toInt
  · rw [if_pos c2]; exact q1 (fun q => by unfold inOK at q; omega)
  rw [if_neg c2]
  by_cases c3 : h.toInt < l.toInt
  · rw [if_pos c3]; exact q1 (fun q => by unfold inOK at q; omega)
  rw [if_neg c3]
  by_cases c4 : 1000 < h.toInt
  · rw [if_pos c4]; exact q1 (fun q => by unfold inOK at q; omega)
  rw [if_neg c4]
  by_cases c5 : w.toInt < 0
  · rw [if_pos c5]; exact q1 (fun q => by unfold inOK at q; omega)
  rw [if_neg c5]
  by_cases c6 : 999 < w.toInt
  · rw [if_pos c6]; exact q1 (fun q => by unfold inOK at q; omega)
  rw [if_neg c6]
  have hok : inOK l h w := ⟨by omega, by omega, by omega, by omega, by omega⟩
  refine ⟨O.1.1, O.2.1.kt, ?_⟩
  by_cases c7 : ((ino T).length : Int) < 100
  · rw [if_pos c7]
    refine ⟨O.1.1, O.2.1.kt, ?_⟩
    by_cases c8 : (N : Int) < 500
    · rw [if_pos c8]
      have O0 := O.thn 0
      refine ⟨O.1.1, O.2.1.kt, by omega, C_add O0.2.1 O0.2.2.1 O0.2.2.2.1 (by omega) (by omega) r1 r2 (fun gn g' K' NN V' hG hl CC => onI_v ?_)⟩
      obtain ⟨⟨T', O'⟩, F⟩ := RO.add (M' := thn K 0) O0 hcz (by omega) (by omega) hok hW (fun _ _ _ _ => rfl) (fun _ _ _ _ _ => rfl) (fun _ _ => rfl) O0.2.2.1 NN V' hG hl CC
      exact q4 hok (by omega) (by omega) g' K' T' F O'
    · rw [if_neg c8]; exact q2 hok (Or.inr (by omega))
  · rw [if_neg c7]
    refine ⟨O.1.1, O.2.1.kt, O.1.1, O.2.1.kt, ?_⟩
    by_cases c8 : ((live K T).length : Int) < (ino T).length
    · rw [if_pos c8]
      refine ⟨O.1.1, O.2.1.kt, ?_⟩
      by_cases c9 : (N : Int) < 500
      · rw [if_pos c9]
        refine ⟨O.1.1, O.2.1.kt, by omega, C_renew O.2.1 I O.2.2.2.1 O.2.2.2.2.2 (by omega) (fun gB g1 Kc V1 NP RP => onI_v ?_)⟩
        have hll : (live K T).length < 100 := by omega
        have P1 := mkR_P (N := N) (by omega) RP
        have ib : ino (bt 7 (live K T)) = live K T := ino_bt 7 _ (by omega)
        obtain ⟨O1, F1⟩ := O.renew (K2 := K) (K2' := K) V1 I NP RP P1 (fun _ _ _ _ => rfl) (fun _ _ => rfl) (TI_reb I P1)
        have z1 : hsz g1 = hsz g := F1.1
        have z2 : hsu g1 = hsu g := F1.2.1
        refine ⟨O1.1.1, ?_⟩
        rw [O1.1.2, onR_s]
        refine ⟨O1.2.1.kt, by omega, C_add O1.2.1 O1.2.2.1 O1.2.2.2.1 (by omega) (by omega) (by omega) (by omega) (fun gn g' K' NN V' hG hl CC => onI_v ?_)⟩
        have add : ∀ M', RebP (thn K 0) M' N (live K T) → TI M' (bt 7 (live K T)) N W → (∃ T', RO g' c t b (up1 na N (hsz g1)) (mixM (insM M' (bt 7 (live K T)) N l h w) K') T' (N + 1) W) ∧ InsF g1 g' (ownB t b na (fun i => i ∈ ino (bt 7 (live K T)))) := by
          intro M' P' I'
          have eE := Enc_uniq P'.2.1.1 P1.2.1.1
          have eC := ColT_uniq P'.2.2.1 P1.2.2.1
          refine RO.add O1 (by omega) (by omega) (by rw [ib]; exact hll) hok hW (fun r i a b => ?_) (fun r i a b hi => ?_) (fun i hi => ?_) I' NN V' hG hl CC
          · rw [mixM_lo (by omega)]
            by_cases e4 : r = 4
            · subst e4; rw [P'.1, P1.1, thn_ne (by decide)]
            · rw [P'.2.2.2.2.2.2.2.1 r i e4 (by omega) (by omega) (by omega) (by omega) (by omega) (by omega) (by omega) (by omega), P1.2.2.2.2.2.2.2.1 r i e4 (by omega) (by omega) (by omega) (by omega) (by omega) (by omega) (by omega) (by omega), thn_ne (by omega)]
          · rw [mixM_lo (by omega)]
            have : r = 5 ∨ r = 6 ∨ r = 7 ∨ r = 8 := by omega
            rcases this with rfl | rfl | rfl | rfl
            · exact (eE i hi).1
            · exact (eE i hi).2.1
            · exact (eE i hi).2.2
            · exact eC i hi
          · rw [mixM_lo (by omega)]
            rcases hi with rfl | rfl | rfl | rfl | rfl | rfl
            · exact (show M' 0 9 = _ from P'.2.1.2).trans (show mkR K Kc N (live K T) 0 9 = _ from P1.2.1.2).symm
            · rw [I'.1, (TI_reb I P1).1]
            · rw [P'.2.2.2.1, P1.2.2.2.1]
            · rw [P'.2.2.2.2.2.2.2.1 0 13 (by omega) (by omega) (by omega) (by omega) (by omega) (by omega) (by omega) (by omega) (by omega), P1.2.2.2.2.2.2.2.1 0 13 (by omega) (by omega) (by omega) (by omega) (by omega) (by omega) (by omega) (by omega) (by omega), thn_f (by omega)]
            · rw [P'.2.2.2.2.2.1, P1.2.2.2.2.2.1, thn_f (by omega)]
            · rw [P'.2.2.2.2.2.2.1, P1.2.2.2.2.2.2.1, thn_f (by omega)]
        have P0 : RebP (thn K 0) (thn (mkR K Kc N (live K T)) 0) N (live K T) := by
          obtain ⟨p1, p2, p3, p4, p5, p6, p7, p8, p9⟩ := P1
          refine ⟨fun i => by rw [thn_ne (by decide), p1, thn_ne (by decide)], EncZ_congr (fun x => ⟨(thn_ne (by decide)).symm, (thn_ne (by decide)).symm, (thn_ne (by decide)).symm⟩) (thn_f (by decide)).symm p2, ColT_congr (fun x _ => (thn_ne (by decide)).symm) p3, by rw [thn_f (by decide)]; exact p4, by rw [thn_f (by decide)]; exact p5, by rw [thn_f (by decide), thn_f (by decide)]; exact p6, by rw [thn_f (by decide), thn_f (by decide)]; exact p7, fun r i a4 a5 a6 a7 a8 a9 a10 a11 a0 => ?_, fun q i => ?_⟩
          · by_cases e : r = 0 ∧ i = 0
            · rw [e.1, e.2]
              exact (up2_at (M := mkR K Kc N (live K T))).trans (up2_at (M := K)).symm
            · have u1 : thn (mkR K Kc N (live K T)) 0 r i = mkR K Kc N (live K T) r i := up2_ne e
              have u2 : thn K 0 r i = K r i := up2_ne e
              rw [u1, u2]; exact p8 r i a4 a5 a6 a7 a8 a9 a10 a11 a0
          · rw [thn_ne (by decide)]; exact p9 (fun j => by have := q j; rw [thn_ne (by decide)] at this; exact this) i
        have F2 := (add _ P0 (TI_thn (TI_reb I P1))).2
        refine q3 hok (by omega) (by omega) (by omega) g' ⟨by rw [F2.1, z1], by rw [F2.2.1, z2], fun a ha => ?_⟩ (fun M' P' I' => ?_)
        · have k2 := F2.2.2 a (by omega)
          refine ⟨by rw [k2.1, F1.2.2.1], by rw [k2.2.1, F1.2.2.2.1], fun q => ?_⟩
          have k1 := F1.2.2.2.2 a q
          have := k2.2.2 (fun z => q (by
            rcases z with z | z | ⟨i, hi, z⟩
            · exact Or.inl z
            · exact Or.inr (Or.inl z)
            · rw [ib] at hi; exact Or.inr (Or.inr ⟨i, (lvT hi).1, z⟩)))
          rw [this.1, this.2.1, this.2.2]; exact k1
        · obtain ⟨⟨T', O'⟩, -⟩ := add M' P' I'
          rw [z1] at O'
          exact ⟨K', T', O'⟩
      · rw [if_neg c9]; exact q2 hok (Or.inr (by omega))
    · rw [if_neg c8]; exact q2 hok (Or.inl ⟨by omega, by omega⟩)
end INSE
