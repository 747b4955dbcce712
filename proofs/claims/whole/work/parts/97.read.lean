/-! ===== texts of filters: the reference reads ===== -/
def EP (nf : Nat) (M0 M : MT) : Prop := ∀ a k, ¬ (a = 0 ∧ (k = 36 ∨ k = 37 ∨ k = 38)) → ¬ (a = 18 ∧ k = nf) → ¬ (19 ≤ a ∧ a ≤ 21 ∧ 60 * nf ≤ k ∧ k < 60 * nf + 60) → M a k = M0 a k
def PL (M : MT) (nf : Nat) (L : List SP) : Prop := M 18 nf = nI L.length ∧ (List.range' 0 L.length).map (prt M nf) = L ∧ ∀ k, k < L.length → -10000 < (M 21 (60 * nf + k)).toInt ∧ (M 21 (60 * nf + k)).toInt < 10000
def RS (M0 M : MT) (nf n p rf : Nat) (L : List SP) : Prop := EP nf M0 M ∧ M 0 36 = nI p ∧ p ≤ n ∧ M 0 37 = nI rf ∧ rf ≤ 2 ∧ M 0 38 = 0 ∧ PL M nf L ∧ L.length ≤ p
def RE (M0 M : MT) (nf n p : Nat) : Prop := EP nf M0 M ∧ M 0 36 = nI p ∧ p ≤ n ∧ M 0 38 = 1
def BT (M0 : MT) (nf n : Nat) : Prop := M0 0 24 = nI nf ∧ nf < 8 ∧ M0 0 35 = nI n ∧ n ≤ 60 ∧ ∀ k, k < n → ix (M0 23 k) 256
theorem EP.up {nf : Nat} {M0 M : MT} {a k : Nat} {v : Int32} (E : EP nf M0 M) (h : (a = 0 ∧ (k = 36 ∨ k = 37 ∨ k = 38)) ∨ (a = 18 ∧ k = nf) ∨ (19 ≤ a ∧ a ≤ 21 ∧ 60 * nf ≤ k ∧ k < 60 * nf + 60)) : EP nf M0 (up2 M a k v) := by
  intro b j h1 h2 h3
  rw [up2_ne (fun z => by
    obtain ⟨rfl, rfl⟩ := z
    rcases h with h | h | h
    · exact h1 h
    · exact h2 h
    · exact h3 h)]
  exact E b j h1 h2 h3
theorem PL.up {M : MT} {nf a k : Nat} {L : List SP} {v : Int32} (P : PL M nf L) (h : a < 18) : PL (up2 M a k v) nf L := by
  have e : prt (up2 M a k v) nf = prt M nf := by
    funext j; unfold prt; rw [up2_ne (by omega), up2_ne (by omega), up2_ne (by omega)]
  exact ⟨by rw [up2_ne (by omega)]; exact P.1, by rw [e]; exact P.2.1, fun k hk => by rw [up2_ne (by omega)]; exact P.2.2 k hk⟩
section READ
variable {z : Nat × Nat} {d : Nat} {M0 M : MT} {Q : Option AV → MT → Prop} {nf n p rf : Nat} {L : List SP} {x y u : Int32}
theorem RS.adv (S : RS M0 M nf n p rf L) (hp : p < n) : RS M0 (up2 M 0 36 (M 0 36 + 1)) nf n (p + 1) rf L := by
  obtain ⟨s1, s2, s3, s4, s5, s6, s7, s8⟩ := S
  rw [s2, nI_1]
  exact ⟨s1.up (Or.inl ⟨rfl, Or.inl rfl⟩), up2_at, by omega, (up2_ne (by omega)).trans s4, s5, (up2_ne (by omega)).trans s6, s7.up (by omega), by omega⟩
theorem RS.bad (S : RS M0 M nf n p rf L) : RE M0 (up2 M 0 38 1) nf n p := by
  obtain ⟨s1, s2, s3, s4, s5, s6, s7, s8⟩ := S
  exact ⟨s1.up (Or.inl ⟨rfl, Or.inr (Or.inr rfl)⟩), (up2_ne (by omega)).trans s2, s3, up2_at⟩
theorem RS.w0 (S : RS M0 M nf n p rf L) : RS M0 (up2 M 0 38 0) nf n p rf L := by
  obtain ⟨s1, s2, s3, s4, s5, s6, s7, s8⟩ := S
  exact ⟨s1.up (Or.inl ⟨rfl, Or.inr (Or.inr rfl)⟩), (up2_ne (by omega)).trans s2, s3, (up2_ne (by omega)).trans s4, s5, up2_at, s7.up (by omega), s8⟩
theorem RS.rf1 (S : RS M0 M nf n p rf L) (h : rf < 2) : RS M0 (up2 M 0 37 (M 0 37 + 1)) nf n p (rf + 1) L := by
  obtain ⟨s1, s2, s3, s4, s5, s6, s7, s8⟩ := S
  rw [s4, nI_1]
  exact ⟨s1.up (Or.inl ⟨rfl, Or.inr (Or.inl rfl)⟩), (up2_ne (by omega)).trans s2, s3, up2_at, by omega, (up2_ne (by omega)).trans s6, s7.up (by omega), s8⟩
theorem sgA_rng (B : BT M0 nf n) : -1 ≤ (sgA (M0 23) n p).toInt ∧ (sgA (M0 23) n p).toInt ≤ 255 := by
  unfold sgA
  split
  · rename_i h
    have := ix_iff.mp (B.2.2.2.2 p h)
    omega
  · have : (-1 : Int32).toInt = -1 := rfl
    omega
theorem S_signR (B : BT M0 nf n) (S : RS M0 M nf n p rf L) (q : Q (some (vi (sgA (M0 23) n p))) M) : WQ z d j_Mo_sign [vr (some 0)] M Q := by
  obtain ⟨s1, s2, s3, s4, s5, s6, s7, s8⟩ := S
  obtain ⟨b1, b2, b3, b4, b5⟩ := B
  refine M_sign_0 ?_
  rw [if_pos s6, s2, s1 0 35 (by omega) (by omega) (by omega), b3]
  unfold sgA at q
  by_cases c : p < n
  · rw [if_pos (nI_lt (by omega) (by omega)), nI_clamp (by omega), s1 23 p (by omega) (by omega) (by omega)]
    rw [if_pos c] at q
    exact ⟨ix_nI (by omega) (by decide), q⟩
  · rw [if_neg (nI_nlt (by omega) (by omega))]
    rw [if_neg c] at q
    exact q
theorem S_signE (E : RE M0 M nf n p) (q : Q (some (vi (-1))) M) : WQ z d j_Mo_sign [vr (some 0)] M Q := by
  refine M_sign_0 ?_
  rw [if_neg (by rw [E.2.2.2]; decide)]
  exact q
theorem S_digR (B : BT M0 nf n) (S : RS M0 M nf n p rf L) (hd : 0 < d) (q1 : isDA (sgA (M0 23) n p) → Q (some (vi 1)) M) (q2 : ¬ isDA (sgA (M0 23) n p) → Q (some (vi 0)) M) : WQ z d j_Mo_isDigit [vr (some 0)] M Q := by
  have a1 : (48 : Int32).toInt = 48 := rfl
  have a2 : (57 : Int32).toInt = 57 := rfl
  refine M_isDigit_0 ⟨hd, S_signR B S (onI_v ⟨hd, S_in (fun c => onI_v ⟨Or.inr rfl, q1 ?_⟩) (fun c => onI_v ⟨Or.inl rfl, q2 ?_⟩)⟩)⟩
  · rw [a1, a2] at c; exact c
  · rw [a1, a2] at c; exact c
theorem S_digE (E : RE M0 M nf n p) (hd : 0 < d) (q : Q (some (vi 0)) M) : WQ z d j_Mo_isDigit [vr (some 0)] M Q := by
  have a1 : (48 : Int32).toInt = 48 := rfl
  have a2 : (-1 : Int32).toInt = -1 := rfl
  refine M_isDigit_0 ⟨hd, S_signE E (onI_v ⟨hd, S_in (fun c => ?_) (fun c => onI_v ⟨Or.inl rfl, q⟩)⟩)⟩
  rw [a1, a2] at c; omega
theorem S_partR (B : BT M0 nf n) (S : RS M0 M nf n p rf L) (hl : L.length + 1 ≤ p) (hx : -10000 < u.toInt ∧ u.toInt < 10000) (q : ∀ M', RS M0 M' nf n p rf (L ++ [stp x y u]) → Q none M') : WQ z d j_Mo_part [vr (some 0), vi x, vi y, vi u] M Q := by
  obtain ⟨s1, s2, s3, s4, s5, s6, ⟨p1, p2, p3⟩, s8⟩ := S
  obtain ⟨b1, b2, b3, b4, b5⟩ := B
  have e24 : M 0 24 = nI nf := by rw [s1 0 24 (by omega) (by omega) (by omega)]; exact b1
  refine M_part_0 ?_
  rw [if_pos s6, e24, nI_clamp (by omega), nI_60 b2, p1, nI_ad, nI_clamp (by omega)]
  have hx8 : ix (nI nf) 8 := ix_nI b2 (by decide)
  have hx4 : ix (nI (60 * nf + L.length)) 480 := ix_nI (by omega) (by decide)
  refine ⟨hx8, hx4, fun M1 e1 => ⟨hx4, fun M2 e2 => ⟨hx4, fun M3 e3 => ?_⟩⟩⟩
  have f24 : M3 0 24 = nI nf := by rw [e3, e2, e1, up2_ne (by omega), up2_ne (by omega), up2_ne (by omega)]; exact e24
  have f18 : M3 18 nf = nI L.length := by rw [e3, e2, e1, up2_ne (by omega), up2_ne (by omega), up2_ne (by omega)]; exact p1
  rw [f24, nI_clamp (by omega), f18, nI_1]
  refine ⟨hx8, hx8, fun M4 e4 => q M4 ?_⟩
  have g : ∀ a k, ¬ (a = 18 ∧ k = nf) → ¬ (19 ≤ a ∧ a ≤ 21 ∧ k = 60 * nf + L.length) → M4 a k = M a k := by
    intro a k h1 h2
    rw [e4, e3, e2, e1, up2_ne (by omega), up2_ne (by omega), up2_ne (by omega), up2_ne (by omega)]
  have g19 : M4 19 (60 * nf + L.length) = x := by rw [e4, e3, e2, e1, up2_ne (by omega), up2_ne (by omega), up2_ne (by omega), up2_at]
  have g20 : M4 20 (60 * nf + L.length) = y := by rw [e4, e3, e2, up2_ne (by omega), up2_ne (by omega), up2_at]
  have g21 : M4 21 (60 * nf + L.length) = u := by rw [e4, e3, up2_ne (by omega), up2_at]
  have g18 : M4 18 nf = nI (L.length + 1) := by rw [e4, up2_at]
  have hlen : (L ++ [stp x y u]).length = L.length + 1 := by rw [List.length_append]; rfl
  refine ⟨?_, by rw [g _ _ (by omega) (by omega)]; exact s2, s3, by rw [g _ _ (by omega) (by omega)]; exact s4, s5, by rw [g _ _ (by omega) (by omega)]; exact s6, ⟨by rw [hlen]; exact g18, ?_, fun k hk => ?_⟩, by rw [hlen]; exact hl⟩
  · rw [e4, e3, e2, e1]
    exact (((s1.up (Or.inr (Or.inr (by omega)))).up (Or.inr (Or.inr (by omega)))).up (Or.inr (Or.inr (by omega)))).up (Or.inr (Or.inl ⟨rfl, rfl⟩))
  · rw [hlen, List.range'_1_concat, List.map_append]
    congr 1
    · refine Eq.trans (List.map_congr_left (fun k hk => ?_)) p2
      rw [List.mem_range'_1] at hk
      unfold prt
      rw [g _ _ (by omega) (by omega), g _ _ (by omega) (by omega), g _ _ (by omega) (by omega)]
    · show [prt M4 nf (0 + L.length)] = _
      unfold prt
      rw [Nat.zero_add, g19, g20, g21]
  · rw [hlen] at hk
    by_cases c : k = L.length
    · rw [c, g21]; exact hx
    · rw [g _ _ (by omega) (by omega)]; exact p3 k (by omega)
theorem S_partE (E : RE M0 M nf n p) (q : Q none M) : WQ z d j_Mo_part [vr (some 0), vi x, vi y, vi u] M Q := by
  refine M_part_0 ?_
  rw [if_neg (by rw [E.2.2.2]; decide)]
  exact q
def FOK (M0 M' : MT) (nf n p rf : Nat) (L : List SP) : Prop := ∃ p' rf' L' w, RS M0 M' nf n p' rf' (L ++ L') ∧ L'.length + p ≤ p' ∧ 1 ≤ w ∧ 2 * w + p ≤ p' ∧ Gd nf L' w ∧ FacOK (M0 23) n nf p rf p' rf' L'
def FER (M0 M' : MT) (nf n p rf : Nat) : Prop := ∃ p', RE M0 M' nf n p' ∧ FacEr (M0 23) n nf p rf p'
theorem S_ref (B : BT M0 nf n) (S : RS M0 M nf n p rf L) (hp : p < n) (ht : M0 23 p = 35) (hd : 2 < d) (q1 : ∀ M', FOK M0 M' nf n p rf L → Q none M') (q2 : ∀ M', FER M0 M' nf n p rf → Q none M') : WQ z d j_Mo_readReference [vr (some 0)] M Q := by
  have a0 : (48 : Int32).toInt = 48 := rfl
  have rg := sgA_rng (p := p + 1) B
  have ev : (sgA (M0 23) n (p + 1) - 48).toInt = (sgA (M0 23) n (p + 1)).toInt - 48 := by rw [i_sub (by rw [a0]; omega) (by rw [a0]; omega), a0]
  have h8 := B.2.1
  refine M_readReference_0 ?_
  by_cases c : rf = 2
  · rw [if_pos (by rw [S.2.2.2.1, c]; rfl), up2_at, if_neg (by decide)]
    refine q2 _ ⟨p, S.bad, fun oc out ws => Rs_refE hp ht ?_⟩
    unfold rfA; rw [if_pos (by omega)]
  · have hr : rf < 2 := by have := S.2.2.2.2.1; omega
    rw [if_neg (by rw [S.2.2.2.1]; exact fun z => c (nI_inj (b := 2) (by omega) (by omega) z)), up2_at, if_pos rfl]
    intro M1 e1
    have S1 : RS M0 M1 nf n p (rf + 1) L := by rw [e1]; exact S.w0.rf1 hr
    have S2 := S1.adv hp
    have bad : ¬ (0 ≤ (sgA (M0 23) n (p + 1) - 48).toInt ∧ (sgA (M0 23) n (p + 1) - 48).toInt < nf) → FacEr (M0 23) n nf p rf (p + 1) := fun h oc out ws => Rs_refE hp ht (by unfold rfA; rw [if_neg (by omega), if_neg h])
    refine ⟨by omega, S_digR B S2 (by omega) (fun hdg => onI_1 ⟨by omega, S_signR B S2 (onI_v ?_)⟩) (fun hdg => onI_0 ?_)⟩
    · have f24 : (up2 M1 0 36 (M1 0 36 + 1)) 0 24 = nI nf := by rw [S2.1 0 24 (by omega) (by omega) (by omega)]; exact B.1
      rw [f24]
      split
      · rename_i c2; rw [i_lt, nI_toInt (by omega)] at c2
        rw [up2_at, if_pos rfl]
        have S3 := S2.w0
        refine ⟨by omega, S_signR B S3 (onI_v ⟨by omega, ?_⟩)⟩
        have hix : ix (sgA (M0 23) n (p + 1) - 48) nf := ix_iff.mpr (by omega)
        obtain ⟨r, hr2, er⟩ := ix_ex hix (by omega)
        have hp1 : p + 1 < n := by
          by_cases c : p + 1 < n
          · exact c
          · have := hdg.1; unfold sgA at this; rw [if_neg c] at this; exact absurd this (by decide)
        have hl := S.2.2.2.2.2.2.2
        refine S_partR B S3 (by omega) (by rw [ev]; omega) (fun M4 S4 => q1 _ ?_)
        rw [stp35] at S4
        refine ⟨p + 2, rf + 1, [(2, sgA (M0 23) n (p + 1) - 48, 0, 0)], 1, S4.adv hp1, by simp only [List.length_cons, List.length_nil]; omega, by omega, by omega, Gd.one (Or.inr (Or.inr ⟨rfl, r, hr2, er⟩)), fun oc out ws r h => Rs_ref hp ht (p' := p + 2) (s := (2, sgA (M0 23) n (p + 1) - 48, 0, 0)) ?_ h⟩
        unfold rfA; rw [if_neg (by omega), if_pos (by omega)]
      · rename_i c2; rw [i_lt, nI_toInt (by omega)] at c2
        rw [up2_at, if_neg (by decide)]
        exact q2 _ ⟨p + 1, S2.bad, bad (by omega)⟩
    · rw [up2_at, if_neg (by decide)]
      refine q2 _ ⟨p + 1, S2.bad, bad (fun h => hdg ⟨by omega, by omega⟩)⟩
theorem ten_pow {r : Nat} (h : r + 1 ≤ 4) : (10 : Int) ^ (4 - r) = 10 * 10 ^ (4 - (r + 1)) := by
  have : 4 - r = (4 - (r + 1)) + 1 := by omega
  rw [this, Int.pow_succ, Int.mul_comm]
theorem dg_step (B : BT M0 nf n) {acc : Int32} {r : Nat} (hr : r + 1 ≤ 4) (h : isDA (sgA (M0 23) n p)) (ha : 0 ≤ acc.toInt ∧ acc.toInt < 10 ^ (4 - (r + 1))) : 0 ≤ (10 * acc + sgA (M0 23) n p - 48).toInt ∧ (10 * acc + sgA (M0 23) n p - 48).toInt < 10 ^ (4 - r) := by
  have a0 : (48 : Int32).toInt = 48 := rfl
  have a1 : (10 : Int32).toInt = 10 := rfl
  have hb : (10 : Int) ^ (4 - (r + 1)) ≤ 1000 := by
    have : ∀ r : Fin 4, (10 : Int) ^ (4 - (r.val + 1)) ≤ 1000 := by decide
    exact this ⟨r, by omega⟩
  have e1 : (10 * acc).toInt = 10 * acc.toInt := by rw [i_mul (by rw [a1]; omega) (by rw [a1]; omega), a1]
  have e2 : (10 * acc + sgA (M0 23) n p).toInt = 10 * acc.toInt + (sgA (M0 23) n p).toInt := by rw [i_add (by rw [e1]; omega) (by rw [e1]; omega), e1]
  rw [i_sub (by rw [e2, a0]; omega) (by rw [e2, a0]; omega), e2, a0, ten_pow hr]
  omega
theorem dgA_n : ∀ (r p : Nat) (acc : Int32), p ≤ n → (dgA (M0 23) n r p acc).2 ≤ n := by
  intro r
  induction r with
  | zero => intro p acc h; exact h
  | succ r ih =>
    intro p acc h
    rw [dgA]
    split
    · rename_i hd
      refine ih _ _ ?_
      by_cases c : p < n
      · exact c
      · have := hd.1; unfold sgA at this; rw [if_neg c] at this; exact absurd this (by decide)
    · exact h
theorem L_dig (B : BT M0 nf n) (hd : 1 < d) {u4 : Int32} (q : ∀ M' a p', RS M0 M' nf n p' rf (L ++ [stp x y (if u4 = 0 then a else -a)]) → (a, p') = dgA (M0 23) n 4 p 0 → Q none M') : ∀ (r p1 : Nat) (acc : Int32) (M : MT), r ≤ 4 → RS M0 M nf n p1 rf L → L.length + 1 ≤ p1 → (0 ≤ acc.toInt ∧ acc.toInt < 10 ^ (4 - r)) → dgA (M0 23) n 4 p 0 = dgA (M0 23) n r p1 acc → WK z d j_Mo_readComparison 111 [some (vr (some 0)), some (vi x), some (vi y), some (vi u4), some (vi acc), some (vi (nI (4 - r)))] [] M Q := by
  intro r
  have e4 : ∀ m, m ≤ 4 → (nI m < 4 ↔ m < 4) := by
    intro m hm
    have : (4 : Int32).toInt = 4 := rfl
    rw [i_lt, nI_toInt (by omega), this]; omega
  have fin : ∀ (r p1 : Nat) (acc : Int32) (M : MT), r ≤ 4 → RS M0 M nf n p1 rf L → L.length + 1 ≤ p1 → (0 ≤ acc.toInt ∧ acc.toInt < 10 ^ (4 - r)) → dgA (M0 23) n 4 p 0 = (acc, p1) → if u4 = 0 then (0 < d ∧ WQ z (d - 1) j_Mo_part [vr (some 0), vi x, vi y, vi acc] M (fun _ M1 => Q none M1)) else (0 < d ∧ WQ z (d - 1) j_Mo_part [vr (some 0), vi x, vi y, vi (-acc)] M (fun _ M4 => Q none M4)) := by
    intro r p1 acc M hr S hl ha e
    have hb : (10 : Int) ^ (4 - r) ≤ 10000 := by
      have : ∀ r : Fin 5, (10 : Int) ^ (4 - r.val) ≤ 10000 := by decide
      exact this ⟨r, by omega⟩
    split
    · rename_i c
      exact ⟨by omega, S_partR B S hl (by omega) (fun M' S' => q M' acc p1 (by rw [if_pos c]; exact S') e.symm)⟩
    · rename_i c
      have en : (-acc).toInt = -acc.toInt := by
        rw [← Int32.zero_sub]
        rw [i_sub (by rw [i_0]; omega) (by rw [i_0]; omega), i_0]; omega
      exact ⟨by omega, S_partR B S hl (by rw [en]; omega) (fun M' S' => q M' acc p1 (by rw [if_neg c]; exact S') e.symm)⟩
  induction r with
  | zero =>
    intro p1 acc M hr S hl ha e
    refine M_readComparison_111 ?_
    rw [if_neg (by rw [e4 _ (by omega)]; omega)]
    exact fin 0 p1 acc M hr S hl ha e
  | succ r ih =>
    intro p1 acc M hr S hl ha e
    have e : dgA (M0 23) n 4 p 0 = if isDA (sgA (M0 23) n p1) then dgA (M0 23) n r (p1 + 1) (10 * acc + sgA (M0 23) n p1 - 48) else (acc, p1) := e
    refine M_readComparison_111 ?_
    rw [if_pos ((e4 _ (by omega)).mpr (by omega)), nI_1]
    refine ⟨by omega, S_digR B S (by omega) (fun h => onI_1 ⟨by omega, S_signR B S (onI_v ?_)⟩) (fun h => onI_0 ?_)⟩
    · rw [if_pos h] at e
      have hp : p1 < n := by
        by_cases c : p1 < n
        · exact c
        · have := h.1; unfold sgA at this; rw [if_neg c] at this; exact absurd this (by decide)
      have e5 : 4 - (r + 1) + 1 = 4 - r := by omega
      rw [e5]
      exact ih (p1 + 1) _ _ (by omega) (S.adv hp) (by omega) (dg_step B hr h ha) e
    · rw [if_neg h] at e
      exact fin (r + 1) p1 acc M hr S hl ha e
theorem L_digE (E : RE M0 M nf n p) (hd : 1 < d) {u4 acc : Int32} (q : Q none M) : WK z d j_Mo_readComparison 111 [some (vr (some 0)), some (vi x), some (vi y), some (vi u4), some (vi acc), some (vi 0)] [] M Q := by
  refine M_readComparison_111 ?_
  rw [if_pos (by decide)]
  refine ⟨by omega, S_digE E (by omega) (onI_0 ?_)⟩
  split
  · exact ⟨by omega, S_partE E q⟩
  · exact ⟨by omega, S_partE E q⟩
theorem S_cmpR (B : BT M0 nf n) (S : RS M0 M nf n p rf L) (hp : p < n) (hx : prA (M0 23 p) = x) (hx1 : x ≠ -1) (hne : M0 23 p ≠ 33 ∧ M0 23 p ≠ 40 ∧ M0 23 p ≠ 35) (h0 : ¬ x = 33 ∧ ¬ x = 38 ∧ ¬ x = 124 ∧ ¬ x = 35) (hd : 3 < d) (q1 : ∀ M', FOK M0 M' nf n p rf L → Q none M') (q2 : ∀ M', FER M0 M' nf n p rf → Q none M') : WQ z d j_Mo_readComparison [vr (some 0), vi x] M Q := by
  have hpr : prA (sgA (M0 23) n p) = x := by unfold sgA; rw [if_pos hp]; exact hx
  have S1 := S.adv hp
  have hl := S.2.2.2.2.2.2.2
  have ltn : ∀ {p : Nat} {v : Int32}, sgA (M0 23) n p = v → v ≠ -1 → p < n := fun h hv => (lt_of_sg h hv).1
  have bad1 : ¬ (sgA (M0 23) n (p + 1) = 60 ∨ sgA (M0 23) n (p + 1) = 61 ∨ sgA (M0 23) n (p + 1) = 62) → cmA (M0 23) n p = (none, p + 1) := by
    intro h; unfold cmA; rw [if_neg (by rw [hpr]; exact hx1), if_neg h]
  refine M_readComparison_0 ⟨by omega, S_signR B S1 (onI_v ?_)⟩
  have br : (sgA (M0 23) n (p + 1) = 60 ∨ sgA (M0 23) n (p + 1) = 61 ∨ sgA (M0 23) n (p + 1) = 62) → (if (up2 (up2 M 0 36 (M 0 36 + 1)) 0 38 (0 : Int32)) 0 38 = (0 : Int32) then ((∀ M5 : MT, M5 = up2 (up2 (up2 M 0 36 (M 0 36 + 1)) 0 38 (0 : Int32)) 0 36 ((up2 (up2 M 0 36 (M 0 36 + 1)) 0 38 (0 : Int32)) 0 36 + (1 : Int32)) → 0 < d ∧ WQ z (d - 1) j_Mo_sign [vr (some 0)] M5 (fun v7 M6 => onI v7 fun x9 => if x9 = (45 : Int32) then (WK z d j_Mo_readComparison 89 [some (vr (some 0)), some (vi x), some (vi (sgA (M0 23) n (p + 1))), some (vi (1 : Int32)), none, none] [] (up2 M6 0 36 (M6 0 36 + (1 : Int32))) Q) else (WK z d j_Mo_readComparison 89 [some (vr (some 0)), some (vi x), some (vi (sgA (M0 23) n (p + 1))), some (vi (0 : Int32)), none, none] [] M6 Q)))) else (Q none (up2 (up2 M 0 36 (M 0 36 + 1)) 0 38 (0 : Int32)))) := by
    intro hc
    have hp1 : p + 1 < n := by
      rcases hc with h | h | h
      · exact ltn h (by decide)
      · exact ltn h (by decide)
      · exact ltn h (by decide)
    rw [up2_at, if_pos rfl]
    intro M5 e5
    have S5 : RS M0 M5 nf n (p + 1 + 1) rf L := by rw [e5]; exact S1.w0.adv hp1
    have dig : ∀ (p3 : Nat) (u4 : Int32) (M6 : MT), RS M0 M6 nf n p3 rf L → p + 2 ≤ p3 → (isDA (sgA (M0 23) n p3) → cmA (M0 23) n p = (some (stp x (sgA (M0 23) n (p + 1)) (if u4 = 0 then (dgA (M0 23) n 4 p3 0).1 else -(dgA (M0 23) n 4 p3 0).1)), (dgA (M0 23) n 4 p3 0).2)) → (¬ isDA (sgA (M0 23) n p3) → cmA (M0 23) n p = (none, p3)) → WK z d j_Mo_readComparison 89 [some (vr (some 0)), some (vi x), some (vi (sgA (M0 23) n (p + 1))), some (vi u4), none, none] [] M6 Q := by
      intro p3 u4 M6 S6 h3 c1 c2
      refine M_readComparison_89 ⟨by omega, S_digR B S6 (by omega) (fun h => onI_1 ?_) (fun h => onI_0 ?_)⟩
      · have e0 : (0 : Int32) = nI (4 - 4) := rfl
        have := L_dig (z := z) (d := d) (M0 := M0) (Q := Q) (nf := nf) (n := n) (p := p3) (rf := rf) (L := L) (x := x) (y := sgA (M0 23) n (p + 1)) (u4 := u4) B (by omega) (fun M' a p' S' e' => ?_) 4 p3 0 _ (by omega) S6.w0 (by omega) (by decide) rfl
        · exact this
        · have cm := c1 h
          rw [← e'] at cm
          have hlt := cmA_lt cm
          refine q1 _ ⟨p', rf, [stp x (sgA (M0 23) n (p + 1)) (if u4 = 0 then a else -a)], 1, S', by simp only [List.length_cons, List.length_nil]; omega, by omega, by omega, Gd.one (Or.inl (stp_el h0).1), fun oc out ws r hr => Rs_cmp hp hne cm hr⟩
      · exact L_digE S6.bad (by omega) (q2 _ ⟨p3, S6.bad, fun oc out ws => Rs_cmpE hp hne (c2 h)⟩)
    refine ⟨by omega, S_signR B S5 (onI_v ?_)⟩
    have ecm : cmA (M0 23) n p = (if sgA (M0 23) n (p + 2) = 45 then
      (if isDA (sgA (M0 23) n (p + 3)) then (some (stp x (sgA (M0 23) n (p + 1)) (-(dgA (M0 23) n 4 (p + 3) 0).1)), (dgA (M0 23) n 4 (p + 3) 0).2) else (none, p + 3))
    else
      (if isDA (sgA (M0 23) n (p + 2)) then (some (stp x (sgA (M0 23) n (p + 1)) (dgA (M0 23) n 4 (p + 2) 0).1), (dgA (M0 23) n 4 (p + 2) 0).2) else (none, p + 2))) := by
      unfold cmA; rw [if_neg (by rw [hpr]; exact hx1), if_pos hc, hpr]
    have e12 : p + 1 + 1 = p + 2 := rfl
    rw [e12] at S5 ⊢
    split
    · rename_i c
      rw [if_pos c] at ecm
      have hp2 := ltn c (by decide)
      exact dig (p + 3) 1 _ (S5.adv hp2) (by omega) (fun h => by rw [ecm, if_pos h, if_neg (by decide)]) (fun h => by rw [ecm, if_neg h])
    · rename_i c
      rw [if_neg c] at ecm
      exact dig (p + 2) 0 _ S5 (by omega) (fun h => by rw [ecm, if_pos h, if_pos rfl]) (fun h => by rw [ecm, if_neg h])
  split
  · rename_i c; exact br (Or.inl c)
  · rename_i c1
    split
    · rename_i c; exact br (Or.inr (Or.inl c))
    · rename_i c2
      split
      · rename_i c; exact br (Or.inr (Or.inr c))
      · rename_i c3
        rw [up2_at, if_neg (by decide)]
        refine q2 _ ⟨p + 1, S1.bad, fun oc out ws => Rs_cmpE hp hne (bad1 (fun h => ?_))⟩
        rcases h with h | h | h
        · exact c1 h
        · exact c2 h
        · exact c3 h
end READ
