/-! ===== texts of filters: the reference reads factors, terms, filters ===== -/
def LOK (kk : Int32) (M0 M' : MT) (nf n p rf : Nat) (L : List SP) : Prop := ∃ p' rf' L' w, RS M0 M' nf n p' rf' (L ++ L') ∧ L'.length + p ≤ p' ∧ 1 ≤ w ∧ 2 * w + p ≤ p' ∧ Gd nf L' w ∧ LevOK (M0 23) kk n nf p rf p' rf' L' ∧ sgA (M0 23) n p' ≠ 38 ∧ (kk = 5 → sgA (M0 23) n p' ≠ 124)
def LER (kk : Int32) (M0 M' : MT) (nf n p rf : Nat) : Prop := ∃ p', RE M0 M' nf n p' ∧ LevEr (M0 23) kk n nf p rf p'
def SpF (z : Nat × Nat) (M0 : MT) (nf n k : Nat) : Prop := ∀ (p rf : Nat) (L : List SP) (M : MT) (d : Nat) (Q : Option AV → MT → Prop), n - p ≤ k → 3 * (n - p) + 10 ≤ d → RS M0 M nf n p rf L → (∀ M', FOK M0 M' nf n p rf L → Q none M') → (∀ M', FER M0 M' nf n p rf → Q none M') → WQ z d j_Mo_readFactor [vr (some 0)] M Q
def SpT (z : Nat × Nat) (M0 : MT) (nf n k : Nat) : Prop := ∀ (p rf : Nat) (L : List SP) (M : MT) (d : Nat) (Q : Option AV → MT → Prop), n - p ≤ k → 3 * (n - p) + 11 ≤ d → RS M0 M nf n p rf L → (∀ M', LOK 4 M0 M' nf n p rf L → Q none M') → (∀ M', LER 4 M0 M' nf n p rf → Q none M') → WQ z d j_Mo_readTerm [vr (some 0)] M Q
def SpL (z : Nat × Nat) (M0 : MT) (nf n k : Nat) : Prop := ∀ (p rf : Nat) (L : List SP) (M : MT) (d : Nat) (Q : Option AV → MT → Prop), n - p ≤ k → 3 * (n - p) + 12 ≤ d → RS M0 M nf n p rf L → (∀ M', LOK 5 M0 M' nf n p rf L → Q none M') → (∀ M', LER 5 M0 M' nf n p rf → Q none M') → WQ z d j_Mo_readFilter [vr (some 0)] M Q
section READF
variable {z : Nat × Nat} {d : Nat} {M0 M : MT} {Q : Option AV → MT → Prop} {nf n p rf k : Nat} {L : List SP}
theorem RE.bad (E : RE M0 M nf n p) : RE M0 (up2 M 0 38 1) nf n p := ⟨E.1.up (Or.inl ⟨rfl, Or.inr (Or.inr rfl)⟩), (up2_ne (by omega)).trans E.2.1, E.2.2.1, up2_at⟩
theorem zero_b : -10000 < (0 : Int32).toInt ∧ (0 : Int32).toInt < 10000 := by decide
theorem L_trE (E : RE M0 M nf n p) (hd : 0 < d) (q : Q none M) : WK z d j_Mo_readTerm 4 [some (vr (some 0))] [] M Q :=
  M_readTerm_4 ⟨hd, S_signE E (onI_v (by rw [if_neg (by decide)]; exact q))⟩
theorem L_frE (E : RE M0 M nf n p) (hd : 0 < d) (q : Q none M) : WK z d j_Mo_readFilter 4 [some (vr (some 0))] [] M Q :=
  M_readFilter_4 ⟨hd, S_signE E (onI_v (by rw [if_neg (by decide)]; exact q))⟩
theorem L_term (B : BT M0 nf n) (HF : SpF z M0 nf n k) (hk : n - p ≤ k) (hL : L.length ≤ p) (hd : 3 * (n - p) + 11 ≤ d) (q1 : ∀ M', LOK 4 M0 M' nf n p rf L → Q none M') (q2 : ∀ M', LER 4 M0 M' nf n p rf → Q none M') : ∀ (j p1 rf1 : Nat) (L1 : List SP) (w1 : Nat) (M1 : MT), n - p1 ≤ j → RS M0 M1 nf n p1 rf1 (L ++ L1) → L1.length + p ≤ p1 → 1 ≤ w1 → 2 * w1 + p ≤ p1 → Gd nf L1 w1 → LevOK (M0 23) 4 n nf p rf p1 rf1 L1 → WK z d j_Mo_readTerm 4 [some (vr (some 0))] [] M1 Q := by
  intro j
  induction j with
  | zero =>
    intro p1 rf1 L1 w1 M1 hj S hl hw hw2 g lv
    refine M_readTerm_4 ⟨by omega, S_signR B S (onI_v ?_)⟩
    split
    · rename_i c; have := (lt_of_sg c (by decide)).1; omega
    · rename_i c; exact q1 _ ⟨p1, rf1, L1, w1, S, hl, hw, hw2, g, lv, c, fun h => absurd h (by decide)⟩
  | succ j ih =>
    intro p1 rf1 L1 w1 M1 hj S hl hw hw2 g lv
    refine M_readTerm_4 ⟨by omega, S_signR B S (onI_v ?_)⟩
    split
    · rename_i c
      have hp1 := (lt_of_sg c (by decide)).1
      refine ⟨by omega, HF (p1 + 1) rf1 (L ++ L1) _ (d - 1) _ (by omega) (by omega) (S.adv hp1) (fun M5 ok => ⟨by omega, ?_⟩) (fun M5 er => ⟨by omega, ?_⟩)⟩
      · obtain ⟨p2, rf2, L2, w2, S2, hl2, hw3, hw4, g2, f2⟩ := ok
        refine S_partR B S2 (by simp only [List.length_append]; omega) zero_b (fun M8 S8 => ?_)
        rw [stp38, List.append_assoc, List.append_assoc, ← List.append_assoc L1] at S8
        exact ih p2 rf2 (L1 ++ L2 ++ [(4, 0, 0, 0)]) (w1 + w2) M8 (by omega) S8 (by simp only [List.length_append, List.length_cons, List.length_nil]; omega) (by omega) (by omega) (Gd.bin (Or.inl rfl) g g2 hw) (lv.and c f2)
      · obtain ⟨p2, E2, f2⟩ := er
        exact S_partE E2 (L_trE E2 (by omega) (q2 _ ⟨p2, E2, LevEr.and lv c f2⟩))
    · rename_i c; exact q1 _ ⟨p1, rf1, L1, w1, S, hl, hw, hw2, g, lv, c, fun h => absurd h (by decide)⟩
theorem SpF.term (B : BT M0 nf n) (HF : SpF z M0 nf n k) : SpT z M0 nf n k := by
  intro p rf L M d Q hk hd S q1 q2
  refine M_readTerm_0 ⟨by omega, HF p rf L M (d - 1) _ hk (by omega) S (fun M1 ok => ?_) (fun M1 er => ?_)⟩
  · obtain ⟨p2, rf2, L2, w2, S2, hl2, hw3, hw4, g2, f2⟩ := ok
    exact L_term B HF hk S.2.2.2.2.2.2.2 hd q1 q2 (n - p2) p2 rf2 L2 w2 M1 (Nat.le_refl _) S2 hl2 hw3 hw4 g2 f2.lev
  · obtain ⟨p2, E2, f2⟩ := er
    exact L_trE E2 (by omega) (q2 _ ⟨p2, E2, f2.lev⟩)
theorem L_filt (B : BT M0 nf n) (HT : SpT z M0 nf n k) (hk : n - p ≤ k) (hL : L.length ≤ p) (hd : 3 * (n - p) + 12 ≤ d) (q1 : ∀ M', LOK 5 M0 M' nf n p rf L → Q none M') (q2 : ∀ M', LER 5 M0 M' nf n p rf → Q none M') : ∀ (j p1 rf1 : Nat) (L1 : List SP) (w1 : Nat) (M1 : MT), n - p1 ≤ j → RS M0 M1 nf n p1 rf1 (L ++ L1) → L1.length + p ≤ p1 → 1 ≤ w1 → 2 * w1 + p ≤ p1 → Gd nf L1 w1 → LevOK (M0 23) 5 n nf p rf p1 rf1 L1 → sgA (M0 23) n p1 ≠ 38 → WK z d j_Mo_readFilter 4 [some (vr (some 0))] [] M1 Q := by
  intro j
  induction j with
  | zero =>
    intro p1 rf1 L1 w1 M1 hj S hl hw hw2 g lv h38
    refine M_readFilter_4 ⟨by omega, S_signR B S (onI_v ?_)⟩
    split
    · rename_i c; have := (lt_of_sg c (by decide)).1; omega
    · rename_i c; exact q1 _ ⟨p1, rf1, L1, w1, S, hl, hw, hw2, g, lv, h38, fun _ => c⟩
  | succ j ih =>
    intro p1 rf1 L1 w1 M1 hj S hl hw hw2 g lv h38
    refine M_readFilter_4 ⟨by omega, S_signR B S (onI_v ?_)⟩
    split
    · rename_i c
      have hp1 := (lt_of_sg c (by decide)).1
      refine ⟨by omega, HT (p1 + 1) rf1 (L ++ L1) _ (d - 1) _ (by omega) (by omega) (S.adv hp1) (fun M5 ok => ⟨by omega, ?_⟩) (fun M5 er => ⟨by omega, ?_⟩)⟩
      · obtain ⟨p2, rf2, L2, w2, S2, hl2, hw3, hw4, g2, f2, n38, -⟩ := ok
        refine S_partR B S2 (by simp only [List.length_append]; omega) zero_b (fun M8 S8 => ?_)
        rw [stp124, List.append_assoc, List.append_assoc, ← List.append_assoc L1] at S8
        exact ih p2 rf2 (L1 ++ L2 ++ [(5, 0, 0, 0)]) (w1 + w2) M8 (by omega) S8 (by simp only [List.length_append, List.length_cons, List.length_nil]; omega) (by omega) (by omega) (Gd.bin (Or.inr rfl) g g2 hw) (lv.or c f2) n38
      · obtain ⟨p2, E2, f2⟩ := er
        exact S_partE E2 (L_frE E2 (by omega) (q2 _ ⟨p2, E2, LevEr.or lv c f2⟩))
    · rename_i c; exact q1 _ ⟨p1, rf1, L1, w1, S, hl, hw, hw2, g, lv, h38, fun _ => c⟩
theorem SpT.filt (B : BT M0 nf n) (HT : SpT z M0 nf n k) : SpL z M0 nf n k := by
  intro p rf L M d Q hk hd S q1 q2
  refine M_readFilter_0 ⟨by omega, HT p rf L M (d - 1) _ hk (by omega) S (fun M1 ok => ?_) (fun M1 er => ?_)⟩
  · obtain ⟨p2, rf2, L2, w2, S2, hl2, hw3, hw4, g2, f2, n38, -⟩ := ok
    exact L_filt B HT hk S.2.2.2.2.2.2.2 hd q1 q2 (n - p2) p2 rf2 L2 w2 M1 (Nat.le_refl _) S2 hl2 hw3 hw4 g2 f2.up n38
  · obtain ⟨p2, E2, f2⟩ := er
    exact L_frE E2 (by omega) (q2 _ ⟨p2, E2, f2.up⟩)
theorem SpF_step (B : BT M0 nf n) (H : ∀ k', k' < k → SpF z M0 nf n k' ∧ SpL z M0 nf n k') : SpF z M0 nf n k := by
  intro p rf L M d Q hk hd S q1 q2
  have hL := S.2.2.2.2.2.2.2
  refine M_readFactor_0 ⟨by omega, S_signR B S (onI_v ?_)⟩
  have sub : p < n → n - (p + 1) ≤ k - 1 ∧ k - 1 < k := fun h => by omega
  split
  · rename_i c
    obtain ⟨hp, e⟩ := lt_of_sg c (by decide)
    refine ⟨by omega, (H (k - 1) (sub hp).2).1 (p + 1) rf L _ (d - 1) _ (sub hp).1 (by omega) (S.adv hp) (fun M5 ok => ⟨by omega, ?_⟩) (fun M5 er => ⟨by omega, ?_⟩)⟩
    · obtain ⟨p2, rf2, L2, w2, S2, hl2, hw3, hw4, g2, f2⟩ := ok
      refine S_partR B S2 (by simp only [List.length_append]; omega) zero_b (fun M8 S8 => ?_)
      rw [stp33, List.append_assoc] at S8
      exact q1 _ ⟨p2, rf2, L2 ++ [(3, 0, 0, 0)], w2, S8, by simp only [List.length_append, List.length_cons, List.length_nil]; omega, hw3, by omega, g2.not, f2.not hp e⟩
    · obtain ⟨p2, E2, f2⟩ := er
      exact S_partE E2 (q2 _ ⟨p2, E2, f2.not hp e⟩)
  rename_i n33
  split
  · rename_i c
    obtain ⟨hp, e⟩ := lt_of_sg c (by decide)
    exact ⟨by omega, S_ref B S hp e (by omega) q1 q2⟩
  rename_i n35
  split
  · rename_i c
    obtain ⟨hp, e⟩ := lt_of_sg c (by decide)
    refine ⟨by omega, (H (k - 1) (sub hp).2).2 (p + 1) rf L _ (d - 1) _ (sub hp).1 (by omega) (S.adv hp) (fun M5 ok => ⟨by omega, ?_⟩) (fun M5 er => ⟨by omega, ?_⟩)⟩
    · obtain ⟨p2, rf2, L2, w2, S2, hl2, hw3, hw4, g2, f2, n38, n124⟩ := ok
      refine S_signR B S2 (onI_v ?_)
      split
      · rename_i c2
        have hp2 := (lt_of_sg c2 (by decide)).1
        exact q1 _ ⟨p2 + 1, rf2, L2, w2, S2.adv hp2, by omega, hw3, by omega, g2, FacOK.opn hp e f2 c2⟩
      · rename_i c2
        exact q2 _ ⟨p2, S2.bad, FacEr.cls hp e f2 c2 (n124 rfl) n38⟩
    · obtain ⟨p2, E2, f2⟩ := er
      refine S_signE E2 (onI_v ?_)
      rw [if_neg (by decide)]
      exact q2 _ ⟨p2, E2.bad, FacEr.opn hp e f2⟩
  rename_i n40
  have cmp : ∀ (v x : Int32), sgA (M0 23) n p = v → v ≠ -1 → prA v = x → x ≠ -1 → (¬ x = 33 ∧ ¬ x = 38 ∧ ¬ x = 124 ∧ ¬ x = 35) → 0 < d ∧ WQ z (d - 1) j_Mo_readComparison [vr (some 0), vi x] M (fun _ M23 => Q none M23) := by
    intro v x hv h1 hx hx1 hn
    obtain ⟨hp, e⟩ := lt_of_sg hv h1
    refine ⟨by omega, S_cmpR B S hp (by rw [e]; exact hx) hx1 ⟨fun z => n33 (by rw [hv, ← e, z]), fun z => n40 (by rw [hv, ← e, z]), fun z => n35 (by rw [hv, ← e, z])⟩ hn (by omega) q1 q2⟩
  split
  · rename_i c; exact cmp 104 1 c (by decide) (by decide) (by decide) (by decide)
  rename_i m1
  split
  · rename_i c; exact cmp 108 0 c (by decide) (by decide) (by decide) (by decide)
  rename_i m2
  split
  · rename_i c; exact cmp 110 3 c (by decide) (by decide) (by decide) (by decide)
  rename_i m3
  split
  · rename_i c; exact cmp 119 2 c (by decide) (by decide) (by decide) (by decide)
  rename_i m4
  refine q2 _ ⟨p, S.bad, fun oc out ws => ?_⟩
  by_cases hp : p < n
  · have e : sgA (M0 23) n p = M0 23 p := if_pos hp
    refine Rs_cmpE hp ⟨fun z => n33 (e.trans z), fun z => n40 (e.trans z), fun z => n35 (e.trans z)⟩ ?_
    unfold cmA
    rw [if_pos (by unfold prA; rw [if_neg m1, if_neg m2, if_neg m3, if_neg m4])]
  · exact Rs_end hp
theorem Sp_all (B : BT M0 nf n) : ∀ k, SpF z M0 nf n k ∧ SpL z M0 nf n k := by
  intro k
  induction k using Nat.strongRecOn with
  | _ k ih =>
    have HF := SpF_step B ih
    exact ⟨HF, (HF.term B).filt B⟩
/-- what the reference's memory is when a text was read -/
def psM (M : MT) (nf : Nat) : MT := up2 (up2 (up2 (up2 (thn M 0) 0 36 0) 0 37 0) 0 38 0) 18 nf 0
theorem S_parseFilter {FL : Nat → List SP} (hF : RFs M FL nf) (hn : n ≤ 60) (h35 : M 0 35 = nI n) (h23 : ∀ k, k < n → ix (M 23 k) 256) (hd : 200 < d) (q1 : nf = 8 → Q (some (vi 0)) (thn M 1))
    (q2 : ∀ p M', nf < 8 → RsA (M 23) n nf 0 true 0 0 [] [] (none, p) → p ≤ 60 → EP nf (thn M 0) M' → M' 0 36 = nI p → Q (some (vi (-100 - nI p))) (up2 (up2 M' 0 38 1) 0 35 0))
    (q3 : ∀ L M', nf < 8 → RsA (M 23) n nf 0 true 0 0 [] [] (some L, n) → wf nf L 0 → EP nf (thn M 0) M' → RFs (adM (up2 (up2 M' 0 38 0) 0 35 0) nf 6 0 0 0) (up1 FL nf L) (nf + 1) → Q (some (vi (nI nf))) (adM (up2 (up2 M' 0 38 0) 0 35 0) nf 6 0 0 0)) : WQ z d j_Mo_parseFilter [vr (some 0)] M Q := by
  have h8 := hF.1
  have F0 := RFs_thn (k := 0) hF
  have e24 : (up2 M 0 0 0) 0 24 = nI nf := F0.2.1
  refine M_parseFilter_0 ?_
  rw [e24]
  by_cases c8 : nf = 8
  · rw [c8, if_pos (show nI 8 = 8 from rfl)]
    exact S_fails' (by omega) (q1 c8)
  · have hnf : nf < 8 := by omega
    rw [if_neg (show ¬ nI nf = 8 from fun z => c8 (nI_inj (b := 8) (by omega) (by omega) z))]
    intro M1 e1
    have f24 : (up2 M1 0 38 0) 0 24 = nI nf := by rw [e1, up2_ne (by omega), up2_ne (by omega), up2_ne (by omega)]; exact e24
    rw [f24, nI_clamp (by omega)]
    refine ⟨ix_nI hnf (by decide), fun M2 e2 => ⟨by omega, ?_⟩⟩
    have B : BT (thn M 0) nf n := ⟨F0.2.1, hnf, (thn_f (by decide)).trans h35, hn, fun k hk => by rw [thn_ne (by decide)]; exact h23 k hk⟩
    have t23 : (thn M 0) 23 = M 23 := by funext k; exact thn_ne (by decide)
    have S0 : RS (thn M 0) M2 nf n 0 0 [] := by
      have E : EP nf (thn M 0) M2 := by
        rw [e2, e1]
        exact ((EP.up (EP.up (EP.up (fun a k _ _ _ => rfl) (Or.inl ⟨rfl, Or.inl rfl⟩)) (Or.inl ⟨rfl, Or.inr (Or.inl rfl)⟩)) (Or.inl ⟨rfl, Or.inr (Or.inr rfl)⟩)).up (Or.inr (Or.inl ⟨rfl, rfl⟩)))
      refine ⟨E, ?_, by omega, ?_, by omega, ?_, ⟨?_, rfl, fun k hk => absurd hk (Nat.not_lt_zero _)⟩, Nat.le_refl _⟩
      · rw [e2, e1, up2_ne (by omega), up2_ne (by omega), up2_ne (by omega), up2_at]; rfl
      · rw [e2, e1, up2_ne (by omega), up2_ne (by omega), up2_at]; rfl
      · rw [e2, up2_ne (by omega), up2_at]
      · rw [e2, up2_at]; rfl
    refine (Sp_all (z := z) B n).2 0 0 [] M2 (d - 1) _ (by omega) (by omega) S0 (fun M3 ok => ?_) (fun M3 er => ?_)
    · obtain ⟨p2, rf2, L2, w2, S2, hl2, hw3, hw4, g2, f2, n38, n124⟩ := ok
      rw [t23] at f2 n38 n124
      rw [List.nil_append] at S2
      obtain ⟨s1, s2, s3, s4, s5, s6, s7, s8⟩ := S2
      have f35 : M3 0 35 = nI n := by rw [s1 0 35 (by omega) (by omega) (by omega)]; exact B.2.2.1
      rw [if_pos s6, s2, f35]
      by_cases cp : p2 < n
      · rw [if_pos (nI_lt (by omega) (by omega)), up2_ne (by omega), up2_at, if_neg (by decide), up2_ne (by omega), up2_ne (by omega), s2]
        refine q2 p2 M3 hnf (f2 0 [] [] _ (Or.inl rfl) (fun o w e => Rs_bad (n124 rfl) n38 (fun z => by omega) (Or.inl cp))) (by omega) s1 s2
      · rw [if_neg (nI_nlt (by omega) (by omega)), up2_ne (by omega), up2_at, if_pos rfl]
        have ep2 : p2 = n := by omega
        subst ep2
        have wL : wf nf L2 0 := g2.wf (by omega)
        have hll : L2.length ≤ 60 := by omega
        have FA' : RFs (up2 (up2 M3 0 38 0) 0 35 0) FL nf := by
          refine ⟨h8, ?_, fun f hf => ⟨(F0.2.2 f hf).1, (F0.2.2 f hf).2.loc rfl (fun a h1 h2 => ?_) (fun a k h1 h2 h3 => ?_)⟩⟩
          · rw [up2_ne (by omega), up2_ne (by omega), s1 0 24 (by omega) (by omega) (by omega)]; exact F0.2.1
          · rw [up2_ne (by omega), up2_ne (by omega)]; exact s1 a f (by omega) (by omega) (by omega)
          · rw [up2_ne (by omega), up2_ne (by omega)]; exact s1 a _ (by omega) (by omega) (by omega)
        refine ⟨by omega, S_adds FA' (by omega) (fun h => absurd h c8) (fun _ => onI_v (q3 L2 M3 hnf ?_ wL s1 (RFs_add FA' hnf wL ?_)))⟩
        · refine f2 0 [] [] _ (Or.inl rfl) (fun o w e => ?_)
          have := Rs_done (tx := M 23) (n := p2) (nf := nf) (rf := rf2) (out := o) (ws := w) (p := p2) (by omega)
          rw [e] at this
          exact this
        · refine Or.inr (Or.inr (Or.inr (Or.inr (Or.inr (Or.inr ⟨adM_14, L2.length, hll, ?_, ?_, fun k hk => ?_⟩)))))
          · rw [adM_ne (by omega) (by omega), up2_ne (by omega), up2_ne (by omega)]; exact s7.1
          · rw [up1_on]
            refine Eq.trans s7.2.1.symm (List.map_congr_left (fun k hk => ?_))
            unfold prt
            rw [adM_ne (by omega) (by omega), adM_ne (by omega) (by omega), adM_ne (by omega) (by omega), up2_ne (by omega), up2_ne (by omega), up2_ne (by omega), up2_ne (by omega), up2_ne (by omega), up2_ne (by omega)]
          · rw [adM_ne (by omega) (by omega), up2_ne (by omega), up2_ne (by omega)]; exact s7.2.2 k hk
    · obtain ⟨p2, E2, f2⟩ := er
      rw [t23] at f2
      rw [if_neg (by rw [E2.2.2.2]; decide), up2_ne (by omega), up2_at, if_neg (by decide), up2_ne (by omega), up2_ne (by omega), E2.2.1]
      exact q2 p2 M3 hnf (f2 0 [] [] (Or.inl rfl)) (by have := E2.2.2.1; omega) E2.1 E2.2.1
end READF
