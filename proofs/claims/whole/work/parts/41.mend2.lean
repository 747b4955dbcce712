theorem sep5 {A B D E C : List Nat} {p g u : Nat} (h : ((A ++ p :: B) ++ (g :: ((D ++ u :: E) ++ C))).Nodup) : p ≠ g ∧ p ≠ u ∧ u ≠ g ∧ (∀ x, (x ∈ A ∨ x ∈ B ∨ x ∈ D ∨ x ∈ E ∨ x ∈ C) → x ≠ p ∧ x ≠ g ∧ x ≠ u) := by
  have hc := fun x => List.nodup_iff_count.mp h x
  simp only [List.count_append, List.count_cons] at hc
  refine ⟨?_, ?_, ?_, ?_⟩
  · intro c; have := hc p; rw [c] at this; simp at this; omega
  · intro c; have := hc p; rw [c] at this; simp at this; omega
  · intro c; have := hc u; rw [c] at this; simp at this; omega
  · intro x hx
    have q : 1 ≤ A.count x + B.count x + D.count x + E.count x + C.count x := by
      rcases hx with h | h | h | h | h <;> (have := List.count_pos_iff.mpr h; omega)
    have := hc x
    refine ⟨?_, ?_, ?_⟩
    · intro c; rw [← c] at this; simp at this; omega
    · intro c; rw [← c] at this; simp at this; omega
    · intro c; rw [← c] at this; simp at this; omega
theorem mend_C {M : MT} {p g u : Nat} {l r c1 c2 : Tr} {cx2 : Zc} {b2 : Bool} {h : Nat} {L : List Nat} (e : EncZ M (.branch p l r) ((b2, g, .branch u c1 c2) :: cx2))
    (hd : (ino (.branch p l r) ++ cids ((b2, g, .branch u c1 c2) :: cx2)).Nodup) (hi : ino (plug (.branch p l r) ((b2, g, .branch u c1 c2) :: cx2)) = L)
    (Bl : RB (rd M) l h) (Br : RB (rd M) r h) (B1 : RB (rd M) c1 h) (B2 : RB (rd M) c2 h) (Bc : RBc (rd M) cx2 (h + 1)) : Zp (recM M p u g) g cx2 L := by
  obtain ⟨hpg, hpu, hug, hx⟩ := sep5 (A := ino l) (B := ino r) (D := ino c1) (E := ino c2) (C := cids cx2) hd
  have ho : ∀ x, x ≠ p ∧ x ≠ g ∧ x ≠ u → rd M x = rd (recM M p u g) x := by
    intro x ⟨h1, h2, h3⟩; unfold rd recM; rw [up2_ne (by omega), up2_ne (by omega), up2_ne (by omega)]
  have hp : rd (recM M p u g) p = false := rd_f (by unfold recM; rw [up2_ne (by omega), up2_ne (by omega), up2_at])
  have hu : rd (recM M p u g) u = false := rd_f (by unfold recM; rw [up2_ne (by omega), up2_at])
  have hg : rd (recM M p u g) g = true := rd_t (by unfold recM; rw [up2_at]; decide)
  have e' : EncZ (recM M p u g) (.branch p l r) ((b2, g, .branch u c1 c2) :: cx2) := by
    refine EncZ_congr (fun x => ?_) ?_ e
    · unfold recM
      exact ⟨by rw [up2_ne (by omega), up2_ne (by omega), up2_ne (by omega)], by rw [up2_ne (by omega), up2_ne (by omega), up2_ne (by omega)], by rw [up2_ne (by omega), up2_ne (by omega), up2_ne (by omega)]⟩
    · unfold recM; rw [up2_ne (by omega), up2_ne (by omega), up2_ne (by omega)]
  have BP : RB (rd (recM M p u g)) (.branch p l r) (h + 1) := Or.inr ⟨hp, h, rfl, RB_congr (fun x h => ho x (hx x (by simp [h]))) Bl, RB_congr (fun x h => ho x (hx x (by simp [h]))) Br⟩
  have BU : RB (rd (recM M p u g)) (.branch u c1 c2) (h + 1) := Or.inr ⟨hu, h, rfl, RB_congr (fun x h => ho x (hx x (by simp [h]))) B1, RB_congr (fun x h => ho x (hx x (by simp [h]))) B2⟩
  have BC : RBc (rd (recM M p u g)) cx2 (h + 1) := RBc_congr (fun x h => ho x (hx x (by simp [h]))) Bc
  cases b2 with
  | true => exact ⟨_, _, h + 1, EncZ_t.mp e', hi, hg, hp, hu, BP, BU, BC⟩
  | false => exact ⟨_, _, h + 1, EncZ_f.mp e', hi, hg, hu, hp, BU, BP, BC⟩
theorem mend_D {M M' : MT} {t x y : Nat} {A B C D : Tr} {cx2 : Zc} {h : Nat} {L : List Nat} (e : EncZ M' (.branch t (.branch x A B) (.branch y C D)) cx2) (hi : ino (plug (.branch t (.branch x A B) (.branch y C D)) cx2) = L)
    (rt : rd M' t = false) (rx : rd M' x = true) (ry : rd M' y = true) (hc : ∀ i, (i ∈ ino A ∨ i ∈ ino B ∨ i ∈ ino C ∨ i ∈ ino D ∨ i ∈ cids cx2) → rd M i = rd M' i)
    (rA : isRedT (rd M) A = false) (rB : isRedT (rd M) B = false) (rC : isRedT (rd M) C = false) (rD : isRedT (rd M) D = false) (BA : RB (rd M) A h) (BB : RB (rd M) B h) (BC : RB (rd M) C h) (BD : RB (rd M) D h) (Bc : RBc (rd M) cx2 (h + 1)) : Fin0 M' L := by
  have cA : ∀ i ∈ ino A, rd M i = rd M' i := fun i h => hc i (by simp [h])
  have cB : ∀ i ∈ ino B, rd M i = rd M' i := fun i h => hc i (by simp [h])
  have cC : ∀ i ∈ ino C, rd M i = rd M' i := fun i h => hc i (by simp [h])
  have cD : ∀ i ∈ ino D, rd M i = rd M' i := fun i h => hc i (by simp [h])
  have BT : RB (rd M') (.branch t (.branch x A B) (.branch y C D)) (h + 1) := Or.inr ⟨rt, h, rfl,
    Or.inl ⟨rx, isRedT_congr cA ▸ rA, isRedT_congr cB ▸ rB, RB_congr cA BA, RB_congr cB BB⟩,
    Or.inl ⟨ry, isRedT_congr cC ▸ rC, isRedT_congr cD ▸ rD, RB_congr cC BC, RB_congr cD BD⟩⟩
  obtain ⟨k, hk⟩ := RB_plug BT (RBc_congr (fun i h => hc i (by simp [h])) Bc) (fun c => by rw [show isRedT (rd M') (.branch t (.branch x A B) (.branch y C D)) = rd M' t from rfl, rt] at c; cases c)
  exact ⟨_, k, EncZ_plug.mp e, hi, hk⟩
theorem EncZ_col {M : MT} {p g : Nat} {t : Tr} {cx : Zc} (e : EncZ M t cx) : EncZ (colM M p g) t cx := by
  refine EncZ_congr (fun x => ?_) ?_ e
  · unfold colM
    exact ⟨by rw [up2_ne (by omega), up2_ne (by omega)], by rw [up2_ne (by omega), up2_ne (by omega)], by rw [up2_ne (by omega), up2_ne (by omega)]⟩
  · unfold colM; rw [up2_ne (by omega), up2_ne (by omega)]
theorem col_p {M : MT} {p g : Nat} (h : p ≠ g) : colM M p g 8 p = 0 := by unfold colM; rw [up2_ne (by omega), up2_at]
theorem col_g {M : MT} {p g : Nat} : colM M p g 8 g = 1 := by unfold colM; rw [up2_at]
theorem col_o {M : MT} {p g i : Nat} (h : i ≠ p) (h2 : i ≠ g) : colM M p g 8 i = M 8 i := by unfold colM; rw [up2_ne (by omega), up2_ne (by omega)]
theorem rd_eq {M M' : MT} {i : Nat} (h : M' 8 i = M 8 i) : rd M i = rd M' i := by unfold rd; rw [h]
theorem mend_cases {M : MT} {n : Nat} {cx : Zc} {L : List Nat} (Z : Zp M n cx L) (hd : L.Nodup) (hb : ∀ x ∈ L, x < 500) :
    (M 7 n = -1 ∧ Fin0 M L) ∨
    (∃ p, p < 500 ∧ M 7 n = nI p ∧ M 8 p = 0 ∧ Fin0 M L) ∨
    (∃ p g u cx', p < 500 ∧ g < 500 ∧ u < 500 ∧ M 7 n = nI p ∧ ¬ M 8 p = 0 ∧ M 7 p = nI g ∧ uncM M p g = nI u ∧ ¬ M 8 u = 0 ∧ cx'.length < cx.length ∧ Zp (recM M p u g) g cx' L) ∨
    (∃ p g, p < 500 ∧ g < 500 ∧ M 7 n = nI p ∧ ¬ M 8 p = 0 ∧ M 7 p = nI g ∧ (uncM M p g = -1 ∨ ∃ u, u < 500 ∧ uncM M p g = nI u ∧ M 8 u = 0) ∧ (if (M 5 p = nI n ↔ M 5 g = nI p) then RiseOK L (colM M p g) p g else RiseOK L M n p ∧ RiseOK L (colM (riseM M n p) n g) n g) ∧ Fin0 (turnM M n p g) L) := by
  obtain ⟨a, b, h, e, hl, rn, ra, rb, Ba, Bb, Bc⟩ := Z
  have BN : RB (rd M) (.branch n a b) h := Or.inl ⟨rn, ra, rb, Ba, Bb⟩
  have nd : ∀ t cx, ino (plug t cx) = L → (ino t ++ cids cx).Nodup := fun t cx h => (plug_perm cx t).nodup_iff.mp (h ▸ hd)
  have bd : ∀ t cx, ino (plug t cx) = L → ∀ x ∈ ino t ++ cids cx, x < 500 := fun t cx h x hx => hb x (h ▸ (plug_perm cx t).mem_iff.mpr hx)
  have hdN := nd _ _ hl
  have hbN := bd _ _ hl
  cases cx with
  | nil => exact Or.inl ⟨e.1.1, _, h, e, hl, BN⟩
  | cons f cx1 =>
    obtain ⟨b1, p, s1⟩ := f
    have hn5 : n < 500 := hbN n (List.mem_append_left _ (List.mem_append_right _ List.mem_cons_self))
    have hp5 : p < 500 := hbN p (List.mem_append_right _ List.mem_cons_self)
    have h7n : M 7 n = nI p := e.1.1
    rcases Bc with ⟨rp, rs1, Bs1, hB, Bc1⟩ | ⟨rp, Bs1, Bc1⟩
    · cases cx1 with
      | nil => exact hB.elim
      | cons f2 cx2 =>
        obtain ⟨b2, g, s2⟩ := f2
        have rg : rd M g = false := hB
        rcases Bc1 with ⟨c, -⟩ | ⟨-, Bs2, Bc2⟩
        · rw [rg] at c; cases c
        have hg5 : g < 500 := hbN g (List.mem_append_right _ (List.mem_cons_of_mem _ (List.mem_append_right _ List.mem_cons_self)))
        have hs25 : ∀ x ∈ ino s2, x < 500 := fun x hx => hbN x (List.mem_append_right _ (List.mem_cons_of_mem _ (List.mem_append_right _ (List.mem_cons_of_mem _ (List.mem_append_left _ hx)))))
        have hs15 : ∀ x ∈ ino s1, x < 500 := fun x hx => hbN x (List.mem_append_right _ (List.mem_cons_of_mem _ (List.mem_append_left _ hx)))
        obtain ⟨hnp, hng, hpg, hx⟩ := sep4 (A := ino a) (B := ino b) (S1 := ino s1) (S2 := ino s2) (C := cids cx2) hdN
        have h7p : M 7 p = nI g := by cases b1 <;> exact e.2.1
        have ps2 : p ∉ ino s2 := fun c => (hx p (by simp [c])).2.1 rfl
        have ns1 : n ∉ ino s1 := fun c => (hx n (by simp [c])).1 rfl
        have e2 : EncC M (nI p) ((b2, g, s2) :: cx2) := by cases b1 <;> exact e.2.2.2.2.2
        have hun : uncM M p g = rootOf s2 := by
          unfold uncM
          cases b2 with
          | true => rw [if_pos e2.2.1]; exact e2.2.2.1
          | false => rw [if_neg (by rw [e2.2.2.1]; exact nroot hp5 hs25 ps2)]; exact e2.2.2.1
        cases hs2 : isRedT (rd M) s2 with
        | true =>
          cases s2 with
          | leaf _ => cases hs2
          | branch u c1 c2 =>
            have hs2 : rd M u = true := hs2
            rcases Bs2 with ⟨-, -, -, B1, B2⟩ | ⟨c, -⟩
            · refine Or.inr (Or.inr (Or.inl ⟨p, g, u, cx2, hp5, hg5, hs25 u (List.mem_append_right _ List.mem_cons_self), h7n, of_rd_t rp, h7p, hun, of_rd_t hs2, by simp only [List.length_cons]; omega, ?_⟩))
              cases b1 with
              | true => exact mend_C (EncZ_t.mp e) (nd (.branch p (.branch n a b) s1) _ hl) hl BN Bs1 B1 B2 Bc2
              | false => exact mend_C (EncZ_f.mp e) (nd (.branch p s1 (.branch n a b)) _ hl) hl Bs1 BN B1 B2 Bc2
            · rw [hs2] at c; cases c
        | false =>
          refine Or.inr (Or.inr (Or.inr ⟨p, g, hp5, hg5, h7n, of_rd_t rp, h7p, ?_, ?_⟩))
          · cases s2 with
            | leaf _ => exact Or.inl hun
            | branch u c1 c2 => exact Or.inr ⟨u, hs25 u (List.mem_append_right _ List.mem_cons_self), hun, of_rd_f hs2⟩
          · unfold turnM
            cases b1 with
            | true =>
              have f2 : M 5 p = nI n := e.2.2.1
              cases b2 with
              | true =>
                have hiff : (M 5 p = nI n ↔ M 5 g = nI p) := ⟨fun _ => e2.2.1, fun _ => f2⟩
                rw [if_pos hiff, if_pos hiff]
                have e1 : EncZ (colM M p g) (.branch p (.branch n a b) s1) ((true, g, s2) :: cx2) := EncZ_col (EncZ_t.mp e)
                have n1 := nd (.branch p (.branch n a b) s1) ((true, g, s2) :: cx2) hl
                have b1 := bd (.branch p (.branch n a b) s1) ((true, g, s2) :: cx2) hl
                obtain ⟨e3, off⟩ := rise_t e1 n1 b1
                have o8 : ∀ i, riseM (colM M p g) p g 8 i = colM M p g 8 i := fun i => off 8 i (by decide) (by decide) (by decide) (by omega)
                refine ⟨riseOK e1 n1 b1 hl, mend_D (M := M) e3 ?_ (rd_f (by rw [o8, col_p hpg])) (rd_t (by rw [o8, col_o hnp hng]; exact of_rd_t rn)) (rd_t (by rw [o8, col_g]; decide)) (fun i hi => rd_eq ?_) ra rb rs1 hs2 Ba Bb Bs1 Bs2 Bc2⟩
                · rw [← hl]; show ino (plug _ cx2) = ino (plug (.branch g (.branch p (.branch n a b) s1) s2) cx2); rw [ino_plug, ino_plug]; simp [ino_b]
                · have q := hx i (by rcases hi with h | h | h | h | h <;> simp [h])
                  rw [o8, col_o q.2.1 q.2.2]
              | false =>
                have g2 : ¬ M 5 g = nI p := by rw [e2.2.2.1]; exact nroot hp5 hs25 ps2
                have hiff : ¬ (M 5 p = nI n ↔ M 5 g = nI p) := fun c => g2 (c.mp f2)
                rw [if_neg hiff, if_neg hiff]
                obtain ⟨e1, off1⟩ := rise_t e hdN hbN
                have hl1 : ino (plug (.branch n a (.branch p b s1)) ((false, g, s2) :: cx2)) = L := by
                  rw [← hl]; show ino (plug (.branch g s2 (.branch n a (.branch p b s1))) cx2) = ino (plug (.branch g s2 (.branch p (.branch n a b) s1)) cx2); rw [ino_plug, ino_plug]; simp [ino_b]
                have e3 : EncZ (colM (riseM M n p) n g) (.branch n a (.branch p b s1)) ((false, g, s2) :: cx2) := EncZ_col e1
                obtain ⟨e4, off2⟩ := rise_f e3 (nd _ _ hl1) (bd _ _ hl1)
                have o8 : ∀ i, riseM (colM (riseM M n p) n g) n g 8 i = colM (riseM M n p) n g 8 i := fun i => off2 8 i (by decide) (by decide) (by decide) (by omega)
                have o9 : ∀ i, riseM M n p 8 i = M 8 i := fun i => off1 8 i (by decide) (by decide) (by decide) (by omega)
                refine ⟨⟨riseOK e hdN hbN hl, riseOK e3 (nd _ _ hl1) (bd _ _ hl1) hl1⟩, mend_D (M := M) e4 ?_ (rd_f (by rw [o8, col_p hng])) (rd_t (by rw [o8, col_g]; decide)) (rd_t (by rw [o8, col_o (Ne.symm hnp) hpg, o9]; exact of_rd_t rp)) (fun i hi => rd_eq ?_) hs2 ra rb rs1 Bs2 Ba Bb Bs1 Bc2⟩
                · rw [← hl]; show ino (plug _ cx2) = ino (plug (.branch g s2 (.branch p (.branch n a b) s1)) cx2); rw [ino_plug, ino_plug]; simp [ino_b]
                · have q := hx i (by rcases hi with h | h | h | h | h <;> simp [h])
                  rw [o8, col_o q.1 q.2.2, o9]
            | false =>
              have f2 : ¬ M 5 p = nI n := by rw [e.2.2.2.1]; exact nroot hn5 hs15 ns1
              cases b2 with
              | true =>
                have hiff : ¬ (M 5 p = nI n ↔ M 5 g = nI p) := fun c => f2 (c.mpr e2.2.1)
                rw [if_neg hiff, if_neg hiff]
                obtain ⟨e1, off1⟩ := rise_f e hdN hbN
                have hl1 : ino (plug (.branch n (.branch p s1 a) b) ((true, g, s2) :: cx2)) = L := by
                  rw [← hl]; show ino (plug (.branch g (.branch n (.branch p s1 a) b) s2) cx2) = ino (plug (.branch g (.branch p s1 (.branch n a b)) s2) cx2); rw [ino_plug, ino_plug]; simp [ino_b]
                have e3 : EncZ (colM (riseM M n p) n g) (.branch n (.branch p s1 a) b) ((true, g, s2) :: cx2) := EncZ_col e1
                obtain ⟨e4, off2⟩ := rise_t e3 (nd _ _ hl1) (bd _ _ hl1)
                have o8 : ∀ i, riseM (colM (riseM M n p) n g) n g 8 i = colM (riseM M n p) n g 8 i := fun i => off2 8 i (by decide) (by decide) (by decide) (by omega)
                have o9 : ∀ i, riseM M n p 8 i = M 8 i := fun i => off1 8 i (by decide) (by decide) (by decide) (by omega)
                refine ⟨⟨riseOK e hdN hbN hl, riseOK e3 (nd _ _ hl1) (bd _ _ hl1) hl1⟩, mend_D (M := M) e4 ?_ (rd_f (by rw [o8, col_p hng])) (rd_t (by rw [o8, col_o (Ne.symm hnp) hpg, o9]; exact of_rd_t rp)) (rd_t (by rw [o8, col_g]; decide)) (fun i hi => rd_eq ?_) rs1 ra rb hs2 Bs1 Ba Bb Bs2 Bc2⟩
                · rw [← hl]; show ino (plug _ cx2) = ino (plug (.branch g (.branch p s1 (.branch n a b)) s2) cx2); rw [ino_plug, ino_plug]; simp [ino_b]
                · have q := hx i (by rcases hi with h | h | h | h | h <;> simp [h])
                  rw [o8, col_o q.1 q.2.2, o9]
              | false =>
                have g2 : ¬ M 5 g = nI p := by rw [e2.2.2.1]; exact nroot hp5 hs25 ps2
                have hiff : (M 5 p = nI n ↔ M 5 g = nI p) := ⟨fun c => (f2 c).elim, fun c => (g2 c).elim⟩
                rw [if_pos hiff, if_pos hiff]
                have e1 : EncZ (colM M p g) (.branch p s1 (.branch n a b)) ((false, g, s2) :: cx2) := EncZ_col (EncZ_f.mp e)
                have n1 := nd (.branch p s1 (.branch n a b)) ((false, g, s2) :: cx2) hl
                have b1 := bd (.branch p s1 (.branch n a b)) ((false, g, s2) :: cx2) hl
                obtain ⟨e3, off⟩ := rise_f e1 n1 b1
                have o8 : ∀ i, riseM (colM M p g) p g 8 i = colM M p g 8 i := fun i => off 8 i (by decide) (by decide) (by decide) (by omega)
                refine ⟨riseOK e1 n1 b1 hl, mend_D (M := M) e3 ?_ (rd_f (by rw [o8, col_p hpg])) (rd_t (by rw [o8, col_g]; decide)) (rd_t (by rw [o8, col_o hnp hng]; exact of_rd_t rn)) (fun i hi => rd_eq ?_) hs2 rs1 ra rb Bs2 Bs1 Ba Bb Bc2⟩
                · rw [← hl]; show ino (plug _ cx2) = ino (plug (.branch g s2 (.branch p s1 (.branch n a b))) cx2); rw [ino_plug, ino_plug]; simp [ino_b]
                · have q := hx i (by rcases hi with h | h | h | h | h <;> simp [h])
                  rw [o8, col_o q.2.1 q.2.2]
    · obtain ⟨k, hk⟩ := RB_plug (cx := (b1, p, s1) :: cx1) BN (Or.inr ⟨rp, Bs1, Bc1⟩) (fun _ => Or.inr rp)
      exact Or.inr (Or.inl ⟨p, hp5, h7n, of_rd_f rp, _, k, EncZ_plug.mp e, hl, hk⟩)
