/-! ===== what the reader with a stack makes is proper ===== -/
def wfp (f : Nat) : List SP → Nat → Nat → Prop
  | [], n, m => n = m
  | s :: L, n, m => ((s.1 = 0 ∨ s.1 = 1 ∨ (s.1 = 2 ∧ ∃ r, r < f ∧ s.2.1 = nI r)) ∧ n < 31 ∧ wfp f L (n + 1) m) ∨ (s.1 = 3 ∧ 1 ≤ n ∧ wfp f L n m) ∨ ((s.1 = 4 ∨ s.1 = 5) ∧ 2 ≤ n ∧ wfp f L (n - 1) m)
def binA : List SP → Nat
  | [] => 0
  | s :: W => binA W + if s.1 = 4 ∨ s.1 = 5 then 1 else 0
def opnA : List SP → Nat
  | [] => 0
  | s :: W => opnA W + if s.1 = 6 then 1 else 0
def kdA (W : List SP) : Prop := ∀ s, s ∈ W → s.1 = 3 ∨ s.1 = 4 ∨ s.1 = 5 ∨ s.1 = 6
section RDP
variable {f : Nat} {tx : Nat → Int32} {n nf p rf oc : Nat} {out W L L' : List SP} {k : Int32} {s : SP} {c m i : Nat}
theorem wfp_wf : ∀ {L : List SP} {i : Nat}, wfp f L i 1 → wf f L i := by
  intro L
  induction L with
  | nil => intro i h; exact h
  | cons s L ih =>
    intro i h
    rcases h with ⟨h1, h2, h3⟩ | ⟨h1, h2, h3⟩ | ⟨h1, h2, h3⟩
    · exact Or.inl ⟨h1, h2, ih h3⟩
    · exact Or.inr (Or.inl ⟨h1, h2, ih h3⟩)
    · exact Or.inr (Or.inr ⟨h1, h2, ih h3⟩)
theorem wfp_app : ∀ {L : List SP} {i : Nat}, wfp f L i m → wfp f L' m c → wfp f (L ++ L') i c := by
  intro L
  induction L with
  | nil => intro i h h'; rw [show i = m from h]; exact h'
  | cons s L ih =>
    intro i h h'
    rcases h with ⟨h1, h2, h3⟩ | ⟨h1, h2, h3⟩ | ⟨h1, h2, h3⟩
    · exact Or.inl ⟨h1, h2, ih h3 h'⟩
    · exact Or.inr (Or.inl ⟨h1, h2, ih h3 h'⟩)
    · exact Or.inr (Or.inr ⟨h1, h2, ih h3 h'⟩)
theorem kdA.tl (h : kdA (s :: W)) : kdA W := fun x hx => h x (List.mem_cons_of_mem _ hx)
theorem kdA.cn (h : kdA W) (hs : s.1 = 3 ∨ s.1 = 4 ∨ s.1 = 5 ∨ s.1 = 6) : kdA (s :: W) := by
  intro x hx
  rcases List.mem_cons.mp hx with rfl | hx
  · exact hs
  · exact h x hx
/-- releases keep what is on the stack in step with what waits -/
theorem rl_inv (hk : k < 6) : ∀ {W out : List SP}, wfp f out 0 (binA W + 1) → kdA W → wfp f (rlA k out W).1 0 (binA (rlA k out W).2 + 1) ∧ kdA (rlA k out W).2 ∧ opnA (rlA k out W).2 = opnA W ∧ binA (rlA k out W).2 ≤ binA W ∧ ((rlA k out W).2 = [] ∨ ∃ s w, (rlA k out W).2 = s :: w ∧ k < s.1) := by
  intro W
  induction W with
  | nil => intro out h hd; exact ⟨h, hd, rfl, Nat.le_refl _, Or.inl rfl⟩
  | cons s W ih =>
    intro out h hd
    by_cases c : k < s.1
    · have e : rlA k out (s :: W) = (out, s :: W) := by rw [rlA, if_pos c]
      rw [e]; exact ⟨h, hd, rfl, Nat.le_refl _, Or.inr ⟨s, W, rfl, c⟩⟩
    · rw [rl_go c]
      have hs := hd s List.mem_cons_self
      have key : wfp f (out ++ [s]) 0 (binA W + 1) ∧ opnA (s :: W) = opnA W ∧ binA W ≤ binA (s :: W) := by
        rcases hs with e | e | e | e
        · have b : binA (s :: W) = binA W := by show _ + _ = _; rw [if_neg (by rw [e]; decide)]; rfl
          have o : opnA (s :: W) = opnA W := by show _ + _ = _; rw [if_neg (by rw [e]; decide)]; rfl
          rw [b] at h ⊢
          exact ⟨wfp_app h (Or.inr (Or.inl ⟨e, by omega, rfl⟩)), o, Nat.le_refl _⟩
        · have b : binA (s :: W) = binA W + 1 := by show _ + _ = _; rw [if_pos (Or.inl e)]
          have o : opnA (s :: W) = opnA W := by show _ + _ = _; rw [if_neg (by rw [e]; decide)]; rfl
          rw [b] at h ⊢
          exact ⟨wfp_app h (Or.inr (Or.inr ⟨Or.inl e, by omega, by show binA W + 1 + 1 - 1 = _; omega⟩)), o, by omega⟩
        · have b : binA (s :: W) = binA W + 1 := by show _ + _ = _; rw [if_pos (Or.inr e)]
          have o : opnA (s :: W) = opnA W := by show _ + _ = _; rw [if_neg (by rw [e]; decide)]; rfl
          rw [b] at h ⊢
          exact ⟨wfp_app h (Or.inr (Or.inr ⟨Or.inr e, by omega, by show binA W + 1 + 1 - 1 = _; omega⟩)), o, by omega⟩
        · rw [e] at c; exact (c hk).elim
      obtain ⟨r1, r2, r3, r4, r5⟩ := ih key.1 hd.tl
      exact ⟨r1, r2, r3.trans key.2.1.symm, by omega, r5⟩
def IvA (nf p : Nat) (due : Bool) (oc : Nat) (out W : List SP) : Prop := wfp nf out 0 (binA W + if due = true then 0 else 1) ∧ kdA W ∧ opnA W = oc ∧ 2 * (binA W + if due = true then 0 else 1) ≤ p
theorem Iv_push {s : SP} {p' : Nat} (hp : p + 2 ≤ p') (h6 : p < 60) (hs : s.1 = 0 ∨ s.1 = 1 ∨ (s.1 = 2 ∧ ∃ r, r < nf ∧ s.2.1 = nI r)) (h : IvA nf p true oc out W) : IvA nf p' false oc (rlA 3 (out ++ [s]) W).1 (rlA 3 (out ++ [s]) W).2 := by
  obtain ⟨h1, h2, h3, h4⟩ := h
  rw [if_pos rfl] at h1 h4
  have w1 : wfp nf (out ++ [s]) 0 (binA W + 1) := wfp_app h1 (Or.inl ⟨hs, by omega, rfl⟩)
  obtain ⟨r1, r2, r3, r4, r5⟩ := rl_inv (k := 3) (by decide) w1 h2
  unfold IvA
  rw [if_neg (by decide)]
  exact ⟨r1, r2, r3.trans h3, by omega⟩
theorem stp_pr {x b v : Int32} (hx : prA x ≠ -1) : (stp (prA x) b v).1 = 0 ∧ ¬ prA x = 33 ∧ ¬ prA x = 38 ∧ ¬ prA x = 124 ∧ ¬ prA x = 35 := by
  have : ¬ prA x = 33 ∧ ¬ prA x = 38 ∧ ¬ prA x = 124 ∧ ¬ prA x = 35 := by
    unfold prA at *
    split
    · decide
    · split
      · decide
      · split
        · decide
        · split
          · decide
          · rename_i h1 h2 h3 h4
            rw [if_neg h1, if_neg h2, if_neg h3, if_neg h4] at hx
            exact (hx rfl).elim
  exact ⟨(stp_el this).1, this⟩
theorem cmA_0 {s : SP} {p' : Nat} (h : cmA tx n p = (some s, p')) : s.1 = 0 := by
  unfold cmA at h
  split at h
  · cases h
  · rename_i h0
    split at h
    · split at h
      · split at h
        · cases h; exact (stp_pr h0).1
        · cases h
      · split at h
        · cases h; exact (stp_pr h0).1
        · cases h
    · cases h
theorem Rn_wf (h8 : nf ≤ 8) (hn : n ≤ 60) : ∀ (f p : Nat) (due : Bool) (oc rf : Nat) (out W : List SP) (L : List SP) (p' : Nat), IvA nf p due oc out W → rnA tx n nf f p due oc rf out W = some (some L, p') → wf nf L 0 := by
  intro f
  induction f with
  | zero => intro p due oc rf out W L p' _ h; cases h
  | succ f ih =>
    intro p due oc rf out W L p' iv h
    rw [rnA] at h
    by_cases hp : p < n
    · rw [if_pos hp] at h
      by_cases hd : due = true
      · rw [if_pos hd] at h
        subst hd
        by_cases h1 : tx p = 33
        · rw [if_pos h1] at h
          refine ih _ _ _ _ _ _ _ _ ⟨?_, iv.2.1.cn (Or.inl rfl), by exact iv.2.2.1, ?_⟩ h
          · exact iv.1
          · have := iv.2.2.2; show 2 * (binA W + 0 + 0) ≤ _; rw [if_pos rfl] at this; omega
        rw [if_neg h1] at h
        by_cases h2 : tx p = 40
        · rw [if_pos h2] at h
          refine ih _ _ _ _ _ _ _ _ ⟨?_, iv.2.1.cn (Or.inr (Or.inr (Or.inr rfl))), ?_, ?_⟩ h
          · exact iv.1
          · show opnA W + 1 = _; rw [iv.2.2.1]
          · have := iv.2.2.2; show 2 * (binA W + 0 + 0) ≤ _; rw [if_pos rfl] at this; omega
        rw [if_neg h2] at h
        by_cases h3 : tx p = 35
        · rw [if_pos h3] at h
          cases e : rfA tx n nf p rf with
          | mk o q =>
            rw [e] at h
            cases o with
            | none => cases h
            | some s =>
              obtain ⟨e1, e2, e3, e4⟩ := rfA_eq e
              have hix : ix (sgA tx n (p + 1) - 48) nf := ix_iff.mpr e4
              obtain ⟨r, hr2, er⟩ := ix_ex hix (by omega)
              exact ih _ _ _ _ _ _ _ _ (Iv_push (by omega) (by omega) (Or.inr (Or.inr ⟨by rw [e3], r, hr2, by rw [e3]; exact er⟩)) iv) h
        rw [if_neg h3] at h
        cases e : cmA tx n p with
        | mk o q =>
          rw [e] at h
          cases o with
          | none => cases h
          | some s =>
            have := cmA_lt e
            exact ih _ _ _ _ _ _ _ _ (Iv_push (by omega) (by omega) (Or.inl (cmA_0 e)) iv) h
      · rw [if_neg hd] at h
        have hd : due = false := by simpa using hd
        subst hd
        have h1' := iv.1
        have h4' := iv.2.2.2
        rw [if_neg (by decide)] at h1' h4'
        by_cases h1 : tx p = 124
        · rw [if_pos h1] at h
          obtain ⟨r1, r2, r3, r4, r5⟩ := rl_inv (k := 5) (by decide) h1' iv.2.1
          refine ih _ _ _ _ _ _ _ _ ⟨r1, r2.cn (Or.inr (Or.inr (Or.inl rfl))), by exact r3.trans iv.2.2.1, ?_⟩ h
          show 2 * (binA _ + 1 + 0) ≤ _; omega
        rw [if_neg h1] at h
        by_cases h2 : tx p = 38
        · rw [if_pos h2] at h
          obtain ⟨r1, r2, r3, r4, r5⟩ := rl_inv (k := 4) (by decide) h1' iv.2.1
          refine ih _ _ _ _ _ _ _ _ ⟨r1, r2.cn (Or.inr (Or.inl rfl)), by exact r3.trans iv.2.2.1, ?_⟩ h
          show 2 * (binA _ + 1 + 0) ≤ _; omega
        rw [if_neg h2] at h
        by_cases h3 : tx p = 41 ∧ 0 < oc
        · rw [if_pos h3] at h
          obtain ⟨r1, r2, r3, r4, r5⟩ := rl_inv (k := 5) (by decide) h1' iv.2.1
          rcases r5 with r5 | ⟨s, w, r5, r6⟩
          · rw [r5] at r3; have := iv.2.2.1; rw [← r3] at this; have := h3.2; change 0 = oc at *; omega
          · rw [r5] at r1 r2 r3 r4 h
            have hs6 : s.1 = 6 := by
              rcases r2 s List.mem_cons_self with e | e | e | e
              · rw [e] at r6; exact absurd r6 (by decide)
              · rw [e] at r6; exact absurd r6 (by decide)
              · rw [e] at r6; exact absurd r6 (by decide)
              · exact e
            have b : binA (s :: w) = binA w := by show _ + _ = _; rw [if_neg (by rw [hs6]; decide)]; rfl
            have o : opnA (s :: w) = opnA w + 1 := by show _ + _ = _; rw [if_pos hs6]
            rw [b] at r1 r4
            rw [o] at r3
            obtain ⟨t1, t2, t3, t4, t5⟩ := rl_inv (k := 3) (by decide) r1 r2.tl
            refine ih _ _ _ _ _ _ _ _ ⟨t1, t2, t3.trans ?_, ?_⟩ h
            · have := iv.2.2.1; omega
            · show 2 * (binA _ + 1) ≤ _; omega
        rw [if_neg h3] at h
        cases h
    · rw [if_neg hp] at h
      by_cases hd : due = true ∨ 0 < oc
      · rw [if_pos hd] at h; cases h
      · rw [if_neg hd] at h
        have hdu : due = false := by
          cases due with
          | false => rfl
          | true => exact (hd (Or.inl rfl)).elim
        subst hdu
        have h1' := iv.1
        rw [if_neg (by decide)] at h1'
        obtain ⟨r1, r2, r3, r4, r5⟩ := rl_inv (k := 5) (by decide) h1' iv.2.1
        have hw : (rlA 5 out W).2 = [] := by
          rcases r5 with r5 | ⟨s, w, r5, r6⟩
          · exact r5
          · exfalso
            rw [r5] at r2 r3
            have hs6 : s.1 = 6 := by
              rcases r2 s List.mem_cons_self with e | e | e | e
              · rw [e] at r6; exact absurd r6 (by decide)
              · rw [e] at r6; exact absurd r6 (by decide)
              · rw [e] at r6; exact absurd r6 (by decide)
              · exact e
            have o : opnA (s :: w) = opnA w + 1 := by show _ + _ = _; rw [if_pos hs6]
            have := iv.2.2.1
            omega
        rw [hw] at r1
        have h := Option.some.inj h
        have e : (rlA 5 out W).1 = L := Option.some.inj (congrArg Prod.fst h)
        rw [← e]
        exact wfp_wf r1
theorem Rs_wf (h8 : nf ≤ 8) (hn : n ≤ 60) (h : RsA tx n nf 0 true 0 0 [] [] (some L, p)) : wf nf L 0 := by
  obtain ⟨f, h⟩ := h
  exact Rn_wf h8 hn f 0 true 0 0 [] [] L p ⟨rfl, fun s hs => (by cases hs), rfl, Nat.le_refl _⟩ h
end RDP
