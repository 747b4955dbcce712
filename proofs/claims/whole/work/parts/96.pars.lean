/-! ===== texts of filters: what a reader with a stack makes of one ===== -/
def sgA (tx : Nat → Int32) (n p : Nat) : Int32 := if p < n then tx p else -1
abbrev isDA (x : Int32) : Prop := 48 ≤ x.toInt ∧ x.toInt ≤ 57
def dgA (tx : Nat → Int32) (n : Nat) : Nat → Nat → Int32 → Int32 × Nat
  | 0, p, acc => (acc, p)
  | r + 1, p, acc => if isDA (sgA tx n p) then dgA tx n r (p + 1) (10 * acc + sgA tx n p - 48) else (acc, p)
def prA (x : Int32) : Int32 := if x = 104 then 1 else if x = 108 then 0 else if x = 110 then 3 else if x = 119 then 2 else -1
def rlA (k : Int32) : List SP → List SP → List SP × List SP
  | out, [] => (out, [])
  | out, s :: ws => if k < s.1 then (out, s :: ws) else rlA k (out ++ [s]) ws
def cmA (tx : Nat → Int32) (n p : Nat) : Option SP × Nat :=
  if prA (sgA tx n p) = -1 then (none, p)
  else if sgA tx n (p + 1) = 60 ∨ sgA tx n (p + 1) = 61 ∨ sgA tx n (p + 1) = 62 then
    (if sgA tx n (p + 2) = 45 then
      (if isDA (sgA tx n (p + 3)) then (some (stp (prA (sgA tx n p)) (sgA tx n (p + 1)) (-(dgA tx n 4 (p + 3) 0).1)), (dgA tx n 4 (p + 3) 0).2) else (none, p + 3))
    else
      (if isDA (sgA tx n (p + 2)) then (some (stp (prA (sgA tx n p)) (sgA tx n (p + 1)) (dgA tx n 4 (p + 2) 0).1), (dgA tx n 4 (p + 2) 0).2) else (none, p + 2)))
  else (none, p + 1)
def rfA (tx : Nat → Int32) (n nf p rf : Nat) : Option SP × Nat :=
  if 2 ≤ rf then (none, p)
  else if 0 ≤ (sgA tx n (p + 1) - 48).toInt ∧ (sgA tx n (p + 1) - 48).toInt < nf then (some (2, sgA tx n (p + 1) - 48, 0, 0), p + 2) else (none, p + 1)
def rnA (tx : Nat → Int32) (n nf : Nat) : Nat → Nat → Bool → Nat → Nat → List SP → List SP → Option (Option (List SP) × Nat)
  | 0, _, _, _, _, _, _ => none
  | f + 1, p, due, oc, rf, out, ws =>
    if p < n then
      (if due = true then
        (if tx p = 33 then rnA tx n nf f (p + 1) true oc rf out ((3, 0, 0, 0) :: ws)
        else if tx p = 40 then rnA tx n nf f (p + 1) true (oc + 1) rf out ((6, 0, 0, 0) :: ws)
        else if tx p = 35 then
          (match rfA tx n nf p rf with
            | (none, p') => some (none, p')
            | (some s, p') => rnA tx n nf f p' false oc (rf + 1) (rlA 3 (out ++ [s]) ws).1 (rlA 3 (out ++ [s]) ws).2)
        else
          (match cmA tx n p with
            | (none, p') => some (none, p')
            | (some s, p') => rnA tx n nf f p' false oc rf (rlA 3 (out ++ [s]) ws).1 (rlA 3 (out ++ [s]) ws).2))
      else
        (if tx p = 124 then rnA tx n nf f (p + 1) true oc rf (rlA 5 out ws).1 ((5, 0, 0, 0) :: (rlA 5 out ws).2)
        else if tx p = 38 then rnA tx n nf f (p + 1) true oc rf (rlA 4 out ws).1 ((4, 0, 0, 0) :: (rlA 4 out ws).2)
        else if tx p = 41 ∧ 0 < oc then rnA tx n nf f (p + 1) false (oc - 1) rf (rlA 3 (rlA 5 out ws).1 (rlA 5 out ws).2.tail).1 (rlA 3 (rlA 5 out ws).1 (rlA 5 out ws).2.tail).2
        else some (none, p)))
    else if due = true ∨ 0 < oc then some (none, p) else some (some (rlA 5 out ws).1, p)
def RsA (tx : Nat → Int32) (n nf p : Nat) (due : Bool) (oc rf : Nat) (out ws : List SP) (r : Option (List SP) × Nat) : Prop := ∃ f, rnA tx n nf f p due oc rf out ws = some r
def stA (k : Int32) (ws : List SP) : Prop := ws = [] ∨ ∃ s ws', ws = s :: ws' ∧ k < s.1
section PARS
variable {tx : Nat → Int32} {n nf p rf oc : Nat} {out ws L : List SP} {r : Option (List SP) × Nat} {k j : Int32} {s : SP} {due : Bool}
theorem rl_nil : rlA k out [] = (out, []) := rfl
theorem rl_go (h : ¬ k < s.1) : rlA k out (s :: ws) = rlA k (out ++ [s]) ws := by rw [rlA, if_neg h]
theorem rl_st (h : stA k ws) : rlA k out ws = (out, ws) := by
  rcases h with h | ⟨s, ws', h, h2⟩
  · rw [h]; rfl
  · rw [h, rlA, if_pos h2]
theorem st_mono (h : stA k ws) (hj : j ≤ k) : stA j ws := by
  rcases h with h | ⟨s, ws', h, h2⟩
  · exact Or.inl h
  · refine Or.inr ⟨s, ws', h, ?_⟩
    rw [i_lt] at h2 ⊢
    rw [i_le] at hj
    omega
theorem rl_rl (hj : j ≤ k) : ∀ {ws out : List SP}, rlA k (rlA j out ws).1 (rlA j out ws).2 = rlA k out ws := by
  intro ws
  induction ws with
  | nil => intro out; rfl
  | cons s ws ih =>
    intro out
    by_cases c : j < s.1
    · have e : rlA j out (s :: ws) = (out, s :: ws) := by rw [rlA, if_pos c]
      rw [e]
    · have c2 : ¬ k < s.1 := by rw [i_lt] at c ⊢; rw [i_le] at hj; omega
      rw [rl_go c, rl_go c2]; exact ih
theorem dgA_le : ∀ (r p : Nat) (acc : Int32), p ≤ (dgA tx n r p acc).2 := by
  intro r
  induction r with
  | zero => intro p acc; exact Nat.le_refl _
  | succ r ih =>
    intro p acc
    rw [dgA]
    split
    · have := ih (p + 1) (10 * acc + sgA tx n p - 48); omega
    · exact Nat.le_refl _
theorem dgA_lt {r p : Nat} {acc : Int32} (h : isDA (sgA tx n p)) : p < (dgA tx n (r + 1) p acc).2 := by
  rw [dgA, if_pos h]
  have := dgA_le (tx := tx) (n := n) r (p + 1) (10 * acc + sgA tx n p - 48); omega
theorem cmA_lt {s : SP} {p' : Nat} (h : cmA tx n p = (some s, p')) : p + 2 < p' := by
  unfold cmA at h
  split at h
  · cases h
  · split at h
    · split at h
      · split at h
        · rename_i hd
          have : p + 3 < (dgA tx n 4 (p + 3) 0).2 := dgA_lt (r := 3) (acc := 0) hd
          cases h; omega
        · cases h
      · split at h
        · rename_i hd
          have : p + 2 < (dgA tx n 4 (p + 2) 0).2 := dgA_lt (r := 3) (acc := 0) hd
          cases h; omega
        · cases h
    · cases h
theorem rfA_eq {s : SP} {p' : Nat} (h : rfA tx n nf p rf = (some s, p')) : p' = p + 2 ∧ rf < 2 ∧ s = (2, sgA tx n (p + 1) - 48, 0, 0) ∧ 0 ≤ (sgA tx n (p + 1) - 48).toInt ∧ (sgA tx n (p + 1) - 48).toInt < nf := by
  unfold rfA at h
  split at h
  · cases h
  · split at h
    · rename_i h1 h2; cases h; exact ⟨rfl, by omega, rfl, h2⟩
    · cases h
/-- more time does no harm -/
theorem rn_mono : ∀ (f p : Nat) (due : Bool) (oc rf : Nat) (out ws : List SP), rnA tx n nf f p due oc rf out ws = some r → rnA tx n nf (f + 1) p due oc rf out ws = some r := by
  intro f
  induction f with
  | zero => intro p due oc rf out ws h; cases h
  | succ f ih =>
    intro p due oc rf out ws h
    rw [rnA]
    rw [rnA] at h
    by_cases hp : p < n
    · rw [if_pos hp] at h ⊢
      by_cases hd : due = true
      · rw [if_pos hd] at h ⊢
        by_cases h1 : tx p = 33
        · rw [if_pos h1] at h ⊢; exact ih _ _ _ _ _ _ h
        rw [if_neg h1] at h ⊢
        by_cases h2 : tx p = 40
        · rw [if_pos h2] at h ⊢; exact ih _ _ _ _ _ _ h
        rw [if_neg h2] at h ⊢
        by_cases h3 : tx p = 35
        · rw [if_pos h3] at h ⊢
          cases e : rfA tx n nf p rf with
          | mk o p' =>
            rw [e] at h
            cases o with
            | none => exact h
            | some s => exact ih _ _ _ _ _ _ h
        rw [if_neg h3] at h ⊢
        cases e : cmA tx n p with
        | mk o p' =>
          rw [e] at h
          cases o with
          | none => exact h
          | some s => exact ih _ _ _ _ _ _ h
      · rw [if_neg hd] at h ⊢
        by_cases h1 : tx p = 124
        · rw [if_pos h1] at h ⊢; exact ih _ _ _ _ _ _ h
        rw [if_neg h1] at h ⊢
        by_cases h2 : tx p = 38
        · rw [if_pos h2] at h ⊢; exact ih _ _ _ _ _ _ h
        rw [if_neg h2] at h ⊢
        by_cases h3 : tx p = 41 ∧ 0 < oc
        · rw [if_pos h3] at h ⊢; exact ih _ _ _ _ _ _ h
        rw [if_neg h3] at h ⊢
        exact h
    · rw [if_neg hp] at h ⊢; exact h
theorem rn_le {f f' : Nat} (h : rnA tx n nf f p due oc rf out ws = some r) (hf : f ≤ f') : rnA tx n nf f' p due oc rf out ws = some r := by
  obtain ⟨k, rfl⟩ := Nat.exists_eq_add_of_le hf
  clear hf
  induction k with
  | zero => exact h
  | succ k ih => exact rn_mono _ _ _ _ _ _ _ ih
theorem Rs_det {r' : Option (List SP) × Nat} (h : RsA tx n nf p due oc rf out ws r) (h' : RsA tx n nf p due oc rf out ws r') : r = r' := by
  obtain ⟨f, h⟩ := h
  obtain ⟨f', h'⟩ := h'
  have e1 := rn_le h (Nat.le_add_right f f')
  have e2 := rn_le h' (Nat.le_add_left f' f)
  rw [e1] at e2
  exact Option.some.inj e2
theorem rn_tot : ∀ (f p : Nat) (due : Bool) (oc rf : Nat) (out ws : List SP), 0 < f → n < p + f → ∃ r, rnA tx n nf f p due oc rf out ws = some r := by
  intro f
  induction f with
  | zero => intro p due oc rf out ws h0; cases h0
  | succ f ih =>
    intro p due oc rf out ws _ h
    rw [rnA]
    by_cases hp : p < n
    · rw [if_pos hp]
      have hf : 0 < f := by omega
      by_cases hd : due = true
      · rw [if_pos hd]
        split
        · exact ih _ _ _ _ _ _ hf (by omega)
        split
        · exact ih _ _ _ _ _ _ hf (by omega)
        split
        · cases e : rfA tx n nf p rf with
          | mk o p' =>
            cases o with
            | none => exact ⟨_, rfl⟩
            | some s => have := (rfA_eq e).1; exact ih _ _ _ _ _ _ hf (by omega)
        · cases e : cmA tx n p with
          | mk o p' =>
            cases o with
            | none => exact ⟨_, rfl⟩
            | some s => have := cmA_lt e; exact ih _ _ _ _ _ _ hf (by omega)
      · rw [if_neg hd]
        split
        · exact ih _ _ _ _ _ _ hf (by omega)
        split
        · exact ih _ _ _ _ _ _ hf (by omega)
        split
        · exact ih _ _ _ _ _ _ hf (by omega)
        · exact ⟨_, rfl⟩
    · rw [if_neg hp]
      split
      · exact ⟨_, rfl⟩
      · exact ⟨_, rfl⟩
theorem Rs_tot : ∃ r, RsA tx n nf p due oc rf out ws r := by
  obtain ⟨r, h⟩ := rn_tot (tx := tx) (n := n) (nf := nf) (n + 1) p due oc rf out ws (by omega) (by omega)
  exact ⟨r, _, h⟩
theorem Rs_not (hp : p < n) (h : tx p = 33) (q : RsA tx n nf (p + 1) true oc rf out ((3, 0, 0, 0) :: ws) r) : RsA tx n nf p true oc rf out ws r := by
  obtain ⟨f, q⟩ := q
  exact ⟨f + 1, by rw [rnA, if_pos hp, if_pos rfl, if_pos h]; exact q⟩
theorem Rs_opn (hp : p < n) (h : tx p = 40) (q : RsA tx n nf (p + 1) true (oc + 1) rf out ((6, 0, 0, 0) :: ws) r) : RsA tx n nf p true oc rf out ws r := by
  obtain ⟨f, q⟩ := q
  exact ⟨f + 1, by rw [rnA, if_pos hp, if_pos rfl, if_neg (by rw [h]; decide), if_pos h]; exact q⟩
theorem Rs_ref {s : SP} {p' : Nat} (hp : p < n) (h : tx p = 35) (e : rfA tx n nf p rf = (some s, p')) (q : RsA tx n nf p' false oc (rf + 1) (rlA 3 (out ++ [s]) ws).1 (rlA 3 (out ++ [s]) ws).2 r) : RsA tx n nf p true oc rf out ws r := by
  obtain ⟨f, q⟩ := q
  exact ⟨f + 1, by rw [rnA, if_pos hp, if_pos rfl, if_neg (by rw [h]; decide), if_neg (by rw [h]; decide), if_pos h, e]; exact q⟩
theorem Rs_refE {p' : Nat} (hp : p < n) (h : tx p = 35) (e : rfA tx n nf p rf = (none, p')) : RsA tx n nf p true oc rf out ws (none, p') :=
  ⟨1, by rw [rnA, if_pos hp, if_pos rfl, if_neg (by rw [h]; decide), if_neg (by rw [h]; decide), if_pos h, e]⟩
theorem Rs_cmp {s : SP} {p' : Nat} (hp : p < n) (h : tx p ≠ 33 ∧ tx p ≠ 40 ∧ tx p ≠ 35) (e : cmA tx n p = (some s, p')) (q : RsA tx n nf p' false oc rf (rlA 3 (out ++ [s]) ws).1 (rlA 3 (out ++ [s]) ws).2 r) : RsA tx n nf p true oc rf out ws r := by
  obtain ⟨f, q⟩ := q
  exact ⟨f + 1, by rw [rnA, if_pos hp, if_pos rfl, if_neg h.1, if_neg h.2.1, if_neg h.2.2, e]; exact q⟩
theorem Rs_cmpE {p' : Nat} (hp : p < n) (h : tx p ≠ 33 ∧ tx p ≠ 40 ∧ tx p ≠ 35) (e : cmA tx n p = (none, p')) : RsA tx n nf p true oc rf out ws (none, p') :=
  ⟨1, by rw [rnA, if_pos hp, if_pos rfl, if_neg h.1, if_neg h.2.1, if_neg h.2.2, e]⟩
theorem Rs_end (hp : ¬ p < n) : RsA tx n nf p true oc rf out ws (none, p) := ⟨1, by rw [rnA, if_neg hp, if_pos (Or.inl rfl)]⟩
theorem Rs_or (hp : p < n) (h : tx p = 124) (q : RsA tx n nf (p + 1) true oc rf (rlA 5 out ws).1 ((5, 0, 0, 0) :: (rlA 5 out ws).2) r) : RsA tx n nf p false oc rf out ws r := by
  obtain ⟨f, q⟩ := q
  exact ⟨f + 1, by rw [rnA, if_pos hp, if_neg (by decide), if_pos h]; exact q⟩
theorem Rs_and (hp : p < n) (h : tx p = 38) (q : RsA tx n nf (p + 1) true oc rf (rlA 4 out ws).1 ((4, 0, 0, 0) :: (rlA 4 out ws).2) r) : RsA tx n nf p false oc rf out ws r := by
  obtain ⟨f, q⟩ := q
  exact ⟨f + 1, by rw [rnA, if_pos hp, if_neg (by decide), if_neg (by rw [h]; decide), if_pos h]; exact q⟩
theorem Rs_cls (hp : p < n) (h : tx p = 41) (q : RsA tx n nf (p + 1) false oc rf (rlA 3 (rlA 5 out ws).1 (rlA 5 out ws).2.tail).1 (rlA 3 (rlA 5 out ws).1 (rlA 5 out ws).2.tail).2 r) : RsA tx n nf p false (oc + 1) rf out ws r := by
  obtain ⟨f, q⟩ := q
  exact ⟨f + 1, by rw [rnA, if_pos hp, if_neg (by decide), if_neg (by rw [h]; decide), if_neg (by rw [h]; decide), if_pos ⟨h, Nat.succ_pos _⟩]; exact q⟩
/-- no operator, no bracket that closes an open one -/
theorem Rs_bad (h1 : sgA tx n p ≠ 124) (h2 : sgA tx n p ≠ 38) (h3 : ¬ (sgA tx n p = 41 ∧ 0 < oc)) (h4 : p < n ∨ 0 < oc) : RsA tx n nf p false oc rf out ws (none, p) := by
  by_cases hp : p < n
  · have e : sgA tx n p = tx p := if_pos hp
    rw [e] at h1 h2 h3
    exact ⟨1, by rw [rnA, if_pos hp, if_neg (by decide), if_neg h1, if_neg h2, if_neg h3]⟩
  · exact ⟨1, by rw [rnA, if_neg hp, if_pos (Or.inr (by omega))]⟩
theorem Rs_done (hp : ¬ p < n) : RsA tx n nf p false 0 rf out ws (some (rlA 5 out ws).1, p) := ⟨1, by rw [rnA, if_neg hp, if_neg (by simp)]⟩
/-! what the recursive reading of a part of the text says of the reader with a stack -/
def FacOK (tx : Nat → Int32) (n nf p rf p' rf' : Nat) (L : List SP) : Prop := ∀ oc out ws r, RsA tx n nf p' false oc rf' (rlA 3 (out ++ L) ws).1 (rlA 3 (out ++ L) ws).2 r → RsA tx n nf p true oc rf out ws r
def FacEr (tx : Nat → Int32) (n nf p rf p' : Nat) : Prop := ∀ oc out ws, RsA tx n nf p true oc rf out ws (none, p')
def LevOK (tx : Nat → Int32) (k : Int32) (n nf p rf p' rf' : Nat) (L : List SP) : Prop := ∀ oc out ws r, stA k ws → (∀ o w, rlA k o w = (out ++ L, ws) → RsA tx n nf p' false oc rf' o w r) → RsA tx n nf p true oc rf out ws r
def LevEr (tx : Nat → Int32) (k : Int32) (n nf p rf p' : Nat) : Prop := ∀ oc out ws, stA k ws → RsA tx n nf p true oc rf out ws (none, p')
variable {p1 rf1 p2 rf2 : Nat} {L1 L2 : List SP}
theorem FacOK.not (hp : p < n) (h : tx p = 33) (q : FacOK tx n nf (p + 1) rf p1 rf1 L) : FacOK tx n nf p rf p1 rf1 (L ++ [(3, 0, 0, 0)]) := by
  intro oc out ws r h1
  refine Rs_not hp h (q oc out _ r ?_)
  rw [rl_go (by decide), List.append_assoc]
  exact h1
theorem FacEr.not (hp : p < n) (h : tx p = 33) (q : FacEr tx n nf (p + 1) rf p1) : FacEr tx n nf p rf p1 := fun oc out ws => Rs_not hp h (q oc out _)
theorem FacOK.opn (hp : p < n) (h : tx p = 40) (q : LevOK tx 5 n nf (p + 1) rf p1 rf1 L) (h1 : sgA tx n p1 = 41) : FacOK tx n nf p rf (p1 + 1) rf1 L := by
  have hp1 : p1 < n := by
    by_cases c : p1 < n
    · exact c
    · unfold sgA at h1; rw [if_neg c] at h1; cases h1
  have e1 : tx p1 = 41 := by unfold sgA at h1; rw [if_pos hp1] at h1; exact h1
  intro oc out ws r h2
  refine Rs_opn hp h (q (oc + 1) out _ r (Or.inr ⟨_, _, rfl, by decide⟩) (fun o w e => Rs_cls hp1 e1 ?_))
  rw [e]
  exact h2
theorem FacEr.opn (hp : p < n) (h : tx p = 40) (q : LevEr tx 5 n nf (p + 1) rf p1) : FacEr tx n nf p rf p1 := fun oc out ws => Rs_opn hp h (q _ out _ (Or.inr ⟨_, _, rfl, by decide⟩))
theorem FacEr.cls (hp : p < n) (h : tx p = 40) (q : LevOK tx 5 n nf (p + 1) rf p1 rf1 L) (h1 : sgA tx n p1 ≠ 41) (h2 : sgA tx n p1 ≠ 124) (h3 : sgA tx n p1 ≠ 38) : FacEr tx n nf p rf p1 :=
  fun oc out ws => Rs_opn hp h (q (oc + 1) out _ _ (Or.inr ⟨_, _, rfl, by decide⟩) (fun o w e => Rs_bad h2 h3 (fun z => h1 z.1) (Or.inr (Nat.succ_pos _))))
theorem FacOK.lev (q : FacOK tx n nf p rf p1 rf1 L) : LevOK tx 4 n nf p rf p1 rf1 L := by
  intro oc out ws r hs h
  refine q oc out ws r ?_
  rw [rl_st (st_mono hs (by decide))]
  exact h _ _ (rl_st hs)
theorem FacEr.lev (q : FacEr tx n nf p rf p1) : LevEr tx k n nf p rf p1 := fun oc out ws _ => q oc out ws
theorem lt_of_sg {v : Int32} (h : sgA tx n p = v) (hv : v ≠ -1) : p < n ∧ tx p = v := by
  unfold sgA at h
  by_cases c : p < n
  · rw [if_pos c] at h; exact ⟨c, h⟩
  · rw [if_neg c] at h; exact (hv h.symm).elim
theorem LevOK.and (q : LevOK tx 4 n nf p rf p1 rf1 L1) (h : sgA tx n p1 = 38) (q2 : FacOK tx n nf (p1 + 1) rf1 p2 rf2 L2) : LevOK tx 4 n nf p rf p2 rf2 (L1 ++ L2 ++ [(4, 0, 0, 0)]) := by
  obtain ⟨hp, e⟩ := lt_of_sg h (by decide)
  intro oc out ws r hs h1
  refine q oc out ws r hs (fun o w eo => Rs_and hp e (q2 oc _ _ r ?_))
  rw [eo]
  rw [rl_st (Or.inr ⟨_, _, rfl, by decide⟩)]
  refine h1 _ _ ?_
  rw [rl_go (by decide), rl_st hs]
  simp only [List.append_assoc]
theorem LevEr.and (q : LevOK tx 4 n nf p rf p1 rf1 L1) (h : sgA tx n p1 = 38) (q2 : FacEr tx n nf (p1 + 1) rf1 p2) : LevEr tx 4 n nf p rf p2 := by
  obtain ⟨hp, e⟩ := lt_of_sg h (by decide)
  exact fun oc out ws hs => q oc out ws _ hs (fun o w eo => Rs_and hp e (q2 oc _ _))
theorem LevOK.up (q : LevOK tx 4 n nf p rf p1 rf1 L1) : LevOK tx 5 n nf p rf p1 rf1 L1 := by
  intro oc out ws r hs h
  refine q oc out ws r (st_mono hs (by decide)) (fun o w e => h o w ?_)
  rw [← rl_rl (j := 4) (k := 5) (by decide), e]
  exact rl_st hs
theorem LevEr.up (q : LevEr tx 4 n nf p rf p1) : LevEr tx 5 n nf p rf p1 := fun oc out ws hs => q oc out ws (st_mono hs (by decide))
theorem LevOK.or (q : LevOK tx 5 n nf p rf p1 rf1 L1) (h : sgA tx n p1 = 124) (q2 : LevOK tx 4 n nf (p1 + 1) rf1 p2 rf2 L2) : LevOK tx 5 n nf p rf p2 rf2 (L1 ++ L2 ++ [(5, 0, 0, 0)]) := by
  obtain ⟨hp, e⟩ := lt_of_sg h (by decide)
  intro oc out ws r hs h1
  refine q oc out ws r hs (fun o w eo => Rs_or hp e (q2 oc _ _ r ?_ ?_))
  · rw [eo]; exact Or.inr ⟨_, _, rfl, by decide⟩
  · rw [eo]
    intro o2 w2 e2
    refine h1 _ _ ?_
    rw [← rl_rl (j := 4) (k := 5) (by decide), e2]
    show rlA 5 _ _ = _
    rw [rl_go (by decide), rl_st hs]
    simp only [List.append_assoc]
theorem LevEr.or (q : LevOK tx 5 n nf p rf p1 rf1 L1) (h : sgA tx n p1 = 124) (q2 : LevEr tx 4 n nf (p1 + 1) rf1 p2) : LevEr tx 5 n nf p rf p2 := by
  obtain ⟨hp, e⟩ := lt_of_sg h (by decide)
  exact fun oc out ws hs => q oc out ws _ hs (fun o w eo => Rs_or hp e (q2 oc _ _ (by rw [eo]; exact Or.inr ⟨_, _, rfl, by decide⟩)))
/-- a list of steps that puts one answer on the stack, w operands deep at most -/
def Gd (f : Nat) (L : List SP) (w : Nat) : Prop := ∀ m rest, m + w ≤ 31 → wf f rest (m + 1) → wf f (L ++ rest) m
theorem Gd.one {f : Nat} {s : SP} (h : s.1 = 0 ∨ s.1 = 1 ∨ (s.1 = 2 ∧ ∃ r, r < f ∧ s.2.1 = nI r)) : Gd f [s] 1 := fun m rest hm hr => Or.inl ⟨h, by omega, hr⟩
theorem Gd.not {f w : Nat} (g : Gd f L w) : Gd f (L ++ [(3, 0, 0, 0)]) w := by
  intro m rest hm hr
  rw [List.append_assoc]
  exact g m _ hm (Or.inr (Or.inl ⟨rfl, by omega, hr⟩))
theorem Gd.bin {f w1 w2 : Nat} {s : SP} (hs : s.1 = 4 ∨ s.1 = 5) (g1 : Gd f L1 w1) (g2 : Gd f L2 w2) (h1 : 1 ≤ w1) : Gd f (L1 ++ L2 ++ [s]) (w1 + w2) := by
  intro m rest hm hr
  rw [List.append_assoc, List.append_assoc]
  refine g1 m _ (by omega) (g2 (m + 1) _ (by omega) (Or.inr (Or.inr ⟨hs, by omega, ?_⟩)))
  exact hr
theorem Gd.wf {f w : Nat} (g : Gd f L w) (hw : w ≤ 31) : wf f L 0 := by
  have := g 0 [] (by omega) rfl
  rw [List.append_nil] at this; exact this
end PARS
