/-! ===== the reference as it lies in a heap ===== -/
def RefAt (H : AHp) (m : Nat) (M : MT) : Prop := m + 36 ≤ hsz H ∧ ∀ a, a < 36 → hk H (a + m) = kM a ∧ hLen H (a + m) = lM a ∧ (∀ k, hI H (a + m) k = M a k) ∧ (∀ k, hP H (a + m) k = shO m (pM a k)) ∧ (∀ k, hJ H (a + m) k = 0)
def inR (m A : Nat) : Prop := m ≤ A ∧ A < m + 36
/-- the same heap but for what the cells of A hold -/
def Fr (H H' : AHp) (A : Nat → Prop) : Prop := hsz H' = hsz H ∧ hsu H' = hsu H ∧ hk H' = hk H ∧ hLen H' = hLen H ∧ ∀ a, ¬ A a → hI H' a = hI H a ∧ hP H' a = hP H a ∧ hJ H' a = hJ H a
def pO (m A : Nat) : Bool := !(decide (m ≤ A) && decide (A < m + 36))
theorem pO_t {m A : Nat} (h : pO m A = true) : ¬ inR m A := by
  intro c; unfold pO at h; rw [decide_eq_true c.1, decide_eq_true c.2] at h; cases h
theorem pO_f {m A : Nat} (h : ¬ pO m A = true) : inR m A := by
  unfold pO at h
  by_cases c1 : m ≤ A
  · by_cases c2 : A < m + 36
    · exact ⟨c1, c2⟩
    · rw [decide_eq_false c2, Bool.and_false] at h; exact (h rfl).elim
  · rw [decide_eq_false c1] at h; exact (h rfl).elim
theorem pO_in {m a : Nat} (h : a < 36) : pO m (a + m) = false := by
  unfold pO; rw [decide_eq_true (show m ≤ a + m by omega), decide_eq_true (show a + m < m + 36 by omega)]; rfl
theorem Fr.refl {H : AHp} {A : Nat → Prop} : Fr H H A := ⟨rfl, rfl, rfl, rfl, fun _ _ => ⟨rfl, rfl, rfl⟩⟩
theorem Fr.trans {H H' H'' : AHp} {A : Nat → Prop} (f : Fr H H' A) (g : Fr H' H'' A) : Fr H H'' A :=
  ⟨g.1.trans f.1, g.2.1.trans f.2.1, g.2.2.1.trans f.2.2.1, g.2.2.2.1.trans f.2.2.2.1, fun a ha => ⟨(g.2.2.2.2 a ha).1.trans (f.2.2.2.2 a ha).1, (g.2.2.2.2 a ha).2.1.trans (f.2.2.2.2 a ha).2.1, (g.2.2.2.2 a ha).2.2.trans (f.2.2.2.2 a ha).2.2⟩⟩
theorem Fr.mono {H H' : AHp} {A B : Nat → Prop} (f : Fr H H' A) (h : ∀ a, A a → B a) : Fr H H' B := ⟨f.1, f.2.1, f.2.2.1, f.2.2.2.1, fun a ha => f.2.2.2.2 a (fun c => ha (h a c))⟩
theorem RefAt.fr {H H' : AHp} {m : Nat} {M : MT} {A : Nat → Prop} (r : RefAt H m M) (f : Fr H H' A) (h : ∀ a, A a → ¬ inR m a) : RefAt H' m M := by
  refine ⟨by rw [f.1]; exact r.1, fun a ha => ?_⟩
  have q := r.2 a ha
  have c := f.2.2.2.2 (a + m) (fun c => h _ c ⟨by omega, by omega⟩)
  rw [f.2.2.1, f.2.2.2.1, c.1, c.2.1, c.2.2]; exact q
theorem ref_emb {H : AHp} {m : Nat} {M : MT} (r : RefAt H m M) : H = emb m (pO m) H (hM (hsz H - m, hsu H) M) := by
  have key : ∀ A, ¬ pO m A = true → ∃ a, a < 36 ∧ A = a + m ∧ A - m = a := fun A h => ⟨A - m, by have := pO_f h; unfold inR at this; omega, by have := pO_f h; unfold inR at this; omega, rfl⟩
  refine Prod.ext (Prod.ext ?_ rfl) (Prod.ext (funext fun A => ?_) (Prod.ext (funext fun A => ?_) (Prod.ext (funext fun A => funext fun k => ?_) (Prod.ext (funext fun A => funext fun k => ?_) (funext fun A => funext fun k => ?_)))))
  · show hsz H = hsz H - m + m
    have := r.1; omega
  · show hk H A = if pO m A = true then hk H A else kM (A - m)
    split
    · rfl
    · rename_i c; obtain ⟨a, h1, h2, h3⟩ := key A c
      rw [h3, h2]; exact (r.2 a h1).1
  · show hLen H A = if pO m A = true then hLen H A else lM (A - m)
    split
    · rfl
    · rename_i c; obtain ⟨a, h1, h2, h3⟩ := key A c
      rw [h3, h2]; exact (r.2 a h1).2.1
  · show hI H A k = if pO m A = true then hI H A k else M (A - m) k
    split
    · rfl
    · rename_i c; obtain ⟨a, h1, h2, h3⟩ := key A c
      rw [h3, h2]; exact (r.2 a h1).2.2.1 k
  · show hP H A k = if pO m A = true then hP H A k else shO m (pM (A - m) k)
    split
    · rfl
    · rename_i c; obtain ⟨a, h1, h2, h3⟩ := key A c
      rw [h3, h2]; exact (r.2 a h1).2.2.2.1 k
  · show hJ H A k = if pO m A = true then hJ H A k else 0
    split
    · rfl
    · rename_i c; obtain ⟨a, h1, h2, h3⟩ := key A c
      rw [h2]; exact (r.2 a h1).2.2.2.2 k
theorem emb_ref {H : AHp} {m : Nat} {M M' : MT} (r : RefAt H m M) : RefAt (emb m (pO m) H (hM (hsz H - m, hsu H) M')) m M' ∧ Fr H (emb m (pO m) H (hM (hsz H - m, hsu H) M')) (inR m) := by
  have key : ∀ A, ¬ pO m A = true → ∃ a, a < 36 ∧ A = a + m ∧ A - m = a := fun A h => ⟨A - m, by have := pO_f h; unfold inR at this; omega, by have := pO_f h; unfold inR at this; omega, rfl⟩
  have hz : hsz H - m + m = hsz H := by have := r.1; omega
  refine ⟨⟨?_, fun a ha => ?_⟩, hz, rfl, funext fun A => ?_, funext fun A => ?_, fun A hA => ?_⟩
  · show m + 36 ≤ hsz H - m + m
    rw [hz]; exact r.1
  · have f := pO_in (m := m) ha
    exact ⟨emb_k f, emb_len f, fun k => emb_I f, fun k => emb_P f, fun k => emb_J f⟩
  · show (if pO m A = true then hk H A else kM (A - m)) = hk H A
    split
    · rfl
    · rename_i c; obtain ⟨a, h1, h2, h3⟩ := key A c
      rw [h3, h2]; exact (r.2 a h1).1.symm
  · show (if pO m A = true then hLen H A else lM (A - m)) = hLen H A
    split
    · rfl
    · rename_i c; obtain ⟨a, h1, h2, h3⟩ := key A c
      rw [h3, h2]; exact (r.2 a h1).2.1.symm
  · have c : pO m A = true := Classical.byContradiction fun c => hA (pO_f c)
    refine ⟨funext fun k => ?_, funext fun k => ?_, funext fun k => ?_⟩
    · show (if pO m A = true then hI H A k else M' (A - m) k) = hI H A k
      rw [if_pos c]
    · show (if pO m A = true then hP H A k else shO m (pM (A - m) k)) = hP H A k
      rw [if_pos c]
    · show (if pO m A = true then hJ H A k else 0) = hJ H A k
      rw [if_pos c]
/-- a call of the reference -/
theorem ref_call {lim : Nat × Nat} {d j m : Nat} {as : List AV} {H : AHp} {M : MT} {Q : Option AV → MT → Prop} {R : RT} {X : XT} (r : RefAt H m M) (hj : mown j = 7) (hm : m ≤ lim.1) (w : WQ (hsz H - m, hsu H) d j as M Q) (hR : ∀ v M' H', Q v M' → RefAt H' m M' → Fr H H' (inR m) → R (shL m v) H') : WM lim d j (as.map (shV m)) H R X := by
  have F : Fn m (pO m) (hM (hsz H - m, hsu H) M) := by
    refine ⟨trivial, fun A hA => ?_, fun a ha => ?_⟩
    · unfold pO; rw [decide_eq_false (show ¬ m ≤ A by omega)]; rfl
    · have h36 : 36 ≤ a := by
        by_cases c : a < 36
        · rw [pO_in c] at ha; cases ha
        · omega
      show kMt.getD a kP = kP
      rw [List.getD_eq_getElem?_getD, List.getElem?_eq_none (by show 36 ≤ a; exact h36)]; rfl
  have := WM.emn (h := H) (s := m) (P := pO m) (lim := lim) (lim' := (0, 0)) (by show 0 + m ≤ lim.1; omega) (Nat.zero_le _) rfl w (Or.inr hj) F
  have e := ref_emb r
  rw [← e] at this
  refine WM.mono (fun v H' ⟨v0, g', e1, e2, _, M', e3, q⟩ => ?_) (fun n H' ⟨g', _, _, f⟩ => f.elim) this
  subst e3
  have k := emb_ref (M' := M') r
  rw [e1]
  exact hR v0 M' H' q (e2 ▸ k.1) (e2 ▸ k.2)
