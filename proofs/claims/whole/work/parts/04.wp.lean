/-! ===== what a run from a configuration comes to: the least relation closed under the instructions ===== -/
abbrev ZT : Type := Nat → Nat → Nat → List (Option AV) → List AV → AHp → RT → XT → Prop
def ent (j : Nat) (as : List AV) : List (Option AV) := as.map some ++ List.replicate (mnL j - as.length) none
def callZ (Z : ZT) (d : Nat) : CT := fun j' as h Q Y => 0 < d ∧ ∃ Q' Y', Z (d - 1) j' 0 (ent j' as) [] h Q' Y' ∧ (∀ v h', Q' v h' → Q v h') ∧ ∀ n h', Y' n h' → Y n h'
def stepZ (lim : Nat × Nat) (Z : ZT) : ZT := fun d j pc ls st h R X =>
  exec (callZ Z d) (fun pc ls st h => Z d j pc ls st h R X) R X lim (hndj j pc) (cod j pc) ls st h
def WP (lim : Nat × Nat) : ZT := fun d j pc ls st h R X => ∀ Z : ZT, (∀ d j pc ls st h R X, stepZ lim Z d j pc ls st h R X → Z d j pc ls st h R X) → Z d j pc ls st h R X
/-- a method, from its entry -/
def WM (lim : Nat × Nat) (d j : Nat) (as : List AV) (h : AHp) (R : RT) (X : XT) : Prop := WP lim d j 0 (ent j as) [] h R X
theorem stepZ_mono {lim : Nat × Nat} {Z Z' : ZT} (hZ : ∀ d j pc ls st h R X, Z d j pc ls st h R X → Z' d j pc ls st h R X) {d j pc : Nat} {ls : List (Option AV)} {st : List AV} {h : AHp} {R : RT} {X : XT} (hf : stepZ lim Z d j pc ls st h R X) : stepZ lim Z' d j pc ls st h R X := by
  refine exec_mono ?_ (fun pc ls st h => hZ _ _ _ _ _ _ _ _) (fun _ _ h => h) (fun _ _ h => h) hf
  intro j' as h' Q Q' Y Y' hQ hY hc
  obtain ⟨h0, Q1, Y1, h1, h2, h3⟩ := hc
  exact ⟨h0, Q1, Y1, hZ _ _ _ _ _ _ _ _ h1, fun v h' q => hQ _ _ (h2 v h' q), fun n h' q => hY _ _ (h3 n h' q)⟩
theorem WP.step {lim : Nat × Nat} {d j pc : Nat} {ls : List (Option AV)} {st : List AV} {h : AHp} {R : RT} {X : XT} (hf : stepZ lim (WP lim) d j pc ls st h R X) : WP lim d j pc ls st h R X := by
  intro Z hZ
  exact hZ _ _ _ _ _ _ _ _ (stepZ_mono (fun d j pc ls st h R X (q : WP lim d j pc ls st h R X) => q Z hZ) hf)
theorem WP.mono {lim : Nat × Nat} {d j pc : Nat} {ls : List (Option AV)} {st : List AV} {h : AHp} {R R' : RT} {X X' : XT} (hR : ∀ v h, R v h → R' v h) (hX : ∀ n h, X n h → X' n h) (hf : WP lim d j pc ls st h R X) : WP lim d j pc ls st h R' X' := by
  refine hf (fun d j pc ls st h R X => ∀ R' X', (∀ v h, R v h → R' v h) → (∀ n h, X n h → X' n h) → WP lim d j pc ls st h R' X') ?_ R' X' hR hX
  intro d j pc ls st h R X hs R' X' hR hX
  refine WP.step (exec_mono ?_ (fun pc ls st h q => q R' X' hR hX) hR hX hs)
  intro j' as h' Q Q' Y Y' hQ hY hc
  obtain ⟨h0, Q1, Y1, h1, h2, h3⟩ := hc
  exact ⟨h0, Q1, Y1, h1 Q1 Y1 (fun _ _ h => h) (fun _ _ h => h), fun v h' q => hQ _ _ (h2 v h' q), fun n h' q => hY _ _ (h3 n h' q)⟩
theorem WM.mono {lim : Nat × Nat} {d j : Nat} {as : List AV} {h : AHp} {R R' : RT} {X X' : XT} (hR : ∀ v h, R v h → R' v h) (hX : ∀ n h, X n h → X' n h) (hf : WM lim d j as h R X) : WM lim d j as h R' X' := WP.mono hR hX hf
/-- a stretch of a method, up to n instructions, not beyond the places of 'stop' -/
def callW (lim : Nat × Nat) (d : Nat) : CT := fun j' as h Q Y => 0 < d ∧ WM lim (d - 1) j' as h Q Y
def memb : List Nat → Nat → Bool
  | [], _ => false
  | a :: r, x => cond (Nat.beq a x) true (memb r x)
def runK (lim : Nat × Nat) (stop : List Nat) (k : List (Nat × List (Nat × Ins))) (hh : List (Nat × Nat × Nat × Nat)) (d j : Nat) (R : RT) (X : XT) : Nat → KT
  | 0 => fun pc ls st h => WP lim d j pc ls st h R X
  | n + 1 => fun pc ls st h => cond (memb stop pc) (WP lim d j pc ls st h R X) (exec (callW lim d) (runK lim stop k hh d j R X n) R X lim (hfind hh pc) (lkc k pc) ls st h)
theorem runK_ok {lim : Nat × Nat} {stop : List Nat} {k : List (Nat × List (Nat × Ins))} {hh : List (Nat × Nat × Nat × Nat)} {d j : Nat} {R : RT} {X : XT} (hk : kof j = k) (hhh : hof j = hh) : ∀ (n pc : Nat) (ls : List (Option AV)) (st : List AV) (h : AHp), runK lim stop k hh d j R X n pc ls st h → WP lim d j pc ls st h R X := by
  intro n
  induction n with
  | zero => exact fun _ _ _ _ q => q
  | succ n ih =>
    intro pc ls st h q
    have q : cond (memb stop pc) (WP lim d j pc ls st h R X) (exec (callW lim d) (runK lim stop k hh d j R X n) R X lim (hfind hh pc) (lkc k pc) ls st h) := q
    cases hm : memb stop pc with
    | true => rw [hm] at q; exact q
    | false =>
      rw [hm] at q
      refine WP.step ?_
      show exec (callZ (WP lim) d) (fun pc ls st h => WP lim d j pc ls st h R X) R X lim (hfind (hof j) pc) (lkc (kof j) pc) ls st h
      rw [hk, hhh]
      refine exec_mono ?_ (fun pc ls st h => ih pc ls st h) (fun _ _ h => h) (fun _ _ h => h) q
      intro j' as h' Q Q' Y Y' hQ hY hc
      exact ⟨hc.1, Q, Y, hc.2, hQ, hY⟩
/-- from a place on: the stretch behind it -/
theorem WP.run {lim : Nat × Nat} (stop : List Nat) {k : List (Nat × List (Nat × Ins))} {hh : List (Nat × Nat × Nat × Nat)} {d j : Nat} {R : RT} {X : XT} (hk : kof j = k) (hhh : hof j = hh) (n pc : Nat) {ls : List (Option AV)} {st : List AV} {h : AHp}
    (q : exec (callW lim d) (runK lim stop k hh d j R X n) R X lim (hfind hh pc) (lkc k pc) ls st h) : WP lim d j pc ls st h R X := by
  refine WP.step ?_
  show exec (callZ (WP lim) d) (fun pc ls st h => WP lim d j pc ls st h R X) R X lim (hfind (hof j) pc) (lkc (kof j) pc) ls st h
  rw [hk, hhh]
  refine exec_mono ?_ (fun pc ls st h => runK_ok hk hhh n pc ls st h) (fun _ _ h => h) (fun _ _ h => h) q
  intro j' as h' Q Q' Y Y' hQ hY hc
  exact ⟨hc.1, Q, Y, hc.2, hQ, hY⟩
/-! a try: Tree.find, Tree.wasInserted -/
theorem B_wasInserted {lim : Nat × Nat} {d : Nat} {t : Nat} {x : Int32} {h : AHp} {R : RT} {X : XT}
    (q : if x < 0 then [] = ([] : List AV) ∧ b01 0 ∧ R (some (vi 0)) h else hk h t = 5 ∧ (if x < hI h t 4 then [] = ([] : List AV) ∧ b01 1 ∧ R (some (vi 1)) h else [] = ([] : List AV) ∧ b01 0 ∧ R (some (vi 0)) h)) : WM lim d j_Tr_wasInserted [vr (some t), vi x] h R X :=
  WP.run [] (k := k_Tr_wasInserted) (hh := []) rfl rfl 40 0 q
