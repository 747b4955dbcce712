/-! ===== the reference's own memory: printed by wip/whole/gen/gen22.py ===== -/
abbrev MT : Type := Nat → Nat → Int32
def kMt : List Nat := [7, 8, 8, 8, 8, 8, 8, 8, 9, 8, 8, 8, 8, 8, 8, 8, 8, 8, 8, 8, 8, 8, 9, 8, 9, 8, 8, 8, 8, 8, 8, 8, 8, 8, 8, 9]
def lMt : List Nat := [52, 500, 500, 500, 500, 500, 500, 500, 500, 500, 500, 500, 2002, 501, 8, 8, 8, 8, 8, 480, 480, 480, 480, 60, 4, 4, 4, 500, 500, 500, 500, 500, 500, 500, 7, 500]
def pMt : List (Option Nat) := [none, some 1, some 2, some 3, some 4, some 5, some 6, some 7, some 8, none, none, none, none, none, none, none, some 9, none, some 10, some 11, none, none, some 12, some 13, none, some 14, some 15, some 16, some 17, some 18, some 19, some 20, some 21, some 22, some 23, none, none, none, none, some 24, some 25, some 26, none, some 27, some 28, some 29, some 30, some 31, some 32, some 33, some 34, some 35]
def kM (a : Nat) : Nat := kMt.getD a kP
def lM (a : Nat) : Nat := lMt.getD a 0
def pM (a k : Nat) : Option Nat := cond (Nat.beq a 0) (pMt.getD k none) none
/-- the reference alone, at 0, its arrays behind it -/
def hM (z : Nat × Nat) (M : MT) : AHp := (z, kM, lM, M, pM, fun _ _ => 0)
def QM (z : Nat × Nat) (Q : Option AV → MT → Prop) : RT := fun v h' => ∃ M', h' = hM z M' ∧ Q v M'
/-- a method of the reference, and a place in it -/
def WQ (z : Nat × Nat) (d j : Nat) (as : List AV) (M : MT) (Q : Option AV → MT → Prop) : Prop := WM (0, 0) d j as (hM z M) (QM z Q) (fun _ _ => False)
def WK (z : Nat × Nat) (d j pc : Nat) (ls : List (Option AV)) (st : List AV) (M : MT) (Q : Option AV → MT → Prop) : Prop := WP (0, 0) d j pc ls st (hM z M) (QM z Q) (fun _ _ => False)
theorem QM_use {z : Nat × Nat} {Q : Option AV → MT → Prop} {C : Option AV → AHp → Prop} (hq : ∀ v M1, Q v M1 → C v (hM z M1)) (v : Option AV) (h' : AHp) (q : QM z Q v h') : C v h' := by
  obtain ⟨M1, rfl, q⟩ := q
  exact hq v M1 q
theorem WQ.mono {z : Nat × Nat} {d j : Nat} {as : List AV} {M : MT} {Q Q' : Option AV → MT → Prop} (h : ∀ v M, Q v M → Q' v M) (q : WQ z d j as M Q) : WQ z d j as M Q' :=
  WM.mono (fun _ _ ⟨M', e, q⟩ => ⟨M', e, h _ _ q⟩) (fun _ _ f => f) q
theorem WK.mono {z : Nat × Nat} {d j pc : Nat} {ls : List (Option AV)} {st : List AV} {M : MT} {Q Q' : Option AV → MT → Prop} (h : ∀ v M, Q v M → Q' v M) (q : WK z d j pc ls st M Q) : WK z d j pc ls st M Q' :=
  WP.mono (fun _ _ ⟨M', e, q⟩ => ⟨M', e, h _ _ q⟩) (fun _ _ f => f) q
theorem m7 : ∀ q ∈ [((0 : Int), (7 : Nat))], (7 : Nat) = q.2 := fun q hq => by rw [List.mem_singleton.mp hq]
