/-! ===== words of the lemmas that gen20.py prints ===== -/
def ushr (x y : Int32) : Int32 := (x.toUInt32 >>> (y.toUInt32 &&& Int32.toUInt32 31)).toInt32
def thr (lim : Nat × Nat) (X : XT) (n : Nat) (h : AHp) : Prop := hsz h + 1 ≤ lim.1 ∧ hsu h + 6 ≤ lim.2 ∧ ∀ s u, hsz h ≤ s → s ≤ hsz h + 1 → hsu h ≤ u → u ≤ hsu h + 6 → X n (gr h s u)
