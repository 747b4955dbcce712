/-! ===== printed by wip/whole/gen/gen06.py ===== -/
def fxX : List (String × String × String) := [("java/lang/Throwable", "backtrace", "Ljava/lang/Object;"), ("java/lang/Throwable", "UNASSIGNED_STACK", "[Ljava/lang/StackTraceElement;"), ("java/lang/Throwable", "SUPPRESSED_SENTINEL", "Ljava/util/List;"), ("java/lang/Throwable", "backtrace", "Ljava/lang/Object;"), ("java/lang/Throwable", "detailMessage", "Ljava/lang/String;"), ("java/lang/Throwable", "cause", "Ljava/lang/Throwable;"), ("java/lang/Throwable", "stackTrace", "[Ljava/lang/StackTraceElement;"), ("java/lang/Throwable", "suppressedExceptions", "Ljava/util/List;"), ("java/lang/Throwable", "depth", "I")]
def TT (c : Nat) : u_T := match c with
  | 0 => TX0
  | 1 => TX1
  | 2 => TX2
  | 3 => TX3
  | 4 => TX4
  | 5 => TX5
  | 6 => TX6
  | _ => TX7
def tyT (c : Nat) : Nat → FieldType := match c with
  | 0 => tyX0
  | 1 => tyX1
  | 2 => tyX2
  | 3 => tyX3
  | 4 => tyX4
  | 5 => tyX5
  | 6 => tyX6
  | _ => tyX7
def nfs : List Nat := [6, 3, 12, 5, 9, 10, 8, 52]
def fN (c k : Nat) : String × String × String := if c < 8 then ((TT c k).1, (TT c k).2.1, (TT c k).2.2.1) else fxX.getD k ("", "", "")
def flX : List (Nat × Nat × Nat × Nat) := [(1,7,1,0), (6,387,1,0), (1,13,1,1), (1,16,1,2), (6,384,1,2), (3,7,3,0), (4,111,3,0), (6,390,3,0), (3,13,3,1), (6,393,3,1), (3,16,3,2), (6,410,3,2), (3,19,3,3), (6,413,3,3), (3,22,3,4), (1,20,3,4), (4,103,3,4), (6,399,3,4), (0,9,0,0), (6,332,0,0), (0,15,0,1), (6,426,0,1), (0,19,0,2), (6,320,0,2), (0,22,0,3), (0,25,0,4), (0,28,0,5), (6,323,0,5), (5,11,5,0), (5,17,5,1), (6,199,5,1), (5,21,5,2), (6,138,5,2), (5,24,5,3), (6,366,5,3), (5,27,5,4), (6,86,5,4), (5,31,5,5), (6,75,5,5), (5,34,5,6), (6,78,5,6), (5,37,5,7), (6,129,5,7), (5,40,5,8), (6,160,5,8), (5,43,5,9), (6,163,5,9), (6,13,6,0), (6,19,6,1), (6,23,6,2), (6,45,6,3), (6,50,6,4), (6,53,6,5), (6,59,6,6), (6,63,6,7), (2,9,2,0), (0,35,2,0), (5,91,2,0), (6,217,2,0), (2,15,2,1), (0,31,2,1), (6,142,2,1), (5,94,2,1), (2,18,2,2), (0,34,2,2), (5,97,2,2), (6,169,2,2), (2,21,2,3), (6,145,2,3), (5,100,2,3), (2,24,2,4), (5,50,2,4), (6,119,2,4), (2,28,2,5), (5,103,2,5), (6,185,2,5), (2,31,2,6), (5,83,2,6), (6,172,2,6), (2,35,2,7), (5,106,2,7), (6,182,2,7), (2,38,2,8), (5,116,2,8), (6,179,2,8), (2,41,2,9), (5,126,2,9), (6,372,2,9), (2,44,2,10), (6,148,2,10), (5,129,2,10), (2,47,2,11), (6,247,2,11), (9,198,50,0), (9,13,50,1), (9,20,50,2), (9,198,50,3), (9,31,50,4), (9,7,50,5), (9,17,50,6), (9,24,50,7), (4,9,4,0), (4,21,4,1), (4,25,4,2), (4,31,4,3), (6,293,4,3), (4,35,4,4), (6,290,4,4), (4,38,4,5), (4,42,4,6), (4,45,4,7), (4,48,4,8), (7,1,7,0), (7,13,7,1), (7,17,7,2), (7,20,7,3), (7,23,7,4), (7,26,7,5), (7,29,7,6), (7,32,7,7), (7,35,7,8), (7,39,7,9), (7,42,7,10), (7,45,7,11), (7,48,7,12), (7,51,7,13), (7,54,7,14), (7,57,7,15), (7,60,7,16), (7,63,7,17), (7,66,7,18), (7,69,7,19), (7,227,7,20), (7,241,7,21), (7,72,7,22), (7,75,7,23), (7,78,7,24), (7,81,7,25), (7,84,7,26), (7,87,7,27), (7,90,7,28), (7,93,7,29), (7,96,7,30), (7,99,7,31), (7,102,7,32), (7,105,7,33), (7,108,7,34), (7,111,7,35), (7,114,7,36), (7,117,7,37), (7,120,7,38), (7,124,7,39), (7,127,7,40), (7,130,7,41), (7,133,7,42), (7,136,7,43), (7,139,7,44), (7,142,7,45), (7,145,7,46), (7,148,7,47), (7,151,7,48), (7,154,7,49), (7,157,7,50), (7,160,7,51)]
set_option maxRecDepth 100000 in
set_option maxHeartbeats 4000000 in
theorem eqFl : tables_1.filterMap exFl = flX.map (fun q => (cn2 q.1, q.2.1, (fN q.2.2.1 q.2.2.2).1, (fN q.2.2.1 q.2.2.2).2.1, (fN q.2.2.1 q.2.2.2).2.2)) := rfl
def exLay : Cond → Option (Bool × String × String × String × String)
  | .lays c o n d => some (false, c, o, n, d)
  | .laysFinal c o n d => some (true, c, o, n, d)
  | _ => none
def layX : List (Bool × Nat × Nat × Nat) := [(false,1,1,0), (false,1,1,1), (false,1,1,2), (true,3,3,0), (true,3,3,1), (true,3,3,2), (true,3,3,3), (false,3,3,4), (false,0,0,0), (false,0,0,1), (false,0,0,2), (false,0,0,3), (false,0,0,4), (false,0,0,5), (true,5,5,0), (false,5,5,1), (false,5,5,2), (false,5,5,3), (false,5,5,4), (false,5,5,5), (false,5,5,6), (false,5,5,7), (false,5,5,8), (false,5,5,9), (true,6,6,0), (true,6,6,1), (false,6,6,2), (true,6,6,3), (true,6,6,4), (false,6,6,5), (false,6,6,6), (false,6,6,7), (true,2,2,0), (true,2,2,1), (true,2,2,2), (false,2,2,3), (false,2,2,4), (false,2,2,5), (false,2,2,6), (false,2,2,7), (false,2,2,8), (false,2,2,9), (false,2,2,10), (false,2,2,11), (false,12,50,5), (false,9,50,5), (false,12,50,6), (false,9,50,6), (false,12,50,7), (false,9,50,7), (false,12,50,4), (false,9,50,4), (false,12,50,0), (false,9,50,0), (false,12,50,8), (false,13,50,5), (false,13,50,6), (false,13,50,7), (false,13,50,4), (false,13,50,0), (false,13,50,8), (false,14,50,5), (false,14,50,6), (false,14,50,7), (false,14,50,4), (false,14,50,0), (false,14,50,8), (false,16,50,5), (false,16,50,6), (false,16,50,7), (false,16,50,4), (false,16,50,0), (false,16,50,8), (true,4,4,0), (true,4,4,1), (true,4,4,2), (true,4,4,3), (false,4,4,4), (false,4,4,5), (false,4,4,6), (false,4,4,7), (false,4,4,8), (false,7,7,0), (true,7,7,1), (true,7,7,2), (true,7,7,3), (true,7,7,4), (true,7,7,5), (true,7,7,6), (true,7,7,7), (true,7,7,8), (false,7,7,9), (false,7,7,10), (false,7,7,11), (false,7,7,12), (false,7,7,13), (false,7,7,14), (false,7,7,15), (true,7,7,16), (false,7,7,17), (true,7,7,18), (true,7,7,19), (false,7,7,20), (false,7,7,21), (true,7,7,22), (true,7,7,23), (false,7,7,24), (true,7,7,25), (true,7,7,26), (true,7,7,27), (true,7,7,28), (true,7,7,29), (true,7,7,30), (true,7,7,31), (true,7,7,32), (true,7,7,33), (true,7,7,34), (false,7,7,35), (false,7,7,36), (false,7,7,37), (false,7,7,38), (true,7,7,39), (true,7,7,40), (true,7,7,41), (false,7,7,42), (true,7,7,43), (true,7,7,44), (true,7,7,45), (true,7,7,46), (true,7,7,47), (true,7,7,48), (true,7,7,49), (true,7,7,50), (true,7,7,51)]
set_option maxRecDepth 100000 in
set_option maxHeartbeats 4000000 in
theorem eqLay : tables_1.filterMap exLay = layX.map (fun q => (q.1, cn2 q.2.1, (fN q.2.2.1 q.2.2.2).1, (fN q.2.2.1 q.2.2.2).2.1, (fN q.2.2.1 q.2.2.2).2.2)) := rfl
def mNp : List Nat := [0, 0, 0, 3, 0, 3, 4, 1, 1, 1, 0, 1, 0, 0, 0, 0, 0, 3, 1, 4, 1, 1, 0, 0, 0, 0, 2, 0, 0, 0, 3, 2, 1, 0, 0, 1, 1, 1, 0, 0, 0, 1, 0, 0, 0, 2, 4, 5, 3, 0, 1, 1, 1, 1, 1, 3, 1, 1, 3, 1, 3, 1, 3, 1, 1, 1, 1, 1, 1, 3, 1, 3, 1, 5, 3, 2, 3, 1, 3, 1, 1, 3, 1, 3, 1, 3, 1, 1, 4, 2, 3, 1, 3, 1, 0, 0, 3, 1, 2, 1, 3, 1, 4, 2, 3, 3, 1, 5, 3, 4, 2, 3, 1, 3, 1, 1, 3, 1, 1, 4, 2, 2, 2, 0, 3, 1, 3, 1, 5, 3, 0, 3, 1, 5, 3, 1, 1, 3, 1, 2, 0, 3, 0, 0, 0, 1, 0, 0, 1, 1, 0, 0, 1, 3, 1, 2, 3, 4, 2, 1, 4, 2, 4, 2, 1, 1, 1, 1, 3, 1, 1, 3, 1, 1, 3, 1, 2, 0, 0, 0, 3, 3, 1, 0, 0, 2, 4, 1, 1, 1, 3, 1, 1, 1, 1, 0, 1, 0, 1, 3, 0, 0, 0, 1, 0, 0, 1, 1, 1, 1, 1, 1, 2, 1, 1, 1, 1, 2, 2, 1, 0, 1, 1, 1, 3, 1, 2, 3, 3, 2, 1, 1, 1, 1, 1, 2, 0, 0, 0, 0, 0, 1, 1, 1, 3, 4, 1, 3, 1, 1, 0, 0, 0, 0, 0, 3, 0, 0, 1, 1, 2, 1, 2, 2, 3, 2, 2, 1, 1, 1, 1, 1, 0, 0]
def mRc : List Nat := [0, 0, 2, 2, 0, 2, 0, 0, 1, 1, 2, 2, 0, 0, 1, 1, 0, 0, 1, 2, 0, 0, 1, 1, 1, 1, 1, 1, 1, 1, 1, 1, 1, 2, 2, 1, 1, 1, 1, 1, 0, 1, 2, 1, 2, 2, 0, 1, 1, 0, 0, 0, 0, 0, 0, 1, 0, 1, 1, 0, 0, 0, 1, 1, 2, 2, 1, 0, 0, 1, 1, 1, 1, 1, 1, 0, 1, 1, 1, 1, 2, 1, 1, 1, 1, 1, 1, 1, 1, 1, 1, 1, 1, 1, 2, 2, 1, 1, 1, 1, 1, 1, 1, 1, 1, 2, 1, 1, 1, 1, 1, 1, 1, 1, 1, 0, 1, 1, 1, 1, 1, 1, 1, 1, 1, 1, 1, 1, 1, 1, 0, 1, 1, 1, 1, 0, 2, 1, 1, 1, 1, 0, 1, 1, 1, 0, 1, 1, 1, 1, 1, 1, 0, 1, 1, 1, 1, 1, 1, 1, 1, 1, 1, 1, 2, 0, 2, 1, 1, 1, 2, 1, 1, 0, 1, 1, 1, 1, 1, 0, 1, 1, 1, 0, 0, 1, 1, 0, 0, 0, 0, 1, 1, 1, 1, 1, 1, 1, 1, 1, 1, 1, 1, 1, 1, 1, 1, 1, 1, 1, 1, 1, 1, 1, 1, 1, 1, 1, 0, 1, 1, 0, 0, 1, 1, 1, 1, 1, 1, 1, 1, 1, 1, 1, 1, 1, 0, 1, 1, 1, 0, 1, 1, 1, 1, 1, 1, 1, 1, 1, 1, 0, 0, 0, 1, 0, 0, 1, 0, 1, 1, 1, 1, 1, 1, 1, 1, 1, 1, 1, 1, 1, 1, 1]
/-- kind of a field or of an array's places: 0 a number, 1 a reference, 2 a long -/
def ft (c k : Nat) : Nat := if c < 8 then (ftab.getD c []).getD k 0 else if c < 10 then 0 else if c < 13 then 1 else if c = 13 then 2 else 0
def isZ (c k : Nat) : Bool := decide ((TT c k).2.2.1 = "Z")
def icX : List (Nat × Nat) := [(70,1), (85,2), (115,3), (224,4)]
abbrev jObj : Nat := 1
abbrev jMax : Nat := 26
abbrev jMin : Nat := 121
def ccode : ClassFile.Cond → Nat
  | .eq => 0 | .ne => 1 | .lt => 2 | .ge => 3 | .gt => 4 | .le => 5
def atk : Nat → Option ArrayType
  | 8 => some .int | 9 => some .boolean | 13 => some .long | _ => none
/-- the rest of a throw: dup, ldc, the constructor, athrow -/
def okThrow (cc : ByteArray) (pc e : Nat) : Bool := match decode cc (pc + 3), decode cc (pc + 4) with
  | .ok (.dup, 1), .ok (.ldc is, 2) => (SLn.any fun q => decide (q.1 = is)) && (match decode cc (pc + 6), decode cc (pc + 9) with
      | .ok (.invokespecial ic, 3), .ok (.athrow, 1) => decide ((ic, e) ∈ icX)
      | _, _ => false)
  | .ok (.dup, 1), .ok (.ldc_w is, 3) => (SLn.any fun q => decide (q.1 = is)) && (match decode cc (pc + 7), decode cc (pc + 10) with
      | .ok (.invokespecial ic, 3), .ok (.athrow, 1) => decide ((ic, e) ∈ icX)
      | _, _ => false)
  | _, _ => false
def iq (i k : Ins) : Bool := decide (i.1 = k.1) && decide (i.2.1 = k.2.1) && decide (i.2.2.1 = k.2.2.1) && decide (i.2.2.2.1 = k.2.2.2.1) && decide (i.2.2.2.2.1 = k.2.2.2.2.1) && decide (i.2.2.2.2.2 = k.2.2.2.2.2)
theorem iq_eq {i k : Ins} (h : iq i k = true) : i = k := by
  simp only [iq, Bool.and_eq_true, decide_eq_true_eq] at h
  obtain ⟨⟨⟨⟨⟨h1, h2⟩, h3⟩, h4⟩, h5⟩, h6⟩ := h
  exact Prod.ext h1 (Prod.ext h2 (Prod.ext h3 (Prod.ext h4 (Prod.ext h5 h6))))
def okIns (o nL : Nat) (cc : ByteArray) (zr ii : Bool) (pc : Nat) (ins : Instr) (len : Nat) (i : Ins) : Bool := match ins with
  | .iload_n k => decide (len = 1 ∧ iq i (0, k.val, 0, pc + 1, 0, []) = true)
  | .iload k => decide (len = 2 ∧ iq i (0, k, 0, pc + 2, 0, []) = true)
  | .aload_n k => decide (len = 1 ∧ iq i (1, k.val, 0, pc + 1, 0, []) = true)
  | .aload k => decide (len = 2 ∧ iq i (1, k, 0, pc + 2, 0, []) = true)
  | .istore_n k => decide (len = 1 ∧ iq i (2, k.val, 0, pc + 1, 0, []) = true ∧ k.val < nL)
  | .istore k => decide (len = 2 ∧ iq i (2, k, 0, pc + 2, 0, []) = true ∧ k < nL)
  | .astore_n k => decide (len = 1 ∧ iq i (3, k.val, 0, pc + 1, 0, []) = true ∧ k.val < nL)
  | .astore k => decide (len = 2 ∧ iq i (3, k, 0, pc + 2, 0, []) = true ∧ k < nL)
  | .iconst n => decide (len = 1 ∧ iq i (4, 0, 0, pc + 1, n, []) = true)
  | .bipush n => decide (len = 2 ∧ iq i (4, 0, 0, pc + 2, n, []) = true ∧ (Int8.ofInt n).toInt32 = Int32.ofInt n)
  | .sipush n => decide (len = 3 ∧ iq i (4, 0, 0, pc + 3, n, []) = true ∧ (Int16.ofInt n).toInt32 = Int32.ofInt n)
  | .ldc k => decide (len = 2 ∧ iq i (4, 0, 0, pc + 2, i.2.2.2.2.1, []) = true ∧ (o, k, i.2.2.2.2.1) ∈ klX)
  | .ldc_w k => decide (len = 3 ∧ iq i (4, 0, 0, pc + 3, i.2.2.2.2.1, []) = true ∧ (o, k, i.2.2.2.2.1) ∈ klX)
  | .aconst_null => decide (len = 1 ∧ iq i (5, 0, 0, pc + 1, 0, []) = true)
  | .lconst n => decide (len = 1 ∧ iq i (51, 0, 0, pc + 1, (n.val : Int), []) = true)
  | .getfield k => decide (len = 3 ∧ iq i (if ft i.2.1 i.2.2.1 = 0 then 6 else 7, i.2.1, i.2.2.1, pc + 3, 0, []) = true ∧ i.2.1 < 8 ∧ i.2.2.1 < nfs.getD i.2.1 0 ∧ (o, k, i.2.1, i.2.2.1) ∈ flX)
  | .putfield k => decide (len = 3 ∧ iq i (if ft i.2.1 i.2.2.1 = 0 then (if isZ i.2.1 i.2.2.1 = true then 9 else 8) else 10, i.2.1, i.2.2.1, pc + 3, 0, []) = true ∧ i.2.1 < 8 ∧ i.2.2.1 < nfs.getD i.2.1 0 ∧ (o, k, i.2.1, i.2.2.1) ∈ flX ∧ ((TT i.2.1 i.2.2.1).2.2.2 = true → ii = true ∧ o = i.2.1))
  | .iadd => decide (len = 1 ∧ iq i (11, 0, 0, pc + 1, 0, []) = true)
  | .isub => decide (len = 1 ∧ iq i (11, 1, 0, pc + 1, 0, []) = true)
  | .imul => decide (len = 1 ∧ iq i (11, 2, 0, pc + 1, 0, []) = true)
  | .iand => decide (len = 1 ∧ iq i (11, 3, 0, pc + 1, 0, []) = true)
  | .ior => decide (len = 1 ∧ iq i (11, 4, 0, pc + 1, 0, []) = true)
  | .ixor => decide (len = 1 ∧ iq i (11, 5, 0, pc + 1, 0, []) = true)
  | .ishl => decide (len = 1 ∧ iq i (11, 6, 0, pc + 1, 0, []) = true)
  | .ishr => decide (len = 1 ∧ iq i (11, 7, 0, pc + 1, 0, []) = true)
  | .iushr => decide (len = 1 ∧ iq i (11, 8, 0, pc + 1, 0, []) = true)
  | .idiv => decide (len = 1 ∧ iq i (12, 0, 0, pc + 1, 0, []) = true)
  | .irem => decide (len = 1 ∧ iq i (13, 0, 0, pc + 1, 0, []) = true)
  | .ineg => decide (len = 1 ∧ iq i (14, 0, 0, pc + 1, 0, []) = true)
  | .iinc k n => decide (len = 3 ∧ iq i (15, k, 0, pc + 3, n, []) = true)
  | .goto f => decide (len = 3 ∧ iq i (16, 0, i.2.2.1, pc + 3, 0, []) = true ∧ (pc : Int) + f = (i.2.2.1 : Int))
  | .ifCond c f => decide (len = 3 ∧ iq i (17, ccode c, i.2.2.1, pc + 3, 0, []) = true ∧ (pc : Int) + f = (i.2.2.1 : Int))
  | .if_icmp c f => decide (len = 3 ∧ iq i (18, ccode c, i.2.2.1, pc + 3, 0, []) = true ∧ (pc : Int) + f = (i.2.2.1 : Int))
  | .if_acmp .eq f => decide (len = 3 ∧ iq i (19, 0, i.2.2.1, pc + 3, 0, []) = true ∧ (pc : Int) + f = (i.2.2.1 : Int))
  | .if_acmp .ne f => decide (len = 3 ∧ iq i (20, 0, i.2.2.1, pc + 3, 0, []) = true ∧ (pc : Int) + f = (i.2.2.1 : Int))
  | .ifnull f => decide (len = 3 ∧ iq i (21, 0, i.2.2.1, pc + 3, 0, []) = true ∧ (pc : Int) + f = (i.2.2.1 : Int))
  | .ifnonnull f => decide (len = 3 ∧ iq i (22, 0, i.2.2.1, pc + 3, 0, []) = true ∧ (pc : Int) + f = (i.2.2.1 : Int))
  | .iaload => decide (len = 1 ∧ (iq i (23, 8, 0, pc + 1, 0, []) = true ∨ iq i (23, 14, 0, pc + 1, 0, []) = true))
  | .baload => decide (len = 1 ∧ iq i (23, 9, 0, pc + 1, 0, []) = true)
  | .aaload => decide (len = 1 ∧ iq i (24, i.2.1, 0, pc + 1, 0, []) = true ∧ 10 ≤ i.2.1 ∧ i.2.1 < 13)
  | .iastore => decide (len = 1 ∧ iq i (25, 0, 0, pc + 1, 0, []) = true)
  | .bastore => decide (len = 1 ∧ iq i (26, 0, 0, pc + 1, 0, []) = true)
  | .aastore => decide (len = 1 ∧ iq i (27, i.2.1, i.2.2.1, pc + 1, 0, []) = true ∧ i.2.2.1 < 3 ∧ i.2.1 = i.2.2.1 + 10)
  | .arraylength => decide (len = 1 ∧ iq i (28, 0, 0, pc + 1, 0, []) = true)
  | .dup => decide (len = 1 ∧ iq i (29, 0, 0, pc + 1, 0, []) = true)
  | .dup2 => decide (len = 1 ∧ iq i (30, 0, 0, pc + 1, 0, []) = true)
  | .pop => decide (len = 1 ∧ iq i (31, 0, 0, pc + 1, 0, []) = true)
  | .invokestatic k => decide (len = 3 ∧ ((iq i (37, 0, 0, pc + 3, 0, []) = true ∧ (o, k, jMax) ∈ mlX) ∨ (iq i (38, 0, 0, pc + 3, 0, []) = true ∧ (o, k, jMin) ∈ mlX) ∨
      (iq i (32, i.2.1, mNp.getD i.2.1 0, pc + 3, (mRc.getD i.2.1 0 : Nat), []) = true ∧ i.2.1 < 274 ∧ mown i.2.1 < 9 ∧ (o, k, i.2.1) ∈ mlX ∧ i.2.1 ∈ stX) ∨
      (iq i (35, i.2.1, mNp.getD i.2.1 0, pc + 3, (mRc.getD i.2.1 0 : Nat), []) = true ∧ i.2.1 < 274 ∧ mown i.2.1 < 9 ∧ (o, k, i.2.1, 6) ∈ mnX ∧ i.2.1 ∈ stX)))
  | .invokevirtual k => decide (len = 3 ∧ iq i (33, i.2.1, mNp.getD i.2.1 0, pc + 3, (mRc.getD i.2.1 0 : Nat), [(0, mown i.2.1)]) = true ∧ i.2.1 < 274 ∧ mown i.2.1 < 8 ∧ (o, k, i.2.1) ∈ mlX ∧ i.2.1 ∈ inX ∧ (mown i.2.1, i.2.1, i.2.1) ∈ selX)
  | .invokespecial k => decide (len = 3 ∧ ((iq i (36, 0, 0, pc + 3, 0, []) = true ∧ (o, k, jObj) ∈ mlX) ∨
      (iq i (34, i.2.1, mNp.getD i.2.1 0, pc + 3, (mRc.getD i.2.1 0 : Nat), []) = true ∧ i.2.1 < 274 ∧ mown i.2.1 < 8 ∧ (o, k, i.2.1) ∈ mlX ∧ i.2.1 ∈ inX ∧ (my i.2.1).name = "<init>")))
  | .new k => decide (len = 3 ∧ ((iq i (39, i.2.1, nfs.getD i.2.1 0, pc + 3, 0, []) = true ∧ i.2.1 < 8 ∧ (o, k, i.2.1) ∈ clX ∧ (i.2.1, nfs.getD i.2.1 0) ∈ insX) ∨
      (iq i (46, i.2.1, 0, 0, 0, []) = true ∧ o = 6 ∧ (o, k, i.2.1) ∈ XLn ∧ okThrow cc pc i.2.1 = true)))
  | .newarray t => decide (len = 2 ∧ iq i (40, i.2.1, 0, pc + 2, 0, []) = true ∧ atk i.2.1 = some t)
  | .anewarray k => decide (len = 3 ∧ iq i (40, i.2.1, 0, pc + 3, 0, []) = true ∧ 10 ≤ i.2.1 ∧ i.2.1 < 13 ∧ (o, k, i.2.1 - 10) ∈ clX)
  | .ireturn => decide (len = 1 ∧ iq i (if zr = true then 42 else 41, 0, 0, 0, 0, []) = true)
  | .areturn => decide (len = 1 ∧ iq i (43, 0, 0, 0, 0, []) = true)
  | .return_ => decide (len = 1 ∧ iq i (44, 0, 0, 0, 0, []) = true)
  | .tableswitch d lo hi offs => decide (iq i (45, 0, i.2.2.1, 0, 0, (List.range offs.size).map (fun (k : Nat) => (lo + (k : Int), ((pc : Int) + offs.toList.getD k 0).toNat))) = true ∧ (pc : Int) + d = (i.2.2.1 : Int) ∧ hi + 1 - lo = (offs.size : Int) ∧ (List.range offs.size).all (fun (k : Nat) => decide (0 ≤ (pc : Int) + offs.toList.getD k 0)) = true ∧ -1000 ≤ lo ∧ hi ≤ 1000)
  | .lookupswitch d ps => decide (iq i (45, 0, i.2.2.1, 0, 0, ps.toList.map (fun q => (q.1, ((pc : Int) + q.2).toNat))) = true ∧ (pc : Int) + d = (i.2.2.1 : Int) ∧ ps.toList.all (fun q => decide (0 ≤ (pc : Int) + q.2) && decide (-1000 ≤ q.1) && decide (q.1 ≤ 1000)) = true ∧ (ps.toList.zip (ps.toList.drop 1)).all (fun (a, next) => decide (a.1 < next.1)) = true)
  | .i2l => decide (len = 1 ∧ iq i (47, 0, 0, pc + 1, 0, []) = true)
  | .lcmp => decide (len = 1 ∧ iq i (48, 0, 0, pc + 1, 0, []) = true)
  | .laload => decide (len = 1 ∧ iq i (49, 0, 0, pc + 1, 0, []) = true)
  | .lastore => decide (len = 1 ∧ iq i (50, 0, 0, pc + 1, 0, []) = true)
  | _ => false
def okI (o nL : Nat) (cc : ByteArray) (zr ii : Bool) (pc : Nat) (i : Ins) : Bool := match decode cc pc with
  | .ok q => okIns o nL cc zr ii pc q.1 q.2 i
  | .error _ => false
def okK (o nL : Nat) (cc : ByteArray) (zr ii : Bool) (k : List (Nat × List (Nat × Ins))) : Bool := k.all fun c => c.2.all fun q => okI o nL cc zr ii q.1 q.2
def mrow (j : Nat) : MethodName × ByteArray × Nat × Option FieldType × Option (List (Nat × Nat × Nat × Nat)) := MTab.getD j (⟨"", "", ""⟩, .mk #[], 0, none, none)
abbrev KR : Type := Nat × Nat × ByteArray × Bool × Bool × List (Nat × List (Nat × Ins))
def okR (q : KR) : Prop := okK q.1 q.2.1 q.2.2.1 q.2.2.2.1 q.2.2.2.2.1 q.2.2.2.2.2 = true
set_option maxRecDepth 100000 in
theorem ck_0 : okR (6, 2, prog_1_method_1_code, false, true, k_It_init) := by unfold okR; decide +kernel
set_option maxRecDepth 100000 in
theorem ck_2 : okR (6, 4, prog_1_method_62_code, false, false, k_It_makeDigestTable) := by unfold okR; decide +kernel
set_option maxRecDepth 100000 in
theorem ck_3 : okR (6, 4, prog_1_method_72_code, false, false, k_It_rangeFilter) := by unfold okR; decide +kernel
set_option maxRecDepth 100000 in
theorem ck_4 : okR (1, 1, prog_3_method_1_code, false, true, k_Fi_init) := by unfold okR; decide +kernel
set_option maxRecDepth 100000 in
theorem ck_5 : okR (6, 3, prog_1_method_71_code, false, false, k_It_rangeStep) := by unfold okR; decide +kernel
set_option maxRecDepth 100000 in
theorem ck_6 : okR (3, 5, prog_5_method_1_code, false, true, k_St_init) := by unfold okR; decide +kernel
set_option maxRecDepth 100000 in
theorem ck_7 : okR (1, 2, prog_3_method_2_code, false, false, k_Fi_append) := by unfold okR; decide +kernel
set_option maxRecDepth 100000 in
theorem ck_8 : okR (6, 4, prog_1_method_74_code, false, false, k_It_addFilter) := by unfold okR; decide +kernel
set_option maxRecDepth 100000 in
theorem ck_9 : okR (6, 3, prog_1_method_75_code, false, false, k_It_needsOf) := by unfold okR; decide +kernel
set_option maxRecDepth 100000 in
theorem ck_10 : okR (6, 1, prog_1_method_73_code, false, false, k_It_overlappingFilter) := by unfold okR; decide +kernel
set_option maxRecDepth 100000 in
theorem ck_11 : okR (6, 1, prog_1_method_69_code, false, false, k_It_plainStep) := by unfold okR; decide +kernel
set_option maxRecDepth 100000 in
theorem ck_12 : okR (0, 1, prog_2_method_1_code, false, true, k_Cu_init) := by unfold okR; decide +kernel
set_option maxRecDepth 100000 in
theorem ck_13 : okR (5, 1, prog_7_method_1_code, false, true, k_Tr_init) := by unfold okR; decide +kernel
set_option maxRecDepth 100000 in
theorem ck_14 : okR (6, 1, prog_1_method_5_code, false, false, k_It_rebuild) := by unfold okR; decide +kernel
set_option maxRecDepth 100000 in
theorem ck_15 : okR (5, 2, prog_7_method_7_code, false, false, k_Tr_renew) := by unfold okR; decide +kernel
set_option maxRecDepth 100000 in
theorem ck_16 : okR (5, 3, prog_7_method_15_code, false, false, k_Tr_unchainRemoved) := by unfold okR; decide +kernel
set_option maxRecDepth 100000 in
theorem ck_17 : okR (5, 4, prog_7_method_11_code, false, false, k_Tr_chain) := by unfold okR; decide +kernel
set_option maxRecDepth 100000 in
theorem ck_18 : okR (5, 3, prog_7_method_16_code, false, false, k_Tr_redDepth) := by unfold okR; decide +kernel
set_option maxRecDepth 100000 in
theorem ck_19 : okR (5, 7, prog_7_method_17_code, false, false, k_Tr_build) := by unfold okR; decide +kernel
set_option maxRecDepth 100000 in
theorem ck_20 : okR (2, 2, prog_4_method_12_code, false, false, k_No_setLeft) := by unfold okR; decide +kernel
set_option maxRecDepth 100000 in
theorem ck_21 : okR (2, 2, prog_4_method_13_code, false, false, k_No_setRight) := by unfold okR; decide +kernel
set_option maxRecDepth 100000 in
theorem ck_22 : okR (6, 1, prog_1_method_8_code, false, false, k_It_size) := by unfold okR; decide +kernel
set_option maxRecDepth 100000 in
theorem ck_23 : okR (6, 1, prog_1_method_9_code, false, false, k_It_nodeCount) := by unfold okR; decide +kernel
set_option maxRecDepth 100000 in
theorem ck_24 : okR (6, 3, prog_1_method_10_code, false, false, k_It_height) := by unfold okR; decide +kernel
set_option maxRecDepth 100000 in
theorem ck_25 : okR (2, 3, prog_4_method_7_code, false, false, k_No_level) := by unfold okR; decide +kernel
set_option maxRecDepth 100000 in
theorem ck_27 : okR (6, 1, prog_1_method_11_code, false, false, k_It_rebuildCount) := by unfold okR; decide +kernel
set_option maxRecDepth 100000 in
theorem ck_28 : okR (6, 1, prog_1_method_12_code, false, false, k_It_rebuiltNodes) := by unfold okR; decide +kernel
set_option maxRecDepth 100000 in
theorem ck_29 : okR (6, 1, prog_1_method_23_code, false, false, k_It_digest) := by unfold okR; decide +kernel
set_option maxRecDepth 100000 in
theorem ck_30 : okR (6, 5, prog_1_method_63_code, false, false, k_It_digestOf) := by unfold okR; decide +kernel
set_option maxRecDepth 100000 in
theorem ck_31 : okR (6, 3, prog_1_method_64_code, false, false, k_It_absorb) := by unfold okR; decide +kernel
set_option maxRecDepth 100000 in
theorem ck_32 : okR (6, 4, prog_1_method_24_code, false, false, k_It_stabCount) := by unfold okR; decide +kernel
set_option maxRecDepth 100000 in
theorem ck_33 : okR (5, 1, prog_7_method_4_code, false, false, k_Tr_firstLive) := by unfold okR; decide +kernel
set_option maxRecDepth 100000 in
theorem ck_34 : okR (2, 2, prog_4_method_10_code, false, false, k_No_liveAfter) := by unfold okR; decide +kernel
set_option maxRecDepth 100000 in
theorem ck_35 : okR (6, 4, prog_1_method_25_code, false, false, k_It_stabWeight) := by unfold okR; decide +kernel
set_option maxRecDepth 100000 in
theorem ck_36 : okR (6, 4, prog_1_method_29_code, false, false, k_It_floor) := by unfold okR; decide +kernel
set_option maxRecDepth 100000 in
theorem ck_37 : okR (6, 3, prog_1_method_30_code, false, false, k_It_ceiling) := by unfold okR; decide +kernel
set_option maxRecDepth 100000 in
theorem ck_38 : okR (6, 4, prog_1_method_36_code, false, false, k_It_overlapCount) := by unfold okR; decide +kernel
set_option maxRecDepth 100000 in
theorem ck_39 : okR (6, 1, prog_1_method_37_code, false, false, k_It_scheduleWeight) := by unfold okR; decide +kernel
set_option maxRecDepth 100000 in
theorem ck_40 : okR (6, 2, prog_1_method_67_code, false, false, k_It_planSchedule) := by unfold okR; decide +kernel
set_option maxRecDepth 100000 in
theorem ck_41 : okR (6, 1, prog_1_method_68_code, false, false, k_It_bestFrom) := by unfold okR; decide +kernel
set_option maxRecDepth 100000 in
theorem ck_42 : okR (2, 2, prog_4_method_11_code, false, false, k_No_firstBeyond) := by unfold okR; decide +kernel
set_option maxRecDepth 100000 in
theorem ck_43 : okR (6, 1, prog_1_method_51_code, false, false, k_It_save) := by unfold okR; decide +kernel
set_option maxRecDepth 100000 in
theorem ck_44 : okR (5, 2, prog_7_method_8_code, false, false, k_Tr_copy) := by unfold okR; decide +kernel
set_option maxRecDepth 100000 in
theorem ck_45 : okR (5, 4, prog_7_method_9_code, false, false, k_Tr_takeOver) := by unfold okR; decide +kernel
set_option maxRecDepth 100000 in
theorem ck_46 : okR (2, 5, prog_4_method_1_code, false, true, k_No_init) := by unfold okR; decide +kernel
set_option maxRecDepth 100000 in
theorem ck_47 : okR (8, 6, method_3_code, false, false, k_La_insert) := by unfold okR; decide +kernel
set_option maxRecDepth 100000 in
theorem ck_48 : okR (6, 5, prog_1_method_2_code, false, false, k_It_insert) := by unfold okR; decide +kernel
set_option maxRecDepth 100000 in
theorem ck_55 : okR (5, 6, prog_7_method_5_code, false, false, k_Tr_add) := by unfold okR; decide +kernel
set_option maxRecDepth 100000 in
theorem ck_56 : okR (5, 6, prog_7_method_10_code, false, false, k_Tr_hang) := by unfold okR; decide +kernel
set_option maxRecDepth 100000 in
theorem ck_57 : okR (2, 2, prog_4_method_2_code, true, false, k_No_isLessThan) := by unfold okR; decide +kernel
set_option maxRecDepth 100000 in
theorem ck_58 : okR (2, 4, prog_4_method_3_code, true, false, k_No_isBehind) := by unfold okR; decide +kernel
set_option maxRecDepth 100000 in
theorem ck_59 : okR (5, 7, prog_7_method_12_code, false, false, k_Tr_balance) := by unfold okR; decide +kernel
set_option maxRecDepth 100000 in
theorem ck_60 : okR (5, 6, prog_7_method_13_code, false, false, k_Tr_turn) := by unfold okR; decide +kernel
set_option maxRecDepth 100000 in
theorem ck_61 : okR (5, 4, prog_7_method_14_code, false, false, k_Tr_lift) := by unfold okR; decide +kernel
set_option maxRecDepth 100000 in
theorem ck_62 : okR (8, 4, method_4_code, false, false, k_La_remove) := by unfold okR; decide +kernel
set_option maxRecDepth 100000 in
theorem ck_63 : okR (6, 2, prog_1_method_3_code, false, false, k_It_remove) := by unfold okR; decide +kernel
set_option maxRecDepth 100000 in
theorem ck_64 : okR (6, 3, prog_1_method_57_code, false, false, k_It_liveNode) := by unfold okR; decide +kernel
set_option maxRecDepth 100000 in
theorem ck_65 : okR (5, 2, prog_7_method_3_code, false, false, k_Tr_find) := by unfold okR; decide +kernel
set_option maxRecDepth 100000 in
theorem ck_66 : okR (5, 2, prog_7_method_2_code, true, false, k_Tr_wasInserted) := by unfold okR; decide +kernel
set_option maxRecDepth 100000 in
theorem ck_68 : okR (5, 2, prog_7_method_6_code, false, false, k_Tr_markRemoved) := by unfold okR; decide +kernel
set_option maxRecDepth 100000 in
theorem ck_69 : okR (8, 4, method_5_code, false, false, k_La_restore) := by unfold okR; decide +kernel
set_option maxRecDepth 100000 in
theorem ck_70 : okR (6, 3, prog_1_method_4_code, false, false, k_It_restore) := by unfold okR; decide +kernel
set_option maxRecDepth 100000 in
theorem ck_71 : okR (8, 4, method_6_code, false, false, k_La_setRebuildPercentage) := by unfold okR; decide +kernel
set_option maxRecDepth 100000 in
theorem ck_72 : okR (6, 3, prog_1_method_6_code, false, false, k_It_setRebuildPercentage) := by unfold okR; decide +kernel
set_option maxRecDepth 100000 in
theorem ck_73 : okR (8, 6, method_7_code, false, false, k_La_addWeight) := by unfold okR; decide +kernel
set_option maxRecDepth 100000 in
theorem ck_74 : okR (6, 6, prog_1_method_7_code, false, false, k_It_addWeight) := by unfold okR; decide +kernel
set_option maxRecDepth 100000 in
theorem ck_75 : okR (6, 2, prog_1_method_53_code, false, false, k_It_checkRange) := by unfold okR; decide +kernel
set_option maxRecDepth 100000 in
theorem ck_76 : okR (8, 4, method_8_code, false, false, k_La_state) := by unfold okR; decide +kernel
set_option maxRecDepth 100000 in
theorem ck_77 : okR (6, 3, prog_1_method_13_code, false, false, k_It_state) := by unfold okR; decide +kernel
set_option maxRecDepth 100000 in
theorem ck_78 : okR (8, 4, method_9_code, false, false, k_La_low) := by unfold okR; decide +kernel
set_option maxRecDepth 100000 in
theorem ck_79 : okR (6, 2, prog_1_method_14_code, false, false, k_It_low) := by unfold okR; decide +kernel
set_option maxRecDepth 100000 in
theorem ck_80 : okR (6, 3, prog_1_method_56_code, false, false, k_It_presentNode) := by unfold okR; decide +kernel
set_option maxRecDepth 100000 in
theorem ck_81 : okR (8, 4, method_10_code, false, false, k_La_high) := by unfold okR; decide +kernel
set_option maxRecDepth 100000 in
theorem ck_82 : okR (6, 2, prog_1_method_15_code, false, false, k_It_high) := by unfold okR; decide +kernel
set_option maxRecDepth 100000 in
theorem ck_83 : okR (8, 4, method_11_code, false, false, k_La_weight) := by unfold okR; decide +kernel
set_option maxRecDepth 100000 in
theorem ck_84 : okR (6, 2, prog_1_method_16_code, false, false, k_It_weight) := by unfold okR; decide +kernel
set_option maxRecDepth 100000 in
theorem ck_85 : okR (8, 4, method_12_code, false, false, k_La_parent) := by unfold okR; decide +kernel
set_option maxRecDepth 100000 in
theorem ck_86 : okR (6, 2, prog_1_method_17_code, false, false, k_It_parent) := by unfold okR; decide +kernel
set_option maxRecDepth 100000 in
theorem ck_87 : okR (6, 1, prog_1_method_60_code, false, false, k_It_idOf) := by unfold okR; decide +kernel
set_option maxRecDepth 100000 in
theorem ck_88 : okR (8, 5, method_13_code, false, false, k_La_child) := by unfold okR; decide +kernel
set_option maxRecDepth 100000 in
theorem ck_89 : okR (6, 4, prog_1_method_18_code, false, false, k_It_child) := by unfold okR; decide +kernel
set_option maxRecDepth 100000 in
theorem ck_90 : okR (8, 4, method_14_code, false, false, k_La_isRed) := by unfold okR; decide +kernel
set_option maxRecDepth 100000 in
theorem ck_91 : okR (6, 2, prog_1_method_19_code, true, false, k_It_isRed) := by unfold okR; decide +kernel
set_option maxRecDepth 100000 in
theorem ck_92 : okR (8, 4, method_15_code, false, false, k_La_subtreeSize) := by unfold okR; decide +kernel
set_option maxRecDepth 100000 in
theorem ck_93 : okR (6, 6, prog_1_method_20_code, false, false, k_It_subtreeSize) := by unfold okR; decide +kernel
set_option maxRecDepth 100000 in
theorem ck_94 : okR (2, 3, prog_4_method_9_code, false, false, k_No_rightmost) := by unfold okR; decide +kernel
set_option maxRecDepth 100000 in
theorem ck_95 : okR (2, 3, prog_4_method_8_code, false, false, k_No_leftmost) := by unfold okR; decide +kernel
set_option maxRecDepth 100000 in
theorem ck_96 : okR (8, 4, method_16_code, false, false, k_La_subtreeHigh) := by unfold okR; decide +kernel
set_option maxRecDepth 100000 in
theorem ck_97 : okR (6, 2, prog_1_method_21_code, false, false, k_It_subtreeHigh) := by unfold okR; decide +kernel
set_option maxRecDepth 100000 in
theorem ck_98 : okR (6, 6, prog_1_method_61_code, false, false, k_It_greatestInSubtree) := by unfold okR; decide +kernel
set_option maxRecDepth 100000 in
theorem ck_99 : okR (2, 2, prog_4_method_6_code, false, false, k_No_valueOf) := by unfold okR; decide +kernel
set_option maxRecDepth 100000 in
theorem ck_100 : okR (8, 4, method_17_code, false, false, k_La_subtreeWeight) := by unfold okR; decide +kernel
set_option maxRecDepth 100000 in
theorem ck_101 : okR (6, 2, prog_1_method_22_code, false, false, k_It_subtreeWeight) := by unfold okR; decide +kernel
set_option maxRecDepth 100000 in
theorem ck_102 : okR (8, 5, method_18_code, false, false, k_La_heaviest) := by unfold okR; decide +kernel
set_option maxRecDepth 100000 in
theorem ck_103 : okR (6, 3, prog_1_method_26_code, false, false, k_It_heaviest) := by unfold okR; decide +kernel
set_option maxRecDepth 100000 in
theorem ck_104 : okR (6, 6, prog_1_method_65_code, false, false, k_It_ranked) := by unfold okR; decide +kernel
set_option maxRecDepth 100000 in
theorem ck_105 : okR (6, 7, prog_1_method_66_code, false, false, k_It_heaviestBehind) := by unfold okR; decide +kernel
set_option maxRecDepth 100000 in
theorem ck_106 : okR (2, 2, prog_4_method_4_code, true, false, k_No_outranks) := by unfold okR; decide +kernel
set_option maxRecDepth 100000 in
theorem ck_107 : okR (8, 6, method_19_code, false, false, k_La_heaviestOverlap) := by unfold okR; decide +kernel
set_option maxRecDepth 100000 in
theorem ck_108 : okR (6, 4, prog_1_method_27_code, false, false, k_It_heaviestOverlap) := by unfold okR; decide +kernel
set_option maxRecDepth 100000 in
theorem ck_109 : okR (8, 5, method_20_code, false, false, k_La_firstOverlap) := by unfold okR; decide +kernel
set_option maxRecDepth 100000 in
theorem ck_110 : okR (6, 4, prog_1_method_28_code, false, false, k_It_firstOverlap) := by unfold okR; decide +kernel
set_option maxRecDepth 100000 in
theorem ck_111 : okR (8, 4, method_21_code, false, false, k_La_rank) := by unfold okR; decide +kernel
set_option maxRecDepth 100000 in
theorem ck_112 : okR (6, 5, prog_1_method_31_code, false, false, k_It_rank) := by unfold okR; decide +kernel
set_option maxRecDepth 100000 in
theorem ck_113 : okR (8, 4, method_22_code, false, false, k_La_select) := by unfold okR; decide +kernel
set_option maxRecDepth 100000 in
theorem ck_114 : okR (6, 4, prog_1_method_32_code, false, false, k_It_select) := by unfold okR; decide +kernel
set_option maxRecDepth 100000 in
theorem ck_116 : okR (8, 4, method_23_code, false, false, k_La_nearest) := by unfold okR; decide +kernel
set_option maxRecDepth 100000 in
theorem ck_117 : okR (6, 6, prog_1_method_33_code, false, false, k_It_nearest) := by unfold okR; decide +kernel
set_option maxRecDepth 100000 in
theorem ck_118 : okR (2, 2, prog_4_method_5_code, false, false, k_No_distanceTo) := by unfold okR; decide +kernel
set_option maxRecDepth 100000 in
theorem ck_119 : okR (8, 5, method_24_code, false, false, k_La_covered) := by unfold okR; decide +kernel
set_option maxRecDepth 100000 in
theorem ck_120 : okR (6, 8, prog_1_method_34_code, false, false, k_It_covered) := by unfold okR; decide +kernel
set_option maxRecDepth 100000 in
theorem ck_122 : okR (8, 3, method_25_code, false, false, k_La_deepestPoint) := by unfold okR; decide +kernel
set_option maxRecDepth 100000 in
theorem ck_123 : okR (6, 5, prog_1_method_35_code, false, false, k_It_deepestPoint) := by unfold okR; decide +kernel
set_option maxRecDepth 100000 in
theorem ck_124 : okR (8, 4, method_26_code, false, false, k_La_scheduled) := by unfold okR; decide +kernel
set_option maxRecDepth 100000 in
theorem ck_125 : okR (6, 5, prog_1_method_38_code, false, false, k_It_scheduled) := by unfold okR; decide +kernel
set_option maxRecDepth 100000 in
theorem ck_126 : okR (8, 4, method_27_code, false, false, k_La_piercingPoint) := by unfold okR; decide +kernel
set_option maxRecDepth 100000 in
theorem ck_127 : okR (6, 5, prog_1_method_39_code, false, false, k_It_piercingPoint) := by unfold okR; decide +kernel
set_option maxRecDepth 100000 in
theorem ck_128 : okR (8, 6, method_28_code, false, false, k_La_addRangeFilter) := by unfold okR; decide +kernel
set_option maxRecDepth 100000 in
theorem ck_129 : okR (6, 4, prog_1_method_40_code, false, false, k_It_addRangeFilter) := by unfold okR; decide +kernel
set_option maxRecDepth 100000 in
theorem ck_130 : okR (6, 1, prog_1_method_55_code, false, false, k_It_checkFilterRoom) := by unfold okR; decide +kernel
set_option maxRecDepth 100000 in
theorem ck_131 : okR (8, 4, method_29_code, false, false, k_La_addHeavierFilter) := by unfold okR; decide +kernel
set_option maxRecDepth 100000 in
theorem ck_132 : okR (6, 3, prog_1_method_41_code, false, false, k_It_addHeavierFilter) := by unfold okR; decide +kernel
set_option maxRecDepth 100000 in
theorem ck_133 : okR (8, 6, method_30_code, false, false, k_La_addCombinedFilter) := by unfold okR; decide +kernel
set_option maxRecDepth 100000 in
theorem ck_134 : okR (6, 5, prog_1_method_42_code, false, false, k_It_addCombinedFilter) := by unfold okR; decide +kernel
set_option maxRecDepth 100000 in
theorem ck_135 : okR (6, 2, prog_1_method_54_code, false, false, k_It_checkFilter) := by unfold okR; decide +kernel
set_option maxRecDepth 100000 in
theorem ck_136 : okR (6, 1, prog_1_method_70_code, false, false, k_It_referenceStep) := by unfold okR; decide +kernel
set_option maxRecDepth 100000 in
theorem ck_137 : okR (8, 4, method_31_code, false, false, k_La_feed) := by unfold okR; decide +kernel
set_option maxRecDepth 100000 in
theorem ck_138 : okR (6, 2, prog_1_method_43_code, false, false, k_It_feed) := by unfold okR; decide +kernel
set_option maxRecDepth 100000 in
theorem ck_139 : okR (8, 3, method_32_code, false, false, k_La_parseFilter) := by unfold okR; decide +kernel
set_option maxRecDepth 100000 in
theorem ck_140 : okR (6, 2, prog_1_method_44_code, false, false, k_It_parseFilter) := by unfold okR; decide +kernel
set_option maxRecDepth 100000 in
theorem ck_141 : okR (4, 4, prog_6_method_1_code, false, true, k_Te_init) := by unfold okR; decide +kernel
set_option maxRecDepth 100000 in
theorem ck_142 : okR (4, 3, prog_6_method_2_code, true, false, k_Te_readAll) := by unfold okR; decide +kernel
set_option maxRecDepth 100000 in
theorem ck_143 : okR (4, 2, prog_6_method_4_code, true, false, k_Te_readFactor) := by unfold okR; decide +kernel
set_option maxRecDepth 100000 in
theorem ck_144 : okR (4, 1, prog_6_method_3_code, false, false, k_Te_peek) := by unfold okR; decide +kernel
set_option maxRecDepth 100000 in
theorem ck_145 : okR (4, 3, prog_6_method_9_code, false, false, k_Te_await) := by unfold okR; decide +kernel
set_option maxRecDepth 100000 in
theorem ck_146 : okR (4, 2, prog_6_method_5_code, true, false, k_Te_readReference) := by unfold okR; decide +kernel
set_option maxRecDepth 100000 in
theorem ck_147 : okR (4, 8, prog_6_method_6_code, true, false, k_Te_readComparison) := by unfold okR; decide +kernel
set_option maxRecDepth 100000 in
theorem ck_148 : okR (4, 1, prog_6_method_12_code, false, false, k_Te_propertyOf) := by unfold okR; decide +kernel
set_option maxRecDepth 100000 in
theorem ck_149 : okR (4, 1, prog_6_method_11_code, true, false, k_Te_isDigit) := by unfold okR; decide +kernel
set_option maxRecDepth 100000 in
theorem ck_150 : okR (4, 3, prog_6_method_7_code, false, false, k_Te_readDigits) := by unfold okR; decide +kernel
set_option maxRecDepth 100000 in
theorem ck_151 : okR (4, 3, prog_6_method_8_code, true, false, k_Te_readOperator) := by unfold okR; decide +kernel
set_option maxRecDepth 100000 in
theorem ck_152 : okR (4, 3, prog_6_method_10_code, false, false, k_Te_release) := by unfold okR; decide +kernel
set_option maxRecDepth 100000 in
theorem ck_153 : okR (8, 4, method_33_code, false, false, k_La_matchCount) := by unfold okR; decide +kernel
set_option maxRecDepth 100000 in
theorem ck_154 : okR (6, 4, prog_1_method_45_code, false, false, k_It_matchCount) := by unfold okR; decide +kernel
set_option maxRecDepth 100000 in
theorem ck_155 : okR (6, 6, prog_1_method_76_code, true, false, k_It_matches) := by unfold okR; decide +kernel
set_option maxRecDepth 100000 in
theorem ck_156 : okR (6, 6, prog_1_method_77_code, true, false, k_It_decide) := by unfold okR; decide +kernel
set_option maxRecDepth 100000 in
theorem ck_157 : okR (6, 6, prog_1_method_78_code, false, false, k_It_perform) := by unfold okR; decide +kernel
set_option maxRecDepth 100000 in
theorem ck_158 : okR (6, 2, prog_1_method_79_code, false, false, k_It_push) := by unfold okR; decide +kernel
set_option maxRecDepth 100000 in
theorem ck_159 : okR (6, 3, prog_1_method_80_code, true, false, k_It_overlapsAnother) := by unfold okR; decide +kernel
set_option maxRecDepth 100000 in
theorem ck_160 : okR (8, 5, method_34_code, false, false, k_La_accepts) := by unfold okR; decide +kernel
set_option maxRecDepth 100000 in
theorem ck_161 : okR (6, 3, prog_1_method_46_code, true, false, k_It_accepts) := by unfold okR; decide +kernel
set_option maxRecDepth 100000 in
theorem ck_162 : okR (8, 5, method_35_code, false, false, k_La_open) := by unfold okR; decide +kernel
set_option maxRecDepth 100000 in
theorem ck_163 : okR (6, 4, prog_1_method_47_code, false, false, k_It_open) := by unfold okR; decide +kernel
set_option maxRecDepth 100000 in
theorem ck_164 : okR (6, 3, prog_1_method_58_code, false, false, k_It_existingCursor) := by unfold okR; decide +kernel
set_option maxRecDepth 100000 in
theorem ck_165 : okR (0, 2, prog_2_method_2_code, false, false, k_Cu_start) := by unfold okR; decide +kernel
set_option maxRecDepth 100000 in
theorem ck_166 : okR (6, 3, prog_1_method_81_code, false, false, k_It_following) := by unfold okR; decide +kernel
set_option maxRecDepth 100000 in
theorem ck_167 : okR (0, 2, prog_2_method_4_code, true, false, k_Cu_isBefore) := by unfold okR; decide +kernel
set_option maxRecDepth 100000 in
theorem ck_168 : okR (8, 4, method_36_code, false, false, k_La_hasNext) := by unfold okR; decide +kernel
set_option maxRecDepth 100000 in
theorem ck_169 : okR (6, 2, prog_1_method_48_code, true, false, k_It_hasNext) := by unfold okR; decide +kernel
set_option maxRecDepth 100000 in
theorem ck_170 : okR (6, 3, prog_1_method_59_code, false, false, k_It_openCursor) := by unfold okR; decide +kernel
set_option maxRecDepth 100000 in
theorem ck_171 : okR (8, 4, method_37_code, false, false, k_La_next) := by unfold okR; decide +kernel
set_option maxRecDepth 100000 in
theorem ck_172 : okR (6, 4, prog_1_method_49_code, false, false, k_It_next) := by unfold okR; decide +kernel
set_option maxRecDepth 100000 in
theorem ck_173 : okR (0, 2, prog_2_method_3_code, false, false, k_Cu_moveBehind) := by unfold okR; decide +kernel
set_option maxRecDepth 100000 in
theorem ck_174 : okR (8, 4, method_38_code, false, false, k_La_removeCurrent) := by unfold okR; decide +kernel
set_option maxRecDepth 100000 in
theorem ck_175 : okR (6, 4, prog_1_method_50_code, false, false, k_It_removeCurrent) := by unfold okR; decide +kernel
set_option maxRecDepth 100000 in
theorem ck_176 : okR (8, 3, method_39_code, false, false, k_La_load) := by unfold okR; decide +kernel
set_option maxRecDepth 100000 in
theorem ck_177 : okR (6, 5, prog_1_method_52_code, false, false, k_It_load) := by unfold okR; decide +kernel
set_option maxRecDepth 100000 in
theorem ck_178 : okR (7, 1, prog_9_method_1_code, false, false, k_Mo_thrown) := by unfold okR; decide +kernel
set_option maxRecDepth 100000 in
theorem ck_179 : okR (7, 1, prog_9_method_4_code, false, true, k_Mo_init) := by unfold okR; decide +kernel
set_option maxRecDepth 100000 in
theorem ck_180 : okR (7, 4, prog_9_method_17_code, false, false, k_Mo_insert) := by unfold okR; decide +kernel
set_option maxRecDepth 100000 in
theorem ck_181 : okR (7, 3, prog_9_method_2_code, true, false, k_Mo_in) := by unfold okR; decide +kernel
set_option maxRecDepth 100000 in
theorem ck_182 : okR (7, 2, prog_9_method_3_code, false, false, k_Mo_fails) := by unfold okR; decide +kernel
set_option maxRecDepth 100000 in
theorem ck_183 : okR (7, 3, prog_9_method_16_code, false, false, k_Mo_rebuilds) := by unfold okR; decide +kernel
set_option maxRecDepth 100000 in
theorem ck_184 : okR (7, 3, prog_9_method_10_code, false, false, k_Mo_layRow) := by unfold okR; decide +kernel
set_option maxRecDepth 100000 in
theorem ck_185 : okR (7, 3, prog_9_method_9_code, true, false, k_Mo_isLess) := by unfold okR; decide +kernel
set_option maxRecDepth 100000 in
theorem ck_186 : okR (7, 7, prog_9_method_15_code, false, false, k_Mo_built) := by unfold okR; decide +kernel
set_option maxRecDepth 100000 in
theorem ck_187 : okR (7, 4, prog_9_method_13_code, false, false, k_Mo_hangsNew) := by unfold okR; decide +kernel
set_option maxRecDepth 100000 in
theorem ck_188 : okR (7, 7, prog_9_method_14_code, false, false, k_Mo_mends) := by unfold okR; decide +kernel
set_option maxRecDepth 100000 in
theorem ck_189 : okR (7, 4, prog_9_method_12_code, false, false, k_Mo_rises) := by unfold okR; decide +kernel
set_option maxRecDepth 100000 in
theorem ck_190 : okR (7, 4, prog_9_method_11_code, false, false, k_Mo_hangs) := by unfold okR; decide +kernel
set_option maxRecDepth 100000 in
theorem ck_191 : okR (7, 2, prog_9_method_19_code, false, false, k_Mo_remove) := by unfold okR; decide +kernel
set_option maxRecDepth 100000 in
theorem ck_192 : okR (7, 2, prog_9_method_6_code, true, false, k_Mo_isLive) := by unfold okR; decide +kernel
set_option maxRecDepth 100000 in
theorem ck_193 : okR (7, 2, prog_9_method_5_code, true, false, k_Mo_isInserted) := by unfold okR; decide +kernel
set_option maxRecDepth 100000 in
theorem ck_194 : okR (7, 2, prog_9_method_18_code, false, false, k_Mo_goes) := by unfold okR; decide +kernel
set_option maxRecDepth 100000 in
theorem ck_195 : okR (7, 1, prog_9_method_8_code, false, false, k_Mo_live) := by unfold okR; decide +kernel
set_option maxRecDepth 100000 in
theorem ck_196 : okR (7, 2, prog_9_method_20_code, false, false, k_Mo_restore) := by unfold okR; decide +kernel
set_option maxRecDepth 100000 in
theorem ck_197 : okR (7, 2, prog_9_method_21_code, false, false, k_Mo_rebuild) := by unfold okR; decide +kernel
set_option maxRecDepth 100000 in
theorem ck_198 : okR (7, 3, prog_9_method_22_code, false, false, k_Mo_setRebuildPercentage) := by unfold okR; decide +kernel
set_option maxRecDepth 100000 in
theorem ck_199 : okR (7, 6, prog_9_method_23_code, false, false, k_Mo_addWeight) := by unfold okR; decide +kernel
set_option maxRecDepth 100000 in
theorem ck_200 : okR (7, 1, prog_9_method_24_code, false, false, k_Mo_size) := by unfold okR; decide +kernel
set_option maxRecDepth 100000 in
theorem ck_201 : okR (7, 1, prog_9_method_25_code, false, false, k_Mo_nodeCount) := by unfold okR; decide +kernel
set_option maxRecDepth 100000 in
theorem ck_202 : okR (7, 1, prog_9_method_27_code, false, false, k_Mo_height) := by unfold okR; decide +kernel
set_option maxRecDepth 100000 in
theorem ck_203 : okR (7, 2, prog_9_method_26_code, false, false, k_Mo_heightOf) := by unfold okR; decide +kernel
set_option maxRecDepth 100000 in
theorem ck_204 : okR (7, 1, prog_9_method_28_code, false, false, k_Mo_rebuildCount) := by unfold okR; decide +kernel
set_option maxRecDepth 100000 in
theorem ck_205 : okR (7, 1, prog_9_method_29_code, false, false, k_Mo_rebuiltNodes) := by unfold okR; decide +kernel
set_option maxRecDepth 100000 in
theorem ck_206 : okR (7, 2, prog_9_method_30_code, false, false, k_Mo_state) := by unfold okR; decide +kernel
set_option maxRecDepth 100000 in
theorem ck_207 : okR (7, 2, prog_9_method_31_code, false, false, k_Mo_low) := by unfold okR; decide +kernel
set_option maxRecDepth 100000 in
theorem ck_208 : okR (7, 2, prog_9_method_7_code, true, false, k_Mo_isInTree) := by unfold okR; decide +kernel
set_option maxRecDepth 100000 in
theorem ck_209 : okR (7, 2, prog_9_method_32_code, false, false, k_Mo_high) := by unfold okR; decide +kernel
set_option maxRecDepth 100000 in
theorem ck_210 : okR (7, 2, prog_9_method_33_code, false, false, k_Mo_weight) := by unfold okR; decide +kernel
set_option maxRecDepth 100000 in
theorem ck_211 : okR (7, 2, prog_9_method_34_code, false, false, k_Mo_parent) := by unfold okR; decide +kernel
set_option maxRecDepth 100000 in
theorem ck_212 : okR (7, 3, prog_9_method_35_code, false, false, k_Mo_child) := by unfold okR; decide +kernel
set_option maxRecDepth 100000 in
theorem ck_213 : okR (7, 2, prog_9_method_36_code, true, false, k_Mo_isRed) := by unfold okR; decide +kernel
set_option maxRecDepth 100000 in
theorem ck_214 : okR (7, 2, prog_9_method_39_code, false, false, k_Mo_subtreeSize) := by unfold okR; decide +kernel
set_option maxRecDepth 100000 in
theorem ck_215 : okR (7, 2, prog_9_method_37_code, false, false, k_Mo_sizeOf) := by unfold okR; decide +kernel
set_option maxRecDepth 100000 in
theorem ck_216 : okR (7, 2, prog_9_method_41_code, false, false, k_Mo_subtreeHigh) := by unfold okR; decide +kernel
set_option maxRecDepth 100000 in
theorem ck_217 : okR (7, 3, prog_9_method_40_code, false, false, k_Mo_greatestOf) := by unfold okR; decide +kernel
set_option maxRecDepth 100000 in
theorem ck_218 : okR (7, 3, prog_9_method_38_code, false, false, k_Mo_greatest) := by unfold okR; decide +kernel
set_option maxRecDepth 100000 in
theorem ck_219 : okR (7, 2, prog_9_method_42_code, false, false, k_Mo_subtreeWeight) := by unfold okR; decide +kernel
set_option maxRecDepth 100000 in
theorem ck_220 : okR (7, 1, prog_9_method_45_code, false, false, k_Mo_digest) := by unfold okR; decide +kernel
set_option maxRecDepth 100000 in
theorem ck_221 : okR (7, 2, prog_9_method_44_code, false, false, k_Mo_visits) := by unfold okR; decide +kernel
set_option maxRecDepth 100000 in
theorem ck_222 : okR (7, 4, prog_9_method_43_code, false, false, k_Mo_absorbs) := by unfold okR; decide +kernel
set_option maxRecDepth 100000 in
theorem ck_223 : okR (7, 4, prog_9_method_47_code, false, false, k_Mo_stabCount) := by unfold okR; decide +kernel
set_option maxRecDepth 100000 in
theorem ck_224 : okR (7, 4, prog_9_method_46_code, true, false, k_Mo_overlaps) := by unfold okR; decide +kernel
set_option maxRecDepth 100000 in
theorem ck_225 : okR (7, 4, prog_9_method_48_code, false, false, k_Mo_stabWeight) := by unfold okR; decide +kernel
set_option maxRecDepth 100000 in
theorem ck_226 : okR (7, 3, prog_9_method_50_code, false, false, k_Mo_heaviest) := by unfold okR; decide +kernel
set_option maxRecDepth 100000 in
theorem ck_227 : okR (7, 7, prog_9_method_49_code, false, false, k_Mo_ranked) := by unfold okR; decide +kernel
set_option maxRecDepth 100000 in
theorem ck_228 : okR (7, 4, prog_9_method_51_code, false, false, k_Mo_heaviestOverlap) := by unfold okR; decide +kernel
set_option maxRecDepth 100000 in
theorem ck_229 : okR (7, 4, prog_9_method_52_code, false, false, k_Mo_firstOverlap) := by unfold okR; decide +kernel
set_option maxRecDepth 100000 in
theorem ck_230 : okR (7, 4, prog_9_method_53_code, false, false, k_Mo_floor) := by unfold okR; decide +kernel
set_option maxRecDepth 100000 in
theorem ck_231 : okR (7, 3, prog_9_method_54_code, false, false, k_Mo_ceiling) := by unfold okR; decide +kernel
set_option maxRecDepth 100000 in
theorem ck_232 : okR (7, 4, prog_9_method_55_code, false, false, k_Mo_rank) := by unfold okR; decide +kernel
set_option maxRecDepth 100000 in
theorem ck_233 : okR (7, 2, prog_9_method_56_code, false, false, k_Mo_select) := by unfold okR; decide +kernel
set_option maxRecDepth 100000 in
theorem ck_234 : okR (7, 7, prog_9_method_57_code, false, false, k_Mo_nearest) := by unfold okR; decide +kernel
set_option maxRecDepth 100000 in
theorem ck_235 : okR (7, 5, prog_9_method_59_code, false, false, k_Mo_covered) := by unfold okR; decide +kernel
set_option maxRecDepth 100000 in
theorem ck_236 : okR (7, 2, prog_9_method_58_code, false, false, k_Mo_layCover) := by unfold okR; decide +kernel
set_option maxRecDepth 100000 in
theorem ck_237 : okR (7, 3, prog_9_method_60_code, false, false, k_Mo_deepestPoint) := by unfold okR; decide +kernel
set_option maxRecDepth 100000 in
theorem ck_238 : okR (7, 4, prog_9_method_61_code, false, false, k_Mo_overlapCount) := by unfold okR; decide +kernel
set_option maxRecDepth 100000 in
theorem ck_239 : okR (7, 1, prog_9_method_64_code, false, false, k_Mo_scheduleWeight) := by unfold okR; decide +kernel
set_option maxRecDepth 100000 in
theorem ck_240 : okR (7, 2, prog_9_method_63_code, false, false, k_Mo_layBest) := by unfold okR; decide +kernel
set_option maxRecDepth 100000 in
theorem ck_241 : okR (7, 3, prog_9_method_62_code, false, false, k_Mo_behind) := by unfold okR; decide +kernel
set_option maxRecDepth 100000 in
theorem ck_242 : okR (7, 7, prog_9_method_65_code, false, false, k_Mo_scheduled) := by unfold okR; decide +kernel
set_option maxRecDepth 100000 in
theorem ck_243 : okR (7, 6, prog_9_method_66_code, false, false, k_Mo_piercingPoint) := by unfold okR; decide +kernel
set_option maxRecDepth 100000 in
theorem ck_244 : okR (7, 4, prog_9_method_74_code, false, false, k_Mo_addRangeFilter) := by unfold okR; decide +kernel
set_option maxRecDepth 100000 in
theorem ck_245 : okR (7, 5, prog_9_method_73_code, false, false, k_Mo_adds) := by unfold okR; decide +kernel
set_option maxRecDepth 100000 in
theorem ck_246 : okR (7, 2, prog_9_method_75_code, false, false, k_Mo_addHeavierFilter) := by unfold okR; decide +kernel
set_option maxRecDepth 100000 in
theorem ck_247 : okR (7, 4, prog_9_method_76_code, false, false, k_Mo_addCombinedFilter) := by unfold okR; decide +kernel
set_option maxRecDepth 100000 in
theorem ck_248 : okR (7, 2, prog_9_method_67_code, true, false, k_Mo_isFilter) := by unfold okR; decide +kernel
set_option maxRecDepth 100000 in
theorem ck_249 : okR (7, 2, prog_9_method_77_code, false, false, k_Mo_feed) := by unfold okR; decide +kernel
set_option maxRecDepth 100000 in
theorem ck_250 : okR (7, 1, prog_9_method_86_code, false, false, k_Mo_parseFilter) := by unfold okR; decide +kernel
set_option maxRecDepth 100000 in
theorem ck_251 : okR (7, 1, prog_9_method_81_code, false, false, k_Mo_readFilter) := by unfold okR; decide +kernel
set_option maxRecDepth 100000 in
theorem ck_252 : okR (7, 1, prog_9_method_82_code, false, false, k_Mo_readTerm) := by unfold okR; decide +kernel
set_option maxRecDepth 100000 in
theorem ck_253 : okR (7, 1, prog_9_method_83_code, false, false, k_Mo_readFactor) := by unfold okR; decide +kernel
set_option maxRecDepth 100000 in
theorem ck_254 : okR (7, 1, prog_9_method_78_code, false, false, k_Mo_sign) := by unfold okR; decide +kernel
set_option maxRecDepth 100000 in
theorem ck_255 : okR (7, 5, prog_9_method_80_code, false, false, k_Mo_part) := by unfold okR; decide +kernel
set_option maxRecDepth 100000 in
theorem ck_256 : okR (7, 1, prog_9_method_84_code, false, false, k_Mo_readReference) := by unfold okR; decide +kernel
set_option maxRecDepth 100000 in
theorem ck_257 : okR (7, 1, prog_9_method_79_code, true, false, k_Mo_isDigit) := by unfold okR; decide +kernel
set_option maxRecDepth 100000 in
theorem ck_258 : okR (7, 6, prog_9_method_85_code, false, false, k_Mo_readComparison) := by unfold okR; decide +kernel
set_option maxRecDepth 100000 in
theorem ck_259 : okR (7, 4, prog_9_method_87_code, false, false, k_Mo_matchCount) := by unfold okR; decide +kernel
set_option maxRecDepth 100000 in
theorem ck_260 : okR (7, 5, prog_9_method_72_code, true, false, k_Mo_takes) := by unfold okR; decide +kernel
set_option maxRecDepth 100000 in
theorem ck_261 : okR (7, 3, prog_9_method_69_code, true, false, k_Mo_overlapsAny) := by unfold okR; decide +kernel
set_option maxRecDepth 100000 in
theorem ck_262 : okR (7, 3, prog_9_method_68_code, false, false, k_Mo_propertyOf) := by unfold okR; decide +kernel
set_option maxRecDepth 100000 in
theorem ck_263 : okR (7, 5, prog_9_method_71_code, true, false, k_Mo_isWritten) := by unfold okR; decide +kernel
set_option maxRecDepth 100000 in
theorem ck_264 : okR (7, 4, prog_9_method_70_code, true, false, k_Mo_isCompared) := by unfold okR; decide +kernel
set_option maxRecDepth 100000 in
theorem ck_265 : okR (7, 3, prog_9_method_88_code, true, false, k_Mo_accepts) := by unfold okR; decide +kernel
set_option maxRecDepth 100000 in
theorem ck_266 : okR (7, 3, prog_9_method_91_code, false, false, k_Mo_open) := by unfold okR; decide +kernel
set_option maxRecDepth 100000 in
theorem ck_267 : okR (7, 1, prog_9_method_89_code, true, false, k_Mo_isCursor) := by unfold okR; decide +kernel
set_option maxRecDepth 100000 in
theorem ck_268 : okR (7, 4, prog_9_method_90_code, false, false, k_Mo_following) := by unfold okR; decide +kernel
set_option maxRecDepth 100000 in
theorem ck_269 : okR (7, 2, prog_9_method_92_code, true, false, k_Mo_hasNext) := by unfold okR; decide +kernel
set_option maxRecDepth 100000 in
theorem ck_270 : okR (7, 3, prog_9_method_93_code, false, false, k_Mo_next) := by unfold okR; decide +kernel
set_option maxRecDepth 100000 in
theorem ck_271 : okR (7, 2, prog_9_method_94_code, false, false, k_Mo_removeCurrent) := by unfold okR; decide +kernel
set_option maxRecDepth 100000 in
theorem ck_272 : okR (7, 2, prog_9_method_95_code, false, false, k_Mo_save) := by unfold okR; decide +kernel
set_option maxRecDepth 100000 in
theorem ck_273 : okR (7, 2, prog_9_method_96_code, false, false, k_Mo_load) := by unfold okR; decide +kernel
theorem ckE (o n : Nat) (b : ByteArray) (z i : Bool) : okR (o, n, b, z, i, []) := rfl
def KR_0 : List KR := [(6, 2, prog_1_method_1_code, false, true, k_It_init), (99, 1, object_method_1_code, false, false, []), (6, 4, prog_1_method_62_code, false, false, k_It_makeDigestTable), (6, 4, prog_1_method_72_code, false, false, k_It_rangeFilter), (1, 1, prog_3_method_1_code, false, true, k_Fi_init), (6, 3, prog_1_method_71_code, false, false, k_It_rangeStep), (3, 5, prog_5_method_1_code, false, true, k_St_init), (1, 2, prog_3_method_2_code, false, false, k_Fi_append), (6, 4, prog_1_method_74_code, false, false, k_It_addFilter), (6, 3, prog_1_method_75_code, false, false, k_It_needsOf), (6, 1, prog_1_method_73_code, false, false, k_It_overlappingFilter), (6, 1, prog_1_method_69_code, false, false, k_It_plainStep), (0, 1, prog_2_method_1_code, false, true, k_Cu_init), (5, 1, prog_7_method_1_code, false, true, k_Tr_init), (6, 1, prog_1_method_5_code, false, false, k_It_rebuild), (5, 2, prog_7_method_7_code, false, false, k_Tr_renew), (5, 3, prog_7_method_15_code, false, false, k_Tr_unchainRemoved), (5, 4, prog_7_method_11_code, false, false, k_Tr_chain), (5, 3, prog_7_method_16_code, false, false, k_Tr_redDepth), (5, 7, prog_7_method_17_code, false, false, k_Tr_build), (2, 2, prog_4_method_12_code, false, false, k_No_setLeft), (2, 2, prog_4_method_13_code, false, false, k_No_setRight), (6, 1, prog_1_method_8_code, false, false, k_It_size), (6, 1, prog_1_method_9_code, false, false, k_It_nodeCount), (6, 3, prog_1_method_10_code, false, false, k_It_height)]
theorem kr_0 : ∀ q ∈ KR_0, okR q := List.forall_mem_cons.mpr ⟨ck_0, List.forall_mem_cons.mpr ⟨(ckE _ _ _ _ _), List.forall_mem_cons.mpr ⟨ck_2, List.forall_mem_cons.mpr ⟨ck_3, List.forall_mem_cons.mpr ⟨ck_4, List.forall_mem_cons.mpr ⟨ck_5, List.forall_mem_cons.mpr ⟨ck_6, List.forall_mem_cons.mpr ⟨ck_7, List.forall_mem_cons.mpr ⟨ck_8, List.forall_mem_cons.mpr ⟨ck_9, List.forall_mem_cons.mpr ⟨ck_10, List.forall_mem_cons.mpr ⟨ck_11, List.forall_mem_cons.mpr ⟨ck_12, List.forall_mem_cons.mpr ⟨ck_13, List.forall_mem_cons.mpr ⟨ck_14, List.forall_mem_cons.mpr ⟨ck_15, List.forall_mem_cons.mpr ⟨ck_16, List.forall_mem_cons.mpr ⟨ck_17, List.forall_mem_cons.mpr ⟨ck_18, List.forall_mem_cons.mpr ⟨ck_19, List.forall_mem_cons.mpr ⟨ck_20, List.forall_mem_cons.mpr ⟨ck_21, List.forall_mem_cons.mpr ⟨ck_22, List.forall_mem_cons.mpr ⟨ck_23, List.forall_mem_cons.mpr ⟨ck_24, fun _ h => absurd h List.not_mem_nil⟩⟩⟩⟩⟩⟩⟩⟩⟩⟩⟩⟩⟩⟩⟩⟩⟩⟩⟩⟩⟩⟩⟩⟩⟩
def KR_1 : List KR := [(2, 3, prog_4_method_7_code, false, false, k_No_level), (99, 2, prog_15_method_65_code, false, false, []), (6, 1, prog_1_method_11_code, false, false, k_It_rebuildCount), (6, 1, prog_1_method_12_code, false, false, k_It_rebuiltNodes), (6, 1, prog_1_method_23_code, false, false, k_It_digest), (6, 5, prog_1_method_63_code, false, false, k_It_digestOf), (6, 3, prog_1_method_64_code, false, false, k_It_absorb), (6, 4, prog_1_method_24_code, false, false, k_It_stabCount), (5, 1, prog_7_method_4_code, false, false, k_Tr_firstLive), (2, 2, prog_4_method_10_code, false, false, k_No_liveAfter), (6, 4, prog_1_method_25_code, false, false, k_It_stabWeight), (6, 4, prog_1_method_29_code, false, false, k_It_floor), (6, 3, prog_1_method_30_code, false, false, k_It_ceiling), (6, 4, prog_1_method_36_code, false, false, k_It_overlapCount), (6, 1, prog_1_method_37_code, false, false, k_It_scheduleWeight), (6, 2, prog_1_method_67_code, false, false, k_It_planSchedule), (6, 1, prog_1_method_68_code, false, false, k_It_bestFrom), (2, 2, prog_4_method_11_code, false, false, k_No_firstBeyond), (6, 1, prog_1_method_51_code, false, false, k_It_save), (5, 2, prog_7_method_8_code, false, false, k_Tr_copy), (5, 4, prog_7_method_9_code, false, false, k_Tr_takeOver), (2, 5, prog_4_method_1_code, false, true, k_No_init), (8, 6, method_3_code, false, false, k_La_insert), (6, 5, prog_1_method_2_code, false, false, k_It_insert), (99, 1, prog_18_method_1_code, false, false, [])]
theorem kr_1 : ∀ q ∈ KR_1, okR q := List.forall_mem_cons.mpr ⟨ck_25, List.forall_mem_cons.mpr ⟨(ckE _ _ _ _ _), List.forall_mem_cons.mpr ⟨ck_27, List.forall_mem_cons.mpr ⟨ck_28, List.forall_mem_cons.mpr ⟨ck_29, List.forall_mem_cons.mpr ⟨ck_30, List.forall_mem_cons.mpr ⟨ck_31, List.forall_mem_cons.mpr ⟨ck_32, List.forall_mem_cons.mpr ⟨ck_33, List.forall_mem_cons.mpr ⟨ck_34, List.forall_mem_cons.mpr ⟨ck_35, List.forall_mem_cons.mpr ⟨ck_36, List.forall_mem_cons.mpr ⟨ck_37, List.forall_mem_cons.mpr ⟨ck_38, List.forall_mem_cons.mpr ⟨ck_39, List.forall_mem_cons.mpr ⟨ck_40, List.forall_mem_cons.mpr ⟨ck_41, List.forall_mem_cons.mpr ⟨ck_42, List.forall_mem_cons.mpr ⟨ck_43, List.forall_mem_cons.mpr ⟨ck_44, List.forall_mem_cons.mpr ⟨ck_45, List.forall_mem_cons.mpr ⟨ck_46, List.forall_mem_cons.mpr ⟨ck_47, List.forall_mem_cons.mpr ⟨ck_48, List.forall_mem_cons.mpr ⟨(ckE _ _ _ _ _), fun _ h => absurd h List.not_mem_nil⟩⟩⟩⟩⟩⟩⟩⟩⟩⟩⟩⟩⟩⟩⟩⟩⟩⟩⟩⟩⟩⟩⟩⟩⟩
def KR_2 : List KR := [(99, 2, prog_12_method_2_code, false, false, []), (99, 2, prog_16_method_2_code, false, false, []), (99, 2, prog_11_method_2_code, false, false, []), (99, 2, prog_18_method_2_code, false, false, []), (99, 2, prog_13_method_2_code, false, false, []), (5, 6, prog_7_method_5_code, false, false, k_Tr_add), (5, 6, prog_7_method_10_code, false, false, k_Tr_hang), (2, 2, prog_4_method_2_code, true, false, k_No_isLessThan), (2, 4, prog_4_method_3_code, true, false, k_No_isBehind), (5, 7, prog_7_method_12_code, false, false, k_Tr_balance), (5, 6, prog_7_method_13_code, false, false, k_Tr_turn), (5, 4, prog_7_method_14_code, false, false, k_Tr_lift), (8, 4, method_4_code, false, false, k_La_remove), (6, 2, prog_1_method_3_code, false, false, k_It_remove), (6, 3, prog_1_method_57_code, false, false, k_It_liveNode), (5, 2, prog_7_method_3_code, false, false, k_Tr_find), (5, 2, prog_7_method_2_code, true, false, k_Tr_wasInserted), (99, 2, prog_19_method_4_code, false, false, []), (5, 2, prog_7_method_6_code, false, false, k_Tr_markRemoved), (8, 4, method_5_code, false, false, k_La_restore), (6, 3, prog_1_method_4_code, false, false, k_It_restore), (8, 4, method_6_code, false, false, k_La_setRebuildPercentage), (6, 3, prog_1_method_6_code, false, false, k_It_setRebuildPercentage), (8, 6, method_7_code, false, false, k_La_addWeight), (6, 6, prog_1_method_7_code, false, false, k_It_addWeight)]
theorem kr_2 : ∀ q ∈ KR_2, okR q := List.forall_mem_cons.mpr ⟨(ckE _ _ _ _ _), List.forall_mem_cons.mpr ⟨(ckE _ _ _ _ _), List.forall_mem_cons.mpr ⟨(ckE _ _ _ _ _), List.forall_mem_cons.mpr ⟨(ckE _ _ _ _ _), List.forall_mem_cons.mpr ⟨(ckE _ _ _ _ _), List.forall_mem_cons.mpr ⟨ck_55, List.forall_mem_cons.mpr ⟨ck_56, List.forall_mem_cons.mpr ⟨ck_57, List.forall_mem_cons.mpr ⟨ck_58, List.forall_mem_cons.mpr ⟨ck_59, List.forall_mem_cons.mpr ⟨ck_60, List.forall_mem_cons.mpr ⟨ck_61, List.forall_mem_cons.mpr ⟨ck_62, List.forall_mem_cons.mpr ⟨ck_63, List.forall_mem_cons.mpr ⟨ck_64, List.forall_mem_cons.mpr ⟨ck_65, List.forall_mem_cons.mpr ⟨ck_66, List.forall_mem_cons.mpr ⟨(ckE _ _ _ _ _), List.forall_mem_cons.mpr ⟨ck_68, List.forall_mem_cons.mpr ⟨ck_69, List.forall_mem_cons.mpr ⟨ck_70, List.forall_mem_cons.mpr ⟨ck_71, List.forall_mem_cons.mpr ⟨ck_72, List.forall_mem_cons.mpr ⟨ck_73, List.forall_mem_cons.mpr ⟨ck_74, fun _ h => absurd h List.not_mem_nil⟩⟩⟩⟩⟩⟩⟩⟩⟩⟩⟩⟩⟩⟩⟩⟩⟩⟩⟩⟩⟩⟩⟩⟩⟩
def KR_3 : List KR := [(6, 2, prog_1_method_53_code, false, false, k_It_checkRange), (8, 4, method_8_code, false, false, k_La_state), (6, 3, prog_1_method_13_code, false, false, k_It_state), (8, 4, method_9_code, false, false, k_La_low), (6, 2, prog_1_method_14_code, false, false, k_It_low), (6, 3, prog_1_method_56_code, false, false, k_It_presentNode), (8, 4, method_10_code, false, false, k_La_high), (6, 2, prog_1_method_15_code, false, false, k_It_high), (8, 4, method_11_code, false, false, k_La_weight), (6, 2, prog_1_method_16_code, false, false, k_It_weight), (8, 4, method_12_code, false, false, k_La_parent), (6, 2, prog_1_method_17_code, false, false, k_It_parent), (6, 1, prog_1_method_60_code, false, false, k_It_idOf), (8, 5, method_13_code, false, false, k_La_child), (6, 4, prog_1_method_18_code, false, false, k_It_child), (8, 4, method_14_code, false, false, k_La_isRed), (6, 2, prog_1_method_19_code, true, false, k_It_isRed), (8, 4, method_15_code, false, false, k_La_subtreeSize), (6, 6, prog_1_method_20_code, false, false, k_It_subtreeSize), (2, 3, prog_4_method_9_code, false, false, k_No_rightmost), (2, 3, prog_4_method_8_code, false, false, k_No_leftmost), (8, 4, method_16_code, false, false, k_La_subtreeHigh), (6, 2, prog_1_method_21_code, false, false, k_It_subtreeHigh), (6, 6, prog_1_method_61_code, false, false, k_It_greatestInSubtree), (2, 2, prog_4_method_6_code, false, false, k_No_valueOf)]
theorem kr_3 : ∀ q ∈ KR_3, okR q := List.forall_mem_cons.mpr ⟨ck_75, List.forall_mem_cons.mpr ⟨ck_76, List.forall_mem_cons.mpr ⟨ck_77, List.forall_mem_cons.mpr ⟨ck_78, List.forall_mem_cons.mpr ⟨ck_79, List.forall_mem_cons.mpr ⟨ck_80, List.forall_mem_cons.mpr ⟨ck_81, List.forall_mem_cons.mpr ⟨ck_82, List.forall_mem_cons.mpr ⟨ck_83, List.forall_mem_cons.mpr ⟨ck_84, List.forall_mem_cons.mpr ⟨ck_85, List.forall_mem_cons.mpr ⟨ck_86, List.forall_mem_cons.mpr ⟨ck_87, List.forall_mem_cons.mpr ⟨ck_88, List.forall_mem_cons.mpr ⟨ck_89, List.forall_mem_cons.mpr ⟨ck_90, List.forall_mem_cons.mpr ⟨ck_91, List.forall_mem_cons.mpr ⟨ck_92, List.forall_mem_cons.mpr ⟨ck_93, List.forall_mem_cons.mpr ⟨ck_94, List.forall_mem_cons.mpr ⟨ck_95, List.forall_mem_cons.mpr ⟨ck_96, List.forall_mem_cons.mpr ⟨ck_97, List.forall_mem_cons.mpr ⟨ck_98, List.forall_mem_cons.mpr ⟨ck_99, fun _ h => absurd h List.not_mem_nil⟩⟩⟩⟩⟩⟩⟩⟩⟩⟩⟩⟩⟩⟩⟩⟩⟩⟩⟩⟩⟩⟩⟩⟩⟩
def KR_4 : List KR := [(8, 4, method_17_code, false, false, k_La_subtreeWeight), (6, 2, prog_1_method_22_code, false, false, k_It_subtreeWeight), (8, 5, method_18_code, false, false, k_La_heaviest), (6, 3, prog_1_method_26_code, false, false, k_It_heaviest), (6, 6, prog_1_method_65_code, false, false, k_It_ranked), (6, 7, prog_1_method_66_code, false, false, k_It_heaviestBehind), (2, 2, prog_4_method_4_code, true, false, k_No_outranks), (8, 6, method_19_code, false, false, k_La_heaviestOverlap), (6, 4, prog_1_method_27_code, false, false, k_It_heaviestOverlap), (8, 5, method_20_code, false, false, k_La_firstOverlap), (6, 4, prog_1_method_28_code, false, false, k_It_firstOverlap), (8, 4, method_21_code, false, false, k_La_rank), (6, 5, prog_1_method_31_code, false, false, k_It_rank), (8, 4, method_22_code, false, false, k_La_select), (6, 4, prog_1_method_32_code, false, false, k_It_select), (99, 2, prog_14_method_2_code, false, false, []), (8, 4, method_23_code, false, false, k_La_nearest), (6, 6, prog_1_method_33_code, false, false, k_It_nearest), (2, 2, prog_4_method_5_code, false, false, k_No_distanceTo), (8, 5, method_24_code, false, false, k_La_covered), (6, 8, prog_1_method_34_code, false, false, k_It_covered), (99, 2, prog_15_method_69_code, false, false, []), (8, 3, method_25_code, false, false, k_La_deepestPoint), (6, 5, prog_1_method_35_code, false, false, k_It_deepestPoint), (8, 4, method_26_code, false, false, k_La_scheduled)]
theorem kr_4 : ∀ q ∈ KR_4, okR q := List.forall_mem_cons.mpr ⟨ck_100, List.forall_mem_cons.mpr ⟨ck_101, List.forall_mem_cons.mpr ⟨ck_102, List.forall_mem_cons.mpr ⟨ck_103, List.forall_mem_cons.mpr ⟨ck_104, List.forall_mem_cons.mpr ⟨ck_105, List.forall_mem_cons.mpr ⟨ck_106, List.forall_mem_cons.mpr ⟨ck_107, List.forall_mem_cons.mpr ⟨ck_108, List.forall_mem_cons.mpr ⟨ck_109, List.forall_mem_cons.mpr ⟨ck_110, List.forall_mem_cons.mpr ⟨ck_111, List.forall_mem_cons.mpr ⟨ck_112, List.forall_mem_cons.mpr ⟨ck_113, List.forall_mem_cons.mpr ⟨ck_114, List.forall_mem_cons.mpr ⟨(ckE _ _ _ _ _), List.forall_mem_cons.mpr ⟨ck_116, List.forall_mem_cons.mpr ⟨ck_117, List.forall_mem_cons.mpr ⟨ck_118, List.forall_mem_cons.mpr ⟨ck_119, List.forall_mem_cons.mpr ⟨ck_120, List.forall_mem_cons.mpr ⟨(ckE _ _ _ _ _), List.forall_mem_cons.mpr ⟨ck_122, List.forall_mem_cons.mpr ⟨ck_123, List.forall_mem_cons.mpr ⟨ck_124, fun _ h => absurd h List.not_mem_nil⟩⟩⟩⟩⟩⟩⟩⟩⟩⟩⟩⟩⟩⟩⟩⟩⟩⟩⟩⟩⟩⟩⟩⟩⟩
def KR_5 : List KR := [(6, 5, prog_1_method_38_code, false, false, k_It_scheduled), (8, 4, method_27_code, false, false, k_La_piercingPoint), (6, 5, prog_1_method_39_code, false, false, k_It_piercingPoint), (8, 6, method_28_code, false, false, k_La_addRangeFilter), (6, 4, prog_1_method_40_code, false, false, k_It_addRangeFilter), (6, 1, prog_1_method_55_code, false, false, k_It_checkFilterRoom), (8, 4, method_29_code, false, false, k_La_addHeavierFilter), (6, 3, prog_1_method_41_code, false, false, k_It_addHeavierFilter), (8, 6, method_30_code, false, false, k_La_addCombinedFilter), (6, 5, prog_1_method_42_code, false, false, k_It_addCombinedFilter), (6, 2, prog_1_method_54_code, false, false, k_It_checkFilter), (6, 1, prog_1_method_70_code, false, false, k_It_referenceStep), (8, 4, method_31_code, false, false, k_La_feed), (6, 2, prog_1_method_43_code, false, false, k_It_feed), (8, 3, method_32_code, false, false, k_La_parseFilter), (6, 2, prog_1_method_44_code, false, false, k_It_parseFilter), (4, 4, prog_6_method_1_code, false, true, k_Te_init), (4, 3, prog_6_method_2_code, true, false, k_Te_readAll), (4, 2, prog_6_method_4_code, true, false, k_Te_readFactor), (4, 1, prog_6_method_3_code, false, false, k_Te_peek), (4, 3, prog_6_method_9_code, false, false, k_Te_await), (4, 2, prog_6_method_5_code, true, false, k_Te_readReference), (4, 8, prog_6_method_6_code, true, false, k_Te_readComparison), (4, 1, prog_6_method_12_code, false, false, k_Te_propertyOf), (4, 1, prog_6_method_11_code, true, false, k_Te_isDigit)]
theorem kr_5 : ∀ q ∈ KR_5, okR q := List.forall_mem_cons.mpr ⟨ck_125, List.forall_mem_cons.mpr ⟨ck_126, List.forall_mem_cons.mpr ⟨ck_127, List.forall_mem_cons.mpr ⟨ck_128, List.forall_mem_cons.mpr ⟨ck_129, List.forall_mem_cons.mpr ⟨ck_130, List.forall_mem_cons.mpr ⟨ck_131, List.forall_mem_cons.mpr ⟨ck_132, List.forall_mem_cons.mpr ⟨ck_133, List.forall_mem_cons.mpr ⟨ck_134, List.forall_mem_cons.mpr ⟨ck_135, List.forall_mem_cons.mpr ⟨ck_136, List.forall_mem_cons.mpr ⟨ck_137, List.forall_mem_cons.mpr ⟨ck_138, List.forall_mem_cons.mpr ⟨ck_139, List.forall_mem_cons.mpr ⟨ck_140, List.forall_mem_cons.mpr ⟨ck_141, List.forall_mem_cons.mpr ⟨ck_142, List.forall_mem_cons.mpr ⟨ck_143, List.forall_mem_cons.mpr ⟨ck_144, List.forall_mem_cons.mpr ⟨ck_145, List.forall_mem_cons.mpr ⟨ck_146, List.forall_mem_cons.mpr ⟨ck_147, List.forall_mem_cons.mpr ⟨ck_148, List.forall_mem_cons.mpr ⟨ck_149, fun _ h => absurd h List.not_mem_nil⟩⟩⟩⟩⟩⟩⟩⟩⟩⟩⟩⟩⟩⟩⟩⟩⟩⟩⟩⟩⟩⟩⟩⟩⟩
def KR_6 : List KR := [(4, 3, prog_6_method_7_code, false, false, k_Te_readDigits), (4, 3, prog_6_method_8_code, true, false, k_Te_readOperator), (4, 3, prog_6_method_10_code, false, false, k_Te_release), (8, 4, method_33_code, false, false, k_La_matchCount), (6, 4, prog_1_method_45_code, false, false, k_It_matchCount), (6, 6, prog_1_method_76_code, true, false, k_It_matches), (6, 6, prog_1_method_77_code, true, false, k_It_decide), (6, 6, prog_1_method_78_code, false, false, k_It_perform), (6, 2, prog_1_method_79_code, false, false, k_It_push), (6, 3, prog_1_method_80_code, true, false, k_It_overlapsAnother), (8, 5, method_34_code, false, false, k_La_accepts), (6, 3, prog_1_method_46_code, true, false, k_It_accepts), (8, 5, method_35_code, false, false, k_La_open), (6, 4, prog_1_method_47_code, false, false, k_It_open), (6, 3, prog_1_method_58_code, false, false, k_It_existingCursor), (0, 2, prog_2_method_2_code, false, false, k_Cu_start), (6, 3, prog_1_method_81_code, false, false, k_It_following), (0, 2, prog_2_method_4_code, true, false, k_Cu_isBefore), (8, 4, method_36_code, false, false, k_La_hasNext), (6, 2, prog_1_method_48_code, true, false, k_It_hasNext), (6, 3, prog_1_method_59_code, false, false, k_It_openCursor), (8, 4, method_37_code, false, false, k_La_next), (6, 4, prog_1_method_49_code, false, false, k_It_next), (0, 2, prog_2_method_3_code, false, false, k_Cu_moveBehind), (8, 4, method_38_code, false, false, k_La_removeCurrent)]
theorem kr_6 : ∀ q ∈ KR_6, okR q := List.forall_mem_cons.mpr ⟨ck_150, List.forall_mem_cons.mpr ⟨ck_151, List.forall_mem_cons.mpr ⟨ck_152, List.forall_mem_cons.mpr ⟨ck_153, List.forall_mem_cons.mpr ⟨ck_154, List.forall_mem_cons.mpr ⟨ck_155, List.forall_mem_cons.mpr ⟨ck_156, List.forall_mem_cons.mpr ⟨ck_157, List.forall_mem_cons.mpr ⟨ck_158, List.forall_mem_cons.mpr ⟨ck_159, List.forall_mem_cons.mpr ⟨ck_160, List.forall_mem_cons.mpr ⟨ck_161, List.forall_mem_cons.mpr ⟨ck_162, List.forall_mem_cons.mpr ⟨ck_163, List.forall_mem_cons.mpr ⟨ck_164, List.forall_mem_cons.mpr ⟨ck_165, List.forall_mem_cons.mpr ⟨ck_166, List.forall_mem_cons.mpr ⟨ck_167, List.forall_mem_cons.mpr ⟨ck_168, List.forall_mem_cons.mpr ⟨ck_169, List.forall_mem_cons.mpr ⟨ck_170, List.forall_mem_cons.mpr ⟨ck_171, List.forall_mem_cons.mpr ⟨ck_172, List.forall_mem_cons.mpr ⟨ck_173, List.forall_mem_cons.mpr ⟨ck_174, fun _ h => absurd h List.not_mem_nil⟩⟩⟩⟩⟩⟩⟩⟩⟩⟩⟩⟩⟩⟩⟩⟩⟩⟩⟩⟩⟩⟩⟩⟩⟩
def KR_7 : List KR := [(6, 4, prog_1_method_50_code, false, false, k_It_removeCurrent), (8, 3, method_39_code, false, false, k_La_load), (6, 5, prog_1_method_52_code, false, false, k_It_load), (7, 1, prog_9_method_1_code, false, false, k_Mo_thrown), (7, 1, prog_9_method_4_code, false, true, k_Mo_init), (7, 4, prog_9_method_17_code, false, false, k_Mo_insert), (7, 3, prog_9_method_2_code, true, false, k_Mo_in), (7, 2, prog_9_method_3_code, false, false, k_Mo_fails), (7, 3, prog_9_method_16_code, false, false, k_Mo_rebuilds), (7, 3, prog_9_method_10_code, false, false, k_Mo_layRow), (7, 3, prog_9_method_9_code, true, false, k_Mo_isLess), (7, 7, prog_9_method_15_code, false, false, k_Mo_built), (7, 4, prog_9_method_13_code, false, false, k_Mo_hangsNew), (7, 7, prog_9_method_14_code, false, false, k_Mo_mends), (7, 4, prog_9_method_12_code, false, false, k_Mo_rises), (7, 4, prog_9_method_11_code, false, false, k_Mo_hangs), (7, 2, prog_9_method_19_code, false, false, k_Mo_remove), (7, 2, prog_9_method_6_code, true, false, k_Mo_isLive), (7, 2, prog_9_method_5_code, true, false, k_Mo_isInserted), (7, 2, prog_9_method_18_code, false, false, k_Mo_goes), (7, 1, prog_9_method_8_code, false, false, k_Mo_live), (7, 2, prog_9_method_20_code, false, false, k_Mo_restore), (7, 2, prog_9_method_21_code, false, false, k_Mo_rebuild), (7, 3, prog_9_method_22_code, false, false, k_Mo_setRebuildPercentage), (7, 6, prog_9_method_23_code, false, false, k_Mo_addWeight)]
theorem kr_7 : ∀ q ∈ KR_7, okR q := List.forall_mem_cons.mpr ⟨ck_175, List.forall_mem_cons.mpr ⟨ck_176, List.forall_mem_cons.mpr ⟨ck_177, List.forall_mem_cons.mpr ⟨ck_178, List.forall_mem_cons.mpr ⟨ck_179, List.forall_mem_cons.mpr ⟨ck_180, List.forall_mem_cons.mpr ⟨ck_181, List.forall_mem_cons.mpr ⟨ck_182, List.forall_mem_cons.mpr ⟨ck_183, List.forall_mem_cons.mpr ⟨ck_184, List.forall_mem_cons.mpr ⟨ck_185, List.forall_mem_cons.mpr ⟨ck_186, List.forall_mem_cons.mpr ⟨ck_187, List.forall_mem_cons.mpr ⟨ck_188, List.forall_mem_cons.mpr ⟨ck_189, List.forall_mem_cons.mpr ⟨ck_190, List.forall_mem_cons.mpr ⟨ck_191, List.forall_mem_cons.mpr ⟨ck_192, List.forall_mem_cons.mpr ⟨ck_193, List.forall_mem_cons.mpr ⟨ck_194, List.forall_mem_cons.mpr ⟨ck_195, List.forall_mem_cons.mpr ⟨ck_196, List.forall_mem_cons.mpr ⟨ck_197, List.forall_mem_cons.mpr ⟨ck_198, List.forall_mem_cons.mpr ⟨ck_199, fun _ h => absurd h List.not_mem_nil⟩⟩⟩⟩⟩⟩⟩⟩⟩⟩⟩⟩⟩⟩⟩⟩⟩⟩⟩⟩⟩⟩⟩⟩⟩
def KR_8 : List KR := [(7, 1, prog_9_method_24_code, false, false, k_Mo_size), (7, 1, prog_9_method_25_code, false, false, k_Mo_nodeCount), (7, 1, prog_9_method_27_code, false, false, k_Mo_height), (7, 2, prog_9_method_26_code, false, false, k_Mo_heightOf), (7, 1, prog_9_method_28_code, false, false, k_Mo_rebuildCount), (7, 1, prog_9_method_29_code, false, false, k_Mo_rebuiltNodes), (7, 2, prog_9_method_30_code, false, false, k_Mo_state), (7, 2, prog_9_method_31_code, false, false, k_Mo_low), (7, 2, prog_9_method_7_code, true, false, k_Mo_isInTree), (7, 2, prog_9_method_32_code, false, false, k_Mo_high), (7, 2, prog_9_method_33_code, false, false, k_Mo_weight), (7, 2, prog_9_method_34_code, false, false, k_Mo_parent), (7, 3, prog_9_method_35_code, false, false, k_Mo_child), (7, 2, prog_9_method_36_code, true, false, k_Mo_isRed), (7, 2, prog_9_method_39_code, false, false, k_Mo_subtreeSize), (7, 2, prog_9_method_37_code, false, false, k_Mo_sizeOf), (7, 2, prog_9_method_41_code, false, false, k_Mo_subtreeHigh), (7, 3, prog_9_method_40_code, false, false, k_Mo_greatestOf), (7, 3, prog_9_method_38_code, false, false, k_Mo_greatest), (7, 2, prog_9_method_42_code, false, false, k_Mo_subtreeWeight), (7, 1, prog_9_method_45_code, false, false, k_Mo_digest), (7, 2, prog_9_method_44_code, false, false, k_Mo_visits), (7, 4, prog_9_method_43_code, false, false, k_Mo_absorbs), (7, 4, prog_9_method_47_code, false, false, k_Mo_stabCount), (7, 4, prog_9_method_46_code, true, false, k_Mo_overlaps)]
theorem kr_8 : ∀ q ∈ KR_8, okR q := List.forall_mem_cons.mpr ⟨ck_200, List.forall_mem_cons.mpr ⟨ck_201, List.forall_mem_cons.mpr ⟨ck_202, List.forall_mem_cons.mpr ⟨ck_203, List.forall_mem_cons.mpr ⟨ck_204, List.forall_mem_cons.mpr ⟨ck_205, List.forall_mem_cons.mpr ⟨ck_206, List.forall_mem_cons.mpr ⟨ck_207, List.forall_mem_cons.mpr ⟨ck_208, List.forall_mem_cons.mpr ⟨ck_209, List.forall_mem_cons.mpr ⟨ck_210, List.forall_mem_cons.mpr ⟨ck_211, List.forall_mem_cons.mpr ⟨ck_212, List.forall_mem_cons.mpr ⟨ck_213, List.forall_mem_cons.mpr ⟨ck_214, List.forall_mem_cons.mpr ⟨ck_215, List.forall_mem_cons.mpr ⟨ck_216, List.forall_mem_cons.mpr ⟨ck_217, List.forall_mem_cons.mpr ⟨ck_218, List.forall_mem_cons.mpr ⟨ck_219, List.forall_mem_cons.mpr ⟨ck_220, List.forall_mem_cons.mpr ⟨ck_221, List.forall_mem_cons.mpr ⟨ck_222, List.forall_mem_cons.mpr ⟨ck_223, List.forall_mem_cons.mpr ⟨ck_224, fun _ h => absurd h List.not_mem_nil⟩⟩⟩⟩⟩⟩⟩⟩⟩⟩⟩⟩⟩⟩⟩⟩⟩⟩⟩⟩⟩⟩⟩⟩⟩
def KR_9 : List KR := [(7, 4, prog_9_method_48_code, false, false, k_Mo_stabWeight), (7, 3, prog_9_method_50_code, false, false, k_Mo_heaviest), (7, 7, prog_9_method_49_code, false, false, k_Mo_ranked), (7, 4, prog_9_method_51_code, false, false, k_Mo_heaviestOverlap), (7, 4, prog_9_method_52_code, false, false, k_Mo_firstOverlap), (7, 4, prog_9_method_53_code, false, false, k_Mo_floor), (7, 3, prog_9_method_54_code, false, false, k_Mo_ceiling), (7, 4, prog_9_method_55_code, false, false, k_Mo_rank), (7, 2, prog_9_method_56_code, false, false, k_Mo_select), (7, 7, prog_9_method_57_code, false, false, k_Mo_nearest), (7, 5, prog_9_method_59_code, false, false, k_Mo_covered), (7, 2, prog_9_method_58_code, false, false, k_Mo_layCover), (7, 3, prog_9_method_60_code, false, false, k_Mo_deepestPoint), (7, 4, prog_9_method_61_code, false, false, k_Mo_overlapCount), (7, 1, prog_9_method_64_code, false, false, k_Mo_scheduleWeight), (7, 2, prog_9_method_63_code, false, false, k_Mo_layBest), (7, 3, prog_9_method_62_code, false, false, k_Mo_behind), (7, 7, prog_9_method_65_code, false, false, k_Mo_scheduled), (7, 6, prog_9_method_66_code, false, false, k_Mo_piercingPoint), (7, 4, prog_9_method_74_code, false, false, k_Mo_addRangeFilter), (7, 5, prog_9_method_73_code, false, false, k_Mo_adds), (7, 2, prog_9_method_75_code, false, false, k_Mo_addHeavierFilter), (7, 4, prog_9_method_76_code, false, false, k_Mo_addCombinedFilter), (7, 2, prog_9_method_67_code, true, false, k_Mo_isFilter), (7, 2, prog_9_method_77_code, false, false, k_Mo_feed)]
theorem kr_9 : ∀ q ∈ KR_9, okR q := List.forall_mem_cons.mpr ⟨ck_225, List.forall_mem_cons.mpr ⟨ck_226, List.forall_mem_cons.mpr ⟨ck_227, List.forall_mem_cons.mpr ⟨ck_228, List.forall_mem_cons.mpr ⟨ck_229, List.forall_mem_cons.mpr ⟨ck_230, List.forall_mem_cons.mpr ⟨ck_231, List.forall_mem_cons.mpr ⟨ck_232, List.forall_mem_cons.mpr ⟨ck_233, List.forall_mem_cons.mpr ⟨ck_234, List.forall_mem_cons.mpr ⟨ck_235, List.forall_mem_cons.mpr ⟨ck_236, List.forall_mem_cons.mpr ⟨ck_237, List.forall_mem_cons.mpr ⟨ck_238, List.forall_mem_cons.mpr ⟨ck_239, List.forall_mem_cons.mpr ⟨ck_240, List.forall_mem_cons.mpr ⟨ck_241, List.forall_mem_cons.mpr ⟨ck_242, List.forall_mem_cons.mpr ⟨ck_243, List.forall_mem_cons.mpr ⟨ck_244, List.forall_mem_cons.mpr ⟨ck_245, List.forall_mem_cons.mpr ⟨ck_246, List.forall_mem_cons.mpr ⟨ck_247, List.forall_mem_cons.mpr ⟨ck_248, List.forall_mem_cons.mpr ⟨ck_249, fun _ h => absurd h List.not_mem_nil⟩⟩⟩⟩⟩⟩⟩⟩⟩⟩⟩⟩⟩⟩⟩⟩⟩⟩⟩⟩⟩⟩⟩⟩⟩
def KR_10 : List KR := [(7, 1, prog_9_method_86_code, false, false, k_Mo_parseFilter), (7, 1, prog_9_method_81_code, false, false, k_Mo_readFilter), (7, 1, prog_9_method_82_code, false, false, k_Mo_readTerm), (7, 1, prog_9_method_83_code, false, false, k_Mo_readFactor), (7, 1, prog_9_method_78_code, false, false, k_Mo_sign), (7, 5, prog_9_method_80_code, false, false, k_Mo_part), (7, 1, prog_9_method_84_code, false, false, k_Mo_readReference), (7, 1, prog_9_method_79_code, true, false, k_Mo_isDigit), (7, 6, prog_9_method_85_code, false, false, k_Mo_readComparison), (7, 4, prog_9_method_87_code, false, false, k_Mo_matchCount), (7, 5, prog_9_method_72_code, true, false, k_Mo_takes), (7, 3, prog_9_method_69_code, true, false, k_Mo_overlapsAny), (7, 3, prog_9_method_68_code, false, false, k_Mo_propertyOf), (7, 5, prog_9_method_71_code, true, false, k_Mo_isWritten), (7, 4, prog_9_method_70_code, true, false, k_Mo_isCompared), (7, 3, prog_9_method_88_code, true, false, k_Mo_accepts), (7, 3, prog_9_method_91_code, false, false, k_Mo_open), (7, 1, prog_9_method_89_code, true, false, k_Mo_isCursor), (7, 4, prog_9_method_90_code, false, false, k_Mo_following), (7, 2, prog_9_method_92_code, true, false, k_Mo_hasNext), (7, 3, prog_9_method_93_code, false, false, k_Mo_next), (7, 2, prog_9_method_94_code, false, false, k_Mo_removeCurrent), (7, 2, prog_9_method_95_code, false, false, k_Mo_save), (7, 2, prog_9_method_96_code, false, false, k_Mo_load)]
theorem kr_10 : ∀ q ∈ KR_10, okR q := List.forall_mem_cons.mpr ⟨ck_250, List.forall_mem_cons.mpr ⟨ck_251, List.forall_mem_cons.mpr ⟨ck_252, List.forall_mem_cons.mpr ⟨ck_253, List.forall_mem_cons.mpr ⟨ck_254, List.forall_mem_cons.mpr ⟨ck_255, List.forall_mem_cons.mpr ⟨ck_256, List.forall_mem_cons.mpr ⟨ck_257, List.forall_mem_cons.mpr ⟨ck_258, List.forall_mem_cons.mpr ⟨ck_259, List.forall_mem_cons.mpr ⟨ck_260, List.forall_mem_cons.mpr ⟨ck_261, List.forall_mem_cons.mpr ⟨ck_262, List.forall_mem_cons.mpr ⟨ck_263, List.forall_mem_cons.mpr ⟨ck_264, List.forall_mem_cons.mpr ⟨ck_265, List.forall_mem_cons.mpr ⟨ck_266, List.forall_mem_cons.mpr ⟨ck_267, List.forall_mem_cons.mpr ⟨ck_268, List.forall_mem_cons.mpr ⟨ck_269, List.forall_mem_cons.mpr ⟨ck_270, List.forall_mem_cons.mpr ⟨ck_271, List.forall_mem_cons.mpr ⟨ck_272, List.forall_mem_cons.mpr ⟨ck_273, fun _ h => absurd h List.not_mem_nil⟩⟩⟩⟩⟩⟩⟩⟩⟩⟩⟩⟩⟩⟩⟩⟩⟩⟩⟩⟩⟩⟩⟩⟩
def KRs : List KR := KR_0 ++ (KR_1 ++ (KR_2 ++ (KR_3 ++ (KR_4 ++ (KR_5 ++ (KR_6 ++ (KR_7 ++ (KR_8 ++ (KR_9 ++ (KR_10))))))))))
theorem KRs_ok : ∀ q ∈ KRs, okR q := List.forall_mem_append.mpr ⟨kr_0, List.forall_mem_append.mpr ⟨kr_1, List.forall_mem_append.mpr ⟨kr_2, List.forall_mem_append.mpr ⟨kr_3, List.forall_mem_append.mpr ⟨kr_4, List.forall_mem_append.mpr ⟨kr_5, List.forall_mem_append.mpr ⟨kr_6, List.forall_mem_append.mpr ⟨kr_7, List.forall_mem_append.mpr ⟨kr_8, List.forall_mem_append.mpr ⟨kr_9, kr_10⟩⟩⟩⟩⟩⟩⟩⟩⟩⟩
def mIi : List Bool := [true, false, false, false, true, false, true, false, false, false, false, false, true, true, false, false, false, false, false, false, false, false, false, false, false, false, false, false, false, false, false, false, false, false, false, false, false, false, false, false, false, false, false, false, false, false, true, false, false, false, false, false, false, false, false, false, false, false, false, false, false, false, false, false, false, false, false, false, false, false, false, false, false, false, false, false, false, false, false, false, false, false, false, false, false, false, false, false, false, false, false, false, false, false, false, false, false, false, false, false, false, false, false, false, false, false, false, false, false, false, false, false, false, false, false, false, false, false, false, false, false, false, false, false, false, false, false, false, false, false, false, false, false, false, false, false, false, false, false, false, false, true, false, false, false, false, false, false, false, false, false, false, false, false, false, false, false, false, false, false, false, false, false, false, false, false, false, false, false, false, false, false, false, false, false, false, false, false, false, true, false, false, false, false, false, false, false, false, false, false, false, false, false, false, false, false, false, false, false, false, false, false, false, false, false, false, false, false, false, false, false, false, false, false, false, false, false, false, false, false, false, false, false, false, false, false, false, false, false, false, false, false, false, false, false, false, false, false, false, false, false, false, false, false, false, false, false, false, false, false, false, false, false, false, false, false, false, false, false, false, false, false, false, false, false, false, false, false, false, false, false, false, false, false]
def isB : Option FieldType → Bool
  | some .boolean => true
  | _ => false
def krow (j : Nat) : KR := (mown j, mnL j, (mrow j).2.1, isB (mrow j).2.2.2.1, mIi.getD j false, kof j)
set_option maxRecDepth 100000 in
set_option maxHeartbeats 4000000 in
theorem KRs_rows : KRs = (List.range 274).map krow := rfl
theorem mIi_ok : ((List.range 274).all fun j => !(mIi.getD j false) || decide ((mrow j).1.name = "<init>")) = true := by decide +kernel
