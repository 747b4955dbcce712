/-! ===== the class's add ===== -/
def gh (K : MT) (n : Nat) : MT := up2 (up2 (up2 K 40 n (-1)) 41 n (-1)) 42 n 0
/-- the heap with a new node in it -/
def newH (g : AHp) (x l h w : Int32) : AHp :=
  sI (sP (sP (sP (sP (sP (sI (sI (sI (sI (sI (sI (nw g 2 12) (hsz g) 0 x) (hsz g) 1 l) (hsz g) 2 h) (hsz g) 3 w) (hsz g) 4 0) (hsz g) 5 1) (hsz g) 6 none) (hsz g) 7 none) (hsz g) 8 none) (hsz g) 9 none) (hsz g) 10 none) (hsz g) 11 0
theorem newH_o {g : AHp} {x l h w : Int32} {a : Nat} (ha : a ≠ hsz g) : hk (newH g x l h w) a = hk g a ∧ hLen (newH g x l h w) a = hLen g a ∧ hI (newH g x l h w) a = hI g a ∧ hP (newH g x l h w) a = hP g a ∧ hJ (newH g x l h w) a = hJ g a := by
  refine ⟨up1_off _ ha, up1_off _ ha, ?_, ?_, ?_⟩
  · show up2 (up2 (up2 (up2 (up2 (up2 (up2 (cl2 (hI g) (hsz g) 0) (hsz g) 0 x) (hsz g) 1 l) (hsz g) 2 h) (hsz g) 3 w) (hsz g) 4 0) (hsz g) 5 1) (hsz g) 11 0 a = hI g a
    rw [up2_offI ha, up2_offI ha, up2_offI ha, up2_offI ha, up2_offI ha, up2_offI ha, up2_offI ha]
    funext k; exact if_neg ha
  · show up2 (up2 (up2 (up2 (up2 (cl2 (hP g) (hsz g) none) (hsz g) 6 none) (hsz g) 7 none) (hsz g) 8 none) (hsz g) 9 none) (hsz g) 10 none a = hP g a
    rw [up2_offI ha, up2_offI ha, up2_offI ha, up2_offI ha, up2_offI ha]
    funext k; exact if_neg ha
  · show cl2 (hJ g) (hsz g) 0 a = hJ g a
    funext k; exact if_neg ha
theorem newH_P {g : AHp} {x l h w : Int32} {k : Nat} : hP (newH g x l h w) (hsz g) k = none := by
  show up2 (up2 (up2 (up2 (up2 (cl2 (hP g) (hsz g) none) (hsz g) 6 none) (hsz g) 7 none) (hsz g) 8 none) (hsz g) 9 none) (hsz g) 10 none (hsz g) k = none
  have h0 : cl2 (hP g) (hsz g) none (hsz g) k = none := if_pos rfl
  simp only [up2, h0]
  split <;> (try rfl) <;> split <;> (try rfl) <;> split <;> (try rfl) <;> split <;> (try rfl) <;> split <;> rfl
theorem newH_I {g : AHp} {x l h w : Int32} : hI (newH g x l h w) (hsz g) 0 = x ∧ hI (newH g x l h w) (hsz g) 1 = l ∧ hI (newH g x l h w) (hsz g) 2 = h ∧ hI (newH g x l h w) (hsz g) 3 = w ∧ hI (newH g x l h w) (hsz g) 4 = 0 ∧ hI (newH g x l h w) (hsz g) 5 = 1 ∧ hI (newH g x l h w) (hsz g) 11 = 0 := by
  have e : hI (newH g x l h w) = up2 (up2 (up2 (up2 (up2 (up2 (up2 (cl2 (hI g) (hsz g) 0) (hsz g) 0 x) (hsz g) 1 l) (hsz g) 2 h) (hsz g) 3 w) (hsz g) 4 0) (hsz g) 5 1) (hsz g) 11 0 := rfl
  rw [e]
  refine ⟨?_, ?_, ?_, ?_, ?_, ?_, ?_⟩ <;> simp [up2]
/-- what is known of the heap with the new node -/
def NH (g X : AHp) (x l h w : Int32) : Prop := hsz X = hsz g + 1 ∧ hsu X = hsu g + 12 ∧ (∀ a, a ≠ hsz g → hk X a = hk g a ∧ hLen X a = hLen g a ∧ hI X a = hI g a ∧ hP X a = hP g a ∧ hJ X a = hJ g a) ∧ hk X (hsz g) = 2 ∧ (∀ k, hP X (hsz g) k = none) ∧
  (hI X (hsz g) 0 = x ∧ hI X (hsz g) 1 = l ∧ hI X (hsz g) 2 = h ∧ hI X (hsz g) 3 = w ∧ hI X (hsz g) 4 = 0 ∧ hI X (hsz g) 5 = 1 ∧ hI X (hsz g) 11 = 0)
theorem newH_ok {g : AHp} {x l h w : Int32} : NH g (newH g x l h w) x l h w := ⟨rfl, rfl, fun _ ha => newH_o ha, up1_on _, fun _ => newH_P, newH_I⟩
theorem hk_sP {h : AHp} {a k : Nat} {v : Option Nat} : hk (sP h a k v) = hk h := rfl
theorem hLen_sP {h : AHp} {a k : Nat} {v : Option Nat} : hLen (sP h a k v) = hLen h := rfl
theorem hI_sP {h : AHp} {a k : Nat} {v : Option Nat} : hI (sP h a k v) = hI h := rfl
theorem hJ_sP {h : AHp} {a k : Nat} {v : Option Nat} : hJ (sP h a k v) = hJ h := rfl
theorem hsz_sP {h : AHp} {a k : Nat} {v : Option Nat} : hsz (sP h a k v) = hsz h := rfl
theorem hsu_sP {h : AHp} {a k : Nat} {v : Option Nat} : hsu (sP h a k v) = hsu h := rfl
theorem hP_sP {h : AHp} {a k : Nat} {v : Option Nat} : hP (sP h a k v) = up2 (hP h) a k v := rfl
/-- a node more: what the heap has become -/
def NewN (g gn : AHp) (b N : Nat) : Prop := hsz gn = hsz g + 1 ∧ hsu gn = hsu g + 12 ∧ (∀ a, a < hsz g → hk gn a = hk g a ∧ hLen gn a = hLen g a ∧ hI gn a = hI g a ∧ hJ gn a = hJ g a ∧ (a ≠ b → hP gn a = hP g a)) ∧ (∀ k, k ≠ N → hP gn b k = hP g b k) ∧ hP gn b N = some (hsz g)
section NEW
variable {g0 g : AHp} {t b : Nat} {na : Nat → Nat} {D : Nat → Prop} {K : MT} {lim : Nat × Nat} {d : Nat} {R : RT} {X : XT} {T : Tr} {N : Nat} {W : Int}
theorem oa_new {x : Int32} (hN : ¬ D N) (hD : ∀ i, D i → i < 500) (hx : pd D x) (a : Nat) : oa (up1 na N a) x = oa na x := by
  rcases hx with rfl | ⟨i, hi, rfl⟩
  · rw [oa_n, oa_n]
  · rw [oa_s (hD i hi), oa_s (hD i hi), up1_off _ (fun c => hN (by rw [← c]; exact hi))]
theorem CV.new (V : CV g0 g t b na D K) (hN : ¬ D N) (hN5 : N < 500) {gn : AHp} {K1 : MT} (z : hsz gn = hsz g + 1) (k1 : ∀ a, a < hsz g → hk gn a = hk g a ∧ hLen gn a = hLen g a ∧ hI gn a = hI g a) (k2 : ∀ a, a < hsz g → a ≠ b → hP gn a = hP g a) (kN : hk gn (hsz g) = 2) (idN : hI gn (hsz g) 0 = nI N) (ints : ∀ k, nrI k ≠ 99 → hI gn (hsz g) k = K1 (nrI k) N) (ptrs : ∀ k, nrP k ≠ 98 → hP gn (hsz g) k = none ∧ K1 (nrP k) N = -1) (hK : ∀ r i, i ≠ N → K1 r i = K r i) (hK0 : ∀ i, K1 0 i = K 0 i ∧ K1 43 i = K 43 i) : CV gn gn t b (up1 na N (hsz g)) (fun i => D i ∨ i = N) K1 := by
  have hD : ∀ i, D i → i < 500 := fun i hi => V.lt hi
  have ht : ∀ k, K1 (trR k) (trF k) = K (trR k) (trF k) := fun k => by
    rcases trR_v k with e | e
    · rw [e]; exact (hK0 _).1
    · rw [e]; exact (hK0 _).2
  have hpd : ∀ x, pd D x → pd (fun i => D i ∨ i = N) x := fun x h => h.imp (fun y => y) (fun ⟨i, a, b⟩ => ⟨i, Or.inl a, b⟩)
  have hnb : ∀ i, D i → na i ≠ b := fun i hi => V.nb hi
  have htb : t ≠ b := fun c => by have h1 := V.1.1; rw [c, V.1.2.2.2.1] at h1; cases h1
  obtain ⟨⟨a1, a2, a3, a4, a5, a6⟩, v2, v3, v4, v5, v6⟩ := V
  refine ⟨⟨(k1 t a2).1.trans a1, by omega, by rw [k2 t a2 htb]; exact a3, (k1 b a6).1.trans a4, (k1 b a6).2.1.trans a5, by omega⟩, fun j hj => ?_, fun k h1 h2 => ?_, fun k h1 h2 => ?_, fun i j hi hj e => ?_, Fr.refl⟩
  · rcases hj with hj | rfl
    · obtain ⟨n1, n2, n3, n4, n5, n6⟩ := v2 j hj
      have hjN : j ≠ N := fun c => hN (c ▸ hj)
      refine ⟨n1, ?_, ?_, ?_, fun k hk => ?_, fun k hk => ?_⟩
      · rw [up1_off _ hjN]; omega
      · rw [up1_off _ hjN, (k1 _ n2).1]; exact n3
      · rw [up1_off _ hjN, (k1 _ n2).2.2]; exact n4
      · rw [up1_off _ hjN, (k1 _ n2).2.2, hK _ _ hjN]; exact n5 k hk
      · rw [up1_off _ hjN, k2 _ n2 (hnb j hj), hK _ _ hjN, oa_new hN hD (n6 k hk).2]; exact ⟨(n6 k hk).1, hpd _ (n6 k hk).2⟩
    · refine ⟨hN5, ?_, ?_, ?_, fun k hk => ?_, fun k hk => ?_⟩
      · rw [up1_on]; omega
      · rw [up1_on]; exact kN
      · rw [up1_on]; exact idN
      · rw [up1_on]; exact ints k hk
      · rw [up1_on, (ptrs k hk).1, (ptrs k hk).2, oa_n]; exact ⟨rfl, Or.inl rfl⟩
  · rw [ht, k2 t a2 htb, oa_new hN hD (v3 k h1 h2).2]; exact ⟨(v3 k h1 h2).1, hpd _ (v3 k h1 h2).2⟩
  · rw [ht, (k1 t a2).2.2]; exact v4 k h1 h2
  · have hlt : ∀ i, D i → na i < hsz g := fun i hi => (v2 i hi).2.1
    rcases hi with hi | rfl
    · have hiN : i ≠ N := fun c => hN (c ▸ hi)
      rcases hj with hj | rfl
      · have hjN : j ≠ N := fun c => hN (c ▸ hj)
        rw [up1_off _ hiN, up1_off _ hjN] at e; exact v5 i j hi hj e
      · rw [up1_off _ hiN, up1_on] at e; have := hlt i hi; omega
    · rcases hj with hj | rfl
      · have hjN : j ≠ i := fun c => hN (c ▸ hj)
        rw [up1_on, up1_off _ hjN] at e; have := hlt j hj; omega
      · rfl
theorem Zp_eqT {A B : MT} {n : Nat} {cx : Zc} {L : List Nat} (h : eqT A B) (Z : Zp A n cx L) : Zp B n cx L := by
  obtain ⟨a, b, k, e, hl, rn, ra, rb, Ba, Bb, Bc⟩ := Z
  have h8 : ∀ i, rd A i = rd B i := fun i => rd_eq (h 8 i (by simp [tRow])).symm
  refine ⟨a, b, k, EncZ_congr (fun x => ⟨h 5 x (by simp [tRow]), h 6 x (by simp [tRow]), h 7 x (by simp [tRow])⟩) (h 0 9 (by simp [tRow])) e, hl, h8 n ▸ rn, isRedT_congr (fun i _ => h8 i) ▸ ra, isRedT_congr (fun i _ => h8 i) ▸ rb, RB_congr (fun i _ => h8 i) Ba, RB_congr (fun i _ => h8 i) Bb, RBc_congr (fun i _ => h8 i) Bc⟩
theorem down_cong {A B : MT} {n : Nat} (h : ∀ i, A 1 i = B 1 i ∧ A 2 i = B 2 i) : ∀ (t : Tr) (cx : Zc), down A n t cx = down B n t cx := by
  have hl : ∀ r, lessB A n r = lessB B n r := fun r => by unfold lessB; rw [(h n).1, (h n).2, (h r).1, (h r).2]
  intro t
  induction t with
  | leaf u => intro cx; rfl
  | branch r l rr h1 h2 => intro cx; rw [down_b, down_b, hl, h1, h2]
theorem hg_hn {B : MT} {n : Nat} {cx : Zc} (hn5 : n < 500) : hgM (seat B n (-1)) n cx = hnM B n cx := by
  have key : ∀ (r p : Nat), r ≠ 7 → setM (seat B n (-1)) r p (nI n) = up2 (seat B n (nI p)) r p (nI n) := by
    intro r p hr
    unfold setM
    rw [if_neg (nI_m1 (by omega)), nI_clamp (by omega), up2_comm (by omega)]
    congr 1
    unfold seat
    rw [up2_comm (a := 8) (k := n) (by omega), up2_same]
  cases cx with
  | nil => rfl
  | cons f cx =>
    obtain ⟨b, p, s⟩ := f
    cases b with
    | true => exact key 5 p (by decide)
    | false => exact key 6 p (by decide)
theorem hgM_T {A B : MT} {n : Nat} {cx : Zc} (h : eqT A B) : eqT (hgM A n cx) (hgM B n cx) := by
  have hs : ∀ r p, eqT (setM A r p (nI n)) (setM B r p (nI n)) := fun r p => by
    unfold setM; split
    · exact h.up
    · exact h.up.up
  cases cx with
  | nil => exact h.up
  | cons f cx =>
    obtain ⟨b, p, s⟩ := f
    cases b with
    | true => exact hs 5 p
    | false => exact hs 6 p
theorem hgM_o {A : MT} {n : Nat} {cx : Zc} {r i : Nat} (h : offT r i) : hgM A n cx r i = A r i := by
  obtain ⟨h5, h6, h7, h8, h0⟩ := h
  have hs : ∀ a p, (a = 5 ∨ a = 6) → setM A a p (nI n) r i = A r i := fun a p ha => by
    unfold setM; split
    · exact up2_ne (by omega)
    · rw [up2_ne (by omega), up2_ne (by omega)]
  cases cx with
  | nil => exact up2_ne h0
  | cons f cx =>
    obtain ⟨b, p, s⟩ := f
    cases b with
    | true => exact hs 5 p (Or.inl rfl)
    | false => exact hs 6 p (Or.inr rfl)
theorem chM_o {A : MT} {s e : Int32} {n r i : Nat} (h : r ≠ 40 ∧ r ≠ 41 ∧ ¬ (r = 43 ∧ (i = 0 ∨ i = 1))) : chM A s n e r i = A r i := by
  unfold chM
  have hC : ∀ Y : MT, chC Y n e r i = Y r i := fun Y => by
    unfold chC; split
    · exact up2_ne (by omega)
    · exact up2_ne (by omega)
  have hB : ∀ Y : MT, chB Y s n r i = Y r i := fun Y => by
    unfold chB; split
    · exact up2_ne (by omega)
    · exact up2_ne (by omega)
  rw [hC, hB]; unfold chA; rw [up2_ne (by omega), up2_ne (by omega)]
theorem C_init {x l h w : Int32} (q : R none (newH g x l h w)) : WM lim d j_No_init [vr (some (hsz g)), vi x, vi l, vi h, vi w] (nw g 2 12) R X := by
  have kN : hk (nw g 2 12) (hsz g) = 2 := up1_on _
  exact B_No_init_0 ⟨kN, kN, kN, kN, kN, b01_0, kN, b01_1, kN, kN, kN, kN, kN, kN, rfl, q⟩
def eqG (A B : MT) : Prop := ∀ r i, r < 36 → A r i = B r i
/-- the ids of the tree after an insertion -/
def inL (K : MT) (T : Tr) (N : Nat) (l h w : Int32) : List Nat := lfs (inC K T N l h w) ++ (N :: rgs (inC K T N l h w))
theorem new_NN {X : AHp} {l h w : Int32} (hb6 : b < hsz g) (hX : NH g X (nI N) l h w) : NewN g (sP X b N (some (hsz g))) b N := by
  have ob := hX.2.2.1 b (by omega)
  refine ⟨hX.1, hX.2.1, fun a ha => ?_, fun k hk => ?_, ?_⟩
  · have o := hX.2.2.1 a (by omega)
    rw [hk_sP, hLen_sP, hI_sP, hJ_sP, hP_sP]
    exact ⟨o.1, o.2.1, o.2.2.1, o.2.2.2.2, fun hab => (up2_offI hab).trans o.2.2.2.1⟩
  · rw [hP_sP]
    unfold up2; rw [if_neg (fun c => hk c.2), ob.2.2.2.1]
  · rw [hP_sP]
    unfold up2; rw [if_pos ⟨rfl, rfl⟩]
theorem new_V1 {X : AHp} {l h w : Int32} (hX : NH g X (nI N) l h w) (V : CV g0 g t b na (· ∈ ino T) K) (I : TI K T N W) (hN5 : N < 500) : CV (sP X b N (some (hsz g))) (sP X b N (some (hsz g))) t b (up1 na N (hsz g)) (fun i => i ∈ ino T ∨ i = N) (seat (gh (in1 K N l h w) N) N (-1)) := by
  have hNT : N ∉ ino T := (I.in1 l h w).2.1
  have hbz : b ≠ hsz g := by have := V.1.2.2.2.2.2; omega
  have NN : NewN g (sP X b N (some (hsz g))) b N := new_NN V.1.2.2.2.2.2 hX
  have hin := hX.2.2.2.2.2
  refine V.new hNT hN5 NN.1 (fun a ha => ⟨(NN.2.2.1 a ha).1, (NN.2.2.1 a ha).2.1, (NN.2.2.1 a ha).2.2.1⟩) (fun a ha hab => (NN.2.2.1 a ha).2.2.2.2 hab) (by rw [hk_sP]; exact hX.2.2.2.1) (by rw [hI_sP]; exact hin.1) (fun k hk => ?_) (fun k hk => ⟨?_, ?_⟩) (fun r i hi => ?_) (fun i => ⟨?_, ?_⟩)
  · rw [hI_sP]
    rcases nrI_v hk with ⟨e1, e2⟩ | ⟨e1, e2⟩ | ⟨e1, e2⟩ | ⟨e1, e2⟩ | ⟨e1, e2⟩ | ⟨e1, e2⟩
    · rw [e2, e1, hin.2.1, seat_ne (by omega)]; unfold gh; rw [up2_ne (by omega), up2_ne (by omega), up2_ne (by omega), in1_1]
    · rw [e2, e1, hin.2.2.1, seat_ne (by omega)]; unfold gh; rw [up2_ne (by omega), up2_ne (by omega), up2_ne (by omega), in1_2]
    · rw [e2, e1, hin.2.2.2.1, seat_ne (by omega)]; unfold gh; rw [up2_ne (by omega), up2_ne (by omega), up2_ne (by omega), in1_3]
    · rw [e2, e1, hin.2.2.2.2.1, seat_ne (by omega)]; unfold gh; rw [up2_ne (by omega), up2_ne (by omega), up2_ne (by omega), in1_4]
    · rw [e2, e1, hin.2.2.2.2.2.1, seat_8]
    · rw [e2, e1, hin.2.2.2.2.2.2, seat_ne (by omega)]; unfold gh; rw [up2_at]
  · rw [hP_sP, up2_offI (Ne.symm hbz)]; exact hX.2.2.2.2.1 k
  · rcases nrP_v hk with ⟨e1, e2⟩ | ⟨e1, e2⟩ | ⟨e1, e2⟩ | ⟨e1, e2⟩ | ⟨e1, e2⟩
    · rw [e2, seat_7]
    · rw [e2, seat_5]
    · rw [e2, seat_6]
    · rw [e2, seat_ne (by omega)]; unfold gh; rw [up2_ne (by omega), up2_ne (by omega), up2_at]
    · rw [e2, seat_ne (by omega)]; unfold gh; rw [up2_ne (by omega), up2_at]
  · rw [seat_ne (Or.inl hi)]; unfold gh; rw [up2_ne (by omega), up2_ne (by omega), up2_ne (by omega), in1_ne (Or.inl hi)]
  · rw [seat_ne (by omega)]; unfold gh; rw [up2_ne (by omega), up2_ne (by omega), up2_ne (by omega), in1_ne (by omega)]
  · rw [seat_ne (by omega)]; unfold gh; rw [up2_ne (by omega), up2_ne (by omega), up2_ne (by omega), in1_ne (by omega)]
theorem add_rest {l h w : Int32} {gn : AHp} (I : TI K T N W) (C : CH K (ino T)) (hN5 : N < 500) (hd : 5 < d) (NN : NewN g gn b N) (V1 : CV gn gn t b (up1 na N (hsz g)) (fun i => i ∈ ino T ∨ i = N) (seat (gh (in1 K N l h w) N) N (-1)))
    (q : ∀ g' K', CV gn g' t b (up1 na N (hsz g)) (· ∈ inL K T N l h w) K' → eqG K' (insM K T N l h w) → K' 43 2 = K 43 2 + 1 → CH K' (inL K T N l h w) → R (some (vi (nI N))) g') :
    WM lim (d - 1) j_Tr_hang [vr (some t), vr (some (hsz g))] (sI (sI (sI gn t 4 (hI gn t 4 + 1)) t 5 (hI (sI gn t 4 (hI gn t 4 + 1)) t 5 + 1)) t 6 (hI (sI (sI gn t 4 (hI gn t 4 + 1)) t 5 (hI (sI gn t 4 (hI gn t 4 + 1)) t 5 + 1)) t 6 + 1)) (fun _ h6 => (∀ q ∈ [((0 : Int), (5 : Nat))], hk h6 t = q.2) ∧ 0 < d ∧ WM lim (d - 1) j_Tr_balance [vr (some t), vr (some (hsz g))] h6 (fun _ h7 => ([] : List AV) = [] ∧ R (some (vi (nI N))) h7) X) X := by
  have hN := I.1
  have hNT : N ∉ ino T := (I.in1 l h w).2.1
  obtain ⟨Z, hL, hs, hnd, hb⟩ := ins_zp I hN5 l h w
  have hlen := ins_len I (l := l) (h := h) (w := w)
  have hD : (fun i => i ∈ ino T ∨ i = N) = (fun i => i ∈ inL K T N l h w) := by
    funext i; apply propext
    unfold inL
    rw [hL]; simp only [List.mem_append, List.mem_cons]
    constructor
    · rintro ((h | h) | h)
      · exact Or.inl h
      · exact Or.inr (Or.inr h)
      · exact Or.inr (Or.inl h)
    · rintro (h | h | h)
      · exact Or.inl (Or.inl h)
      · exact Or.inr h
      · exact Or.inl (Or.inr h)
  rw [hD] at V1
  have K1o : ∀ r i, (r ≠ 5 ∧ r ≠ 6 ∧ r ≠ 7 ∧ r ≠ 8 ∧ r ≠ 40 ∧ r ≠ 41 ∧ r ≠ 42) → seat (gh (in1 K N l h w) N) N (-1) r i = in1 K N l h w r i := fun r i q => by
    rw [seat_ne (by omega)]; unfold gh; rw [up2_ne (by omega), up2_ne (by omega), up2_ne (by omega)]
  have K1o' : ∀ r i, i ≠ N → seat (gh (in1 K N l h w) N) N (-1) r i = K r i := fun r i hi => by
    rw [seat_ne (Or.inl hi)]; unfold gh; rw [up2_ne (by omega), up2_ne (by omega), up2_ne (by omega), in1_ne (Or.inl hi)]
  have K1T : eqT (seat (gh (in1 K N l h w) N) N (-1)) (seat (in1 K N l h w) N (-1)) := by
    unfold seat
    refine eqT.up (eqT.up (eqT.up (eqT.up (fun r i q => ?_))))
    unfold tRow at q
    unfold gh; rw [up2_ne (by omega), up2_ne (by omega), up2_ne (by omega)]
  generalize seat (gh (in1 K N l h w) N) N (-1) = K1 at V1 K1o K1o' K1T
  have V2 := V1.wtI (k := 4) (by decide) (by decide) (hI gn t 4 + 1)
  have V3 := V2.wtI (k := 5) (by decide) (by decide) (hI (sI gn t 4 (hI gn t 4 + 1)) t 5 + 1)
  have V4 := V3.wtI (k := 6) (by decide) (by decide) (hI (sI (sI gn t 4 (hI gn t 4 + 1)) t 5 (hI (sI gn t 4 (hI gn t 4 + 1)) t 5 + 1)) t 6 + 1)
  have e4 : hI gn t 4 + 1 = nI (N + 1) := by rw [V1.ins, K1o 0 10 (by omega), in1_ne (by omega), hN, nI_1]
  have e5 : hI (sI gn t 4 (hI gn t 4 + 1)) t 5 + 1 = K 0 11 + 1 := by rw [V2.nod, show trR 4 = 0 from rfl, show trF 4 = 10 from rfl, up2_ne (by omega), K1o 0 11 (by omega), in1_ne (by omega)]
  have e6 : hI (sI (sI gn t 4 (hI gn t 4 + 1)) t 5 (hI (sI gn t 4 (hI gn t 4 + 1)) t 5 + 1)) t 6 + 1 = K 43 2 + 1 := by
    rw [V3.liv, show trR 4 = 0 from rfl, show trR 5 = 0 from rfl, up2_ne (by omega), up2_ne (by omega), K1o 43 2 (by omega), in1_ne (by omega)]
  rw [e6, e5, e4] at V4
  rw [e6, e5, e4]
  rw [show trR 4 = 0 from rfl, show trF 4 = 10 from rfl, show trR 5 = 0 from rfl, show trF 5 = 11 from rfl, show trR 6 = 43 from rfl, show trF 6 = 2 from rfl] at V4
  clear V2 V3 e4 e5 e6
  generalize sI (sI (sI gn t 4 (nI (N + 1))) t 5 (K 0 11 + 1)) t 6 (K 43 2 + 1) = g4 at V4 ⊢
  have K4o : ∀ r i, ¬ (r = 0 ∧ i = 10) → ¬ (r = 0 ∧ i = 11) → ¬ (r = 43 ∧ i = 2) → up2 (up2 (up2 K1 0 10 (nI (N + 1))) 0 11 (K 0 11 + 1)) 43 2 (K 43 2 + 1) r i = K1 r i := fun r i a b c => by rw [up2_ne c, up2_ne b, up2_ne a]
  have K4_10 : up2 (up2 (up2 K1 0 10 (nI (N + 1))) 0 11 (K 0 11 + 1)) 43 2 (K 43 2 + 1) 0 10 = nI (N + 1) := by rw [up2_ne (by omega), up2_ne (by omega), up2_at]
  have K4_11 : up2 (up2 (up2 K1 0 10 (nI (N + 1))) 0 11 (K 0 11 + 1)) 43 2 (K 43 2 + 1) 0 11 = K 0 11 + 1 := by rw [up2_ne (by omega), up2_at]
  have K4_2 : up2 (up2 (up2 K1 0 10 (nI (N + 1))) 0 11 (K 0 11 + 1)) 43 2 (K 43 2 + 1) 43 2 = K 43 2 + 1 := up2_at
  generalize up2 (up2 (up2 K1 0 10 (nI (N + 1))) 0 11 (K 0 11 + 1)) 43 2 (K 43 2 + 1) = K4 at V4 K4o K4_10 K4_11 K4_2
  have hNL : N ∈ inL K T N l h w := List.mem_append_right _ List.mem_cons_self
  have hTL : ∀ x ∈ ino T, x ∈ inL K T N l h w := fun x hx => by rw [hL] at hx; unfold inL; exact (List.mem_append.mp hx).elim (fun h => List.mem_append_left _ h) (fun h => List.mem_append_right _ (List.mem_cons_of_mem _ h))
  have eK4 : EncZ K4 T [] := by
    have e0 := I.2.2.1.1
    refine ⟨Enc_congr (fun x hx => ?_) e0.1, ?_⟩
    · have hxN : x ≠ N := fun c => hNT (c ▸ hx)
      exact ⟨by rw [K4o 5 x (by omega) (by omega) (by omega), K1o' 5 x hxN], by rw [K4o 6 x (by omega) (by omega) (by omega), K1o' 6 x hxN], by rw [K4o 7 x (by omega) (by omega) (by omega), K1o' 7 x hxN]⟩
    · show K4 0 9 = _
      rw [K4o 0 9 (by omega) (by omega) (by omega), K1o 0 9 (by omega), in1_ne (by omega)]; exact e0.2
  have hcx : down K4 N T [] = inC K T N l h w := down_cong (fun i => ⟨by rw [K4o 1 i (by omega) (by omega) (by omega), K1o 1 i (by omega)], by rw [K4o 2 i (by omega) (by omega) (by omega), K1o 2 i (by omega)]⟩) T []
  have hna : up1 na N (hsz g) N = hsz g := up1_on _
  have hg := C_hang (n := N) (lim := lim) (d := d - 1) (X := X) V4 hNL (by omega) eK4 hTL I.nodup (R := fun _ h6 => (∀ q ∈ [((0 : Int), (5 : Nat))], hk h6 t = q.2) ∧ 0 < d ∧ WM lim (d - 1) j_Tr_balance [vr (some t), vr (some (hsz g))] h6 (fun _ h7 => ([] : List AV) = [] ∧ R (some (vi (nI N))) h7) X) (fun g5 V5 => ⟨all1.mpr V5.kt, by omega, ?_⟩)
  · rw [hna] at hg; exact hg
  rw [hcx] at V5
  -- what hang has left, and the mending of it
  have T5 : eqT (chM (hgM K4 N (inC K T N l h w)) (laI (lfs (inC K T N l h w))) N (hdI (rgs (inC K T N l h w)))) (hnM (in1 K N l h w) N (inC K T N l h w)) := by
    intro r i hr
    rw [chM_o (by unfold tRow at hr; omega), ← hg_hn hN5]
    refine hgM_T (fun r i q => ?_) r i hr
    rw [K4o r i (by unfold tRow at q; omega) (by unfold tRow at q; omega) (by unfold tRow at q; omega)]; exact K1T r i q
  have o5 : ∀ r i, offT r i → ¬ (r = 40) → ¬ (r = 41) → ¬ (r = 43 ∧ (i = 0 ∨ i = 1)) → chM (hgM K4 N (inC K T N l h w)) (laI (lfs (inC K T N l h w))) N (hdI (rgs (inC K T N l h w))) r i = K4 r i := fun r i h a b c => by rw [chM_o ⟨a, b, c⟩, hgM_o h]
  have C5 : CH (chM (hgM K4 N (inC K T N l h w)) (laI (lfs (inC K T N l h w))) N (hdI (rgs (inC K T N l h w)))) (inL K T N l h w) := by
    have hnT : N ∉ lfs (inC K T N l h w) ++ rgs (inC K T N l h w) := hL ▸ hNT
    refine CH_ins ?_ hnT (hL ▸ I.nodup) (fun x hx => (I.lt (hL.symm ▸ hx)).2)
    rw [← hL]
    refine C.congr (fun i hi => ?_) ?_ ?_
    · have hiN : i ≠ N := fun c => hNT (c ▸ hi)
      exact ⟨by rw [hgM_o (by unfold offT; omega), K4o 40 i (by omega) (by omega) (by omega), K1o' 40 i hiN], by rw [hgM_o (by unfold offT; omega), K4o 41 i (by omega) (by omega) (by omega), K1o' 41 i hiN]⟩
    · rw [hgM_o (by unfold offT; omega), K4o 43 0 (by omega) (by omega) (by omega), K1o 43 0 (by omega), in1_ne (by omega)]
    · rw [hgM_o (by unfold offT; omega), K4o 43 1 (by omega) (by omega) (by omega), K1o 43 1 (by omega), in1_ne (by omega)]
  generalize chM (hgM K4 N (inC K T N l h w)) (laI (lfs (inC K T N l h w))) N (hdI (rgs (inC K T N l h w))) = K5 at V5 T5 o5 C5
  have Z5 : Zp K5 N (inC K T N l h w) (inL K T N l h w) := Zp_eqT (fun r i q => (T5 r i q).symm) Z
  have hne : inL K T N l h w ≠ [] := fun c => by rw [c] at hNL; cases hNL
  have hbl := C_balance (n := N) (lim := lim) (d := d - 1) (X := X) (R := fun _ h7 => ([] : List AV) = [] ∧ R (some (vi (nI N))) h7) hne hnd hb (by omega) hNL Z5 hlen V5 (fun g6 V6 => ⟨rfl, q g6 _ V6 ?_ ?_ ?_⟩)
  · rw [hna] at hbl; exact hbl
  · intro r i hr
    by_cases hT : tRow r i
    · rw [eqT.mend T5 r i hT]
      unfold insM; rw [up2_ne (by unfold tRow at hT; omega), up2_ne (by unfold tRow at hT; omega)]
    · have ho : offT r i := by unfold tRow at hT; unfold offT; omega
      rw [mendM_o ho, o5 r i ho (by omega) (by omega) (by omega)]
      by_cases c1 : r = 0 ∧ i = 10
      · rw [c1.1, c1.2, K4_10]; unfold insM; rw [up2_at]
      · by_cases c2 : r = 0 ∧ i = 11
        · rw [c2.1, c2.2, K4_11]; unfold insM; rw [up2_ne (by omega), up2_at]
        · rw [K4o r i c1 c2 (by omega), insM_o ho (by omega), K1o r i (by unfold offT at ho; omega)]
  · rw [mendM_o (by unfold offT; omega), o5 43 2 (by unfold offT; omega) (by omega) (by omega) (by omega), K4_2]
  · exact C5.congr (fun i _ => ⟨mendM_o (by unfold offT; omega), mendM_o (by unfold offT; omega)⟩) (mendM_o (by unfold offT; omega)) (mendM_o (by unfold offT; omega))
end NEW
