/-! ===== the class's ranking ===== -/
def cnd (K : MT) (f t : Int32) (pv : Option Nat) (a : Nat) : Prop := ovB K f t a ∧ ∀ p, pv = some p → outr K p a
def hbS (K : MT) (f t : Int32) (pv : Option Nat) (l : List Nat) (b o : Option Nat) : Prop :=
  (o = none ∧ b = none ∧ ∀ a ∈ l, ¬ cnd K f t pv a) ∨ (∃ m, o = some m ∧ cnd K f t pv m ∧ (m ∈ l ∨ b = some m) ∧ (∀ a ∈ l, cnd K f t pv a → a = m ∨ outr K m a) ∧ (∀ m', b = some m' → m' = m ∨ outr K m m'))
theorem hbS_nil {K : MT} {f t : Int32} {pv b : Option Nat} (h : ∀ m, b = some m → cnd K f t pv m) : hbS K f t pv [] b b := by
  cases b with
  | none => exact Or.inl ⟨rfl, rfl, fun a ha => by cases ha⟩
  | some m => exact Or.inr ⟨m, rfl, h m rfl, Or.inr rfl, fun a ha => (by cases ha), fun m' e => Or.inl (Option.some.inj e).symm⟩
theorem hbS_skip {K : MT} {f t : Int32} {pv b o : Option Nat} {i : Nat} {l : List Nat} (h : ¬ cnd K f t pv i ∨ ∃ m, b = some m ∧ ¬ outr K i m) (hs : hbS K f t pv l b o) : hbS K f t pv (i :: l) b o := by
  rcases hs with ⟨e1, e2, e3⟩ | ⟨m, e1, e2, e3, e4, e5⟩
  · refine Or.inl ⟨e1, e2, fun a ha => ?_⟩
    rcases List.mem_cons.mp ha with rfl | ha
    · rcases h with h | ⟨m, h, -⟩
      · exact h
      · rw [e2] at h; cases h
    · exact e3 a ha
  · refine Or.inr ⟨m, e1, e2, e3.imp (List.mem_cons_of_mem _) (fun x => x), fun a ha hc => ?_, e5⟩
    rcases List.mem_cons.mp ha with rfl | ha
    · rcases h with h | ⟨m', h, h'⟩
      · exact (h hc).elim
      · by_cases e : a = m'
        · rw [e]; exact e5 m' h
        · have h2 := (outr_tri e).resolve_left h'
          rcases e5 m' h with q | q
          · rw [q] at h2; exact Or.inr h2
          · exact Or.inr (outr_trans q h2)
    · exact e4 a ha hc
theorem hbS_take {K : MT} {f t : Int32} {pv b o : Option Nat} {i : Nat} {l : List Nat} (h : cnd K f t pv i) (hb : ∀ m, b = some m → outr K i m) (hs : hbS K f t pv l (some i) o) : hbS K f t pv (i :: l) b o := by
  rcases hs with ⟨-, e2, -⟩ | ⟨m, e1, e2, e3, e4, e5⟩
  · cases e2
  · refine Or.inr ⟨m, e1, e2, Or.inl ?_, fun a ha hc => ?_, fun m' e => ?_⟩
    · rcases e3 with q | q
      · exact List.mem_cons_of_mem _ q
      · rw [Option.some.inj q]; exact List.mem_cons_self
    · rcases List.mem_cons.mp ha with rfl | ha
      · exact e5 a rfl
      · exact e4 a ha hc
    · have h1 := hb m' e
      rcases e5 i rfl with q | q
      · rw [q] at h1; exact Or.inr h1
      · exact Or.inr (outr_trans q h1)
theorem hbS_out {K : MT} {f t : Int32} {pv b : Option Nat} : ∀ {l : List Nat}, (∀ a ∈ l, ¬ ovB K f t a) → (∀ m, b = some m → cnd K f t pv m) → hbS K f t pv l b b := by
  intro l
  induction l with
  | nil => intro _ h; exact hbS_nil h
  | cons a l ih => intro h hb; exact hbS_skip (Or.inl (fun q => h a List.mem_cons_self q.1)) (ih (fun x hx => h x (List.mem_cons_of_mem _ hx)) hb)
def rkS (K : MT) (T : Tr) (f t : Int32) (j : Nat) (o : Option Nat) : Prop := (o = none ∧ ∀ a ∈ live K T, ovB K f t a → rk K f t (live K T) a < j) ∨ (∃ m, m ∈ live K T ∧ ovB K f t m ∧ o = some m ∧ rk K f t (live K T) m = j)
theorem rkS_0 {K : MT} {T : Tr} {f t : Int32} {o : Option Nat} (h : hbS K f t none (live K T) none o) : rkS K T f t 0 o := by
  rcases h with ⟨e1, -, e3⟩ | ⟨m, e1, e2, e3, e4, -⟩
  · exact Or.inl ⟨e1, fun a ha hv => (e3 a ha ⟨hv, fun p hp => by cases hp⟩).elim⟩
  · have hm : m ∈ live K T := e3.resolve_right (fun q => by cases q)
    refine Or.inr ⟨m, hm, e2.1, e1, ?_⟩
    unfold rk; rw [List.countP_eq_zero]
    intro a ha q
    rw [outB_iff] at q
    rcases e4 a ha ⟨q.1, fun p hp => by cases hp⟩ with z | z
    · rw [z] at q; exact outr_irr q.2
    · exact outr_irr (outr_trans z q.2)
theorem rkS_s {K : MT} {T : Tr} {N : Nat} {W : Int} (I : TI K T N W) {f t : Int32} {o : Option Nat} {j m : Nat} (hm : m ∈ live K T) (hv : ovB K f t m) (hr : rk K f t (live K T) m = j) (h : hbS K f t (some m) (live K T) none o) : rkS K T f t (j + 1) o := by
  have hc : ∀ a, cnd K f t (some m) a ↔ ovB K f t a ∧ outr K m a := fun a => ⟨fun q => ⟨q.1, q.2 m rfl⟩, fun q => ⟨q.1, fun p hp => by rw [← Option.some.inj hp]; exact q.2⟩⟩
  rcases h with ⟨e1, -, e3⟩ | ⟨m', e1, e2, e3, e4, -⟩
  · refine Or.inl ⟨e1, fun a ha hva => ?_⟩
    by_cases e : a = m
    · rw [e, hr]; exact Nat.lt_succ_self _
    · rcases outr_tri e with q | q
      · have := rk_lt ha hva q; omega
      · exact (e3 a ha ((hc a).mpr ⟨hva, q⟩)).elim
  · have hm' : m' ∈ live K T := e3.resolve_right (fun q => by cases q)
    have hmm := ((hc m').mp e2).2
    refine Or.inr ⟨m', hm', e2.1, e1, ?_⟩
    have hnd := pw_nodup I.live_sorted
    have h1 : rk K f t (live K T) m' = (live K T).countP (fun x => outB K f t m x || decide (x = m)) := by
      unfold rk
      refine List.countP_congr (fun a ha => ?_)
      rw [Bool.or_eq_true, decide_eq_true_iff, outB_iff, outB_iff]
      constructor
      · rintro ⟨q1, q2⟩
        by_cases e : a = m
        · exact Or.inr e
        · rcases outr_tri e with q | q
          · exact Or.inl ⟨q1, q⟩
          · rcases e4 a ha ((hc a).mpr ⟨q1, q⟩) with z | z
            · rw [z] at q2; exact (outr_irr q2).elim
            · exact (outr_irr (outr_trans z q2)).elim
      · rintro (⟨q1, q2⟩ | q)
        · exact ⟨q1, outr_trans q2 hmm⟩
        · rw [q]; exact ⟨hv, hmm⟩
    have h2 : (live K T).countP (fun x => decide (x = m)) = 1 := by
      have a1 : (live K T).countP (fun x => decide (x = m)) = (live K T).count m := by
        rw [List.count]; exact List.countP_congr (fun a _ => by rw [decide_eq_true_iff, beq_iff_eq])
      have a2 := List.nodup_iff_count.mp hnd m
      have a3 := List.count_pos_iff.mpr hm
      omega
    rw [h1, countP_or (fun x _ q => ?_), h2]
    · unfold rk at hr; rw [hr]
    · have q2 := of_decide_eq_true q.2
      rw [q2] at q
      exact outr_irr (outB_iff.mp q.1).2
section RKC
variable {g : AHp} {c t b : Nat} {na : Nat → Nat} {K : MT} {T : Tr} {N : Nat} {W : Int} {lim : Nat × Nat} {d : Nat} {R : RT} {X : XT} {x y w : Int32}
theorem C_outr (V : CV g g t b na (fun i => i ∈ ino T) K) {n m : Nat} (hn : n ∈ ino T) (hm : m ∈ ino T) (q1 : outr K n m → R (some (vi 1)) g) (q2 : ¬ outr K n m → R (some (vi 0)) g) : WM lim d j_No_outranks [vr (some (na n)), vr (some (na m))] g R X := by
  have n5 := V.lt hn
  have m5 := V.lt hm
  refine B_No_outranks_0 ⟨V.kn hn, ?_⟩
  simp only [onR_s, V.we hn, V.we hm, V.id hn, V.id hm, true_and]
  refine ⟨V.kn hm, ?_⟩
  split
  · rename_i c1; rw [i_lt] at c1; exact ⟨b01_1, q1 (Or.inl c1)⟩
  · rename_i c1; rw [i_lt] at c1
    refine ⟨V.kn hn, V.kn hm, ?_⟩
    split
    · rename_i c2
      refine ⟨V.kn hn, V.kn hm, ?_⟩
      split
      · rename_i c3; rw [i_lt, nI_toInt (by omega), nI_toInt (by omega)] at c3
        exact ⟨b01_1, q1 (Or.inr ⟨by rw [c2], by omega⟩)⟩
      · rename_i c3; rw [i_lt, nI_toInt (by omega), nI_toInt (by omega)] at c3
        exact ⟨b01_0, q2 (fun z => by unfold outr at z; omega)⟩
    · rename_i c2
      refine ⟨b01_0, q2 (fun z => ?_)⟩
      unfold outr at z
      rcases z with z | z
      · exact c1 z
      · exact c2 (by rw [i_eq]; exact z.1)
theorem oa_id {o : Option Nat} (h : ∀ m, o = some m → m < 500) : oa na (idI o) = o.map na := by
  cases o with
  | none => exact oa_n
  | some m => exact oa_s (h m rfl)
theorem C_hb12 (O : RO g c t b na K T N W) (hd : 1 < d) {pv : Option Nat} (hpv : ∀ p, pv = some p → p ∈ ino T) : ∀ (S P : List Nat) (bs : Option Nat) (l6 : Option AV), live K T = P ++ S → (∀ m, bs = some m → m ∈ ino T ∧ cnd K x y pv m) → (∀ o, hbS K x y pv S bs o → (∀ m, o = some m → m ∈ ino T) → R (some (vr (o.map na))) g) →
    WP lim d j_It_heaviestBehind 12 [some (vr (some c)), some (vr (pv.map na)), some (vi x), some (vi y), some (vr (bs.map na)), some (vr (oa na (hdI S))), l6] [] g R X := by
  intro S
  induction S with
  | nil =>
    intro P bs l6 _ hb q
    exact B_It_heaviestBehind_12 (by rw [show hdI [] = (-1 : Int32) from rfl, oa_n]; exact ⟨rfl, q bs (hbS_nil (fun m e => (hb m e).2)) (fun m e => (hb m e).1)⟩)
  | cons i S ih =>
    intro P bs l6 h hb q
    have hi := O.at h
    have k2 := all1.mpr (O.2.1.kn hi)
    have skip : ∀ l6, (¬ cnd K x y pv i ∨ ∃ m, bs = some m ∧ ¬ outr K i m) → (∀ q ∈ [((0 : Int), (2 : Nat))], hk g (na i) = q.2) ∧ 0 < d ∧ WM lim (d - 1) j_No_liveAfter [vr (some (na i))] g (fun v5 h4 => onO v5 fun o6 => WP lim d j_It_heaviestBehind 12 [some (vr (some c)), some (vr (pv.map na)), some (vi x), some (vi y), some (vr (bs.map na)), some (vr o6), l6] [] h4 R X) X := fun l6 hc =>
      O.next h (by omega) (onO_v (ih (P ++ [i]) bs l6 (by rw [h]; simp) hb (fun o ho hm => q o (hbS_skip hc ho) hm)))
    have take : ∀ l6, cnd K x y pv i → (∀ m, bs = some m → outr K i m) → (∀ q ∈ [((0 : Int), (2 : Nat))], hk g (na i) = q.2) ∧ 0 < d ∧ WM lim (d - 1) j_No_liveAfter [vr (some (na i))] g (fun v5 h4 => onO v5 fun o6 => WP lim d j_It_heaviestBehind 12 [some (vr (some c)), some (vr (pv.map na)), some (vi x), some (vi y), some (vr (some (na i))), some (vr o6), l6] [] h4 R X) X := fun l6 hc ho =>
      O.next h (by omega) (onO_v (ih (P ++ [i]) (some i) l6 (by rw [h]; simp) (fun m e => by rw [← Option.some.inj e]; exact ⟨hi, hc⟩) (fun o hs hm => q o (hbS_take hc ho hs) hm)))
    refine B_It_heaviestBehind_12 ?_
    rw [show hdI (i :: S) = nI i from rfl, oa_s (O.2.1.lt hi)]
    simp only [ifN_s, onR_s, O.2.1.lo hi, O.2.1.hi hi, true_and]
    refine ⟨O.2.1.kn hi, ?_⟩
    by_cases c1 : y < K 1 i
    · rw [if_pos c1]; rw [i_lt] at c1
      refine q bs (hbS_out (fun a ha => ?_) (fun m e => (hb m e).2)) (fun m e => (hb m e).1)
      unfold ovB
      rcases List.mem_cons.mp ha with rfl | ha
      · omega
      · have := O.after h a ha; omega
    · rw [if_neg c1]; rw [i_lt] at c1
      refine ⟨O.2.1.kn hi, ?_⟩
      by_cases c2 : K 2 i < x
      · rw [if_pos c2]; rw [i_lt] at c2
        exact skip _ (Or.inl (fun z => by have := z.1; unfold ovB at this; omega))
      · rw [if_neg c2]; rw [i_lt] at c2
        have hov : ovB K x y i := ⟨by omega, by omega⟩
        cases hp : pv with
        | none =>
          subst hp
          have hcn : cnd K x y none i := ⟨hov, fun p e => by cases e⟩
          simp only [Option.map_none, ifN_n]
          cases hbs : bs with
          | none => subst hbs; exact take _ hcn (fun m e => by cases e)
          | some m =>
            subst hbs
            simp only [Option.map_some, ifN_s]
            refine ⟨k2, by omega, C_outr O.2.1 hi (hb m rfl).1 (fun ho => onI_1 ?_) (fun ho => onI_0 ?_)⟩
            · exact take _ hcn (fun m' e => by rw [← Option.some.inj e]; exact ho)
            · exact skip _ (Or.inr ⟨m, rfl, ho⟩)
        | some p =>
          subst hp
          simp only [Option.map_some, ifN_s, onR_s]
          refine ⟨all1.mpr (O.2.1.kn (hpv p rfl)), by omega, C_outr O.2.1 (hpv p rfl) hi (fun hpo => onI_1 ?_) (fun hpo => onI_0 ?_)⟩
          · have hcn : cnd K x y (some p) i := ⟨hov, fun p' e => by rw [← Option.some.inj e]; exact hpo⟩
            cases hbs : bs with
            | none => subst hbs; exact take _ hcn (fun m e => by cases e)
            | some m =>
              subst hbs
              simp only [Option.map_some, ifN_s]
              refine ⟨k2, by omega, C_outr O.2.1 hi (hb m rfl).1 (fun ho => onI_1 ?_) (fun ho => onI_0 ?_)⟩
              · exact take _ hcn (fun m' e => by rw [← Option.some.inj e]; exact ho)
              · exact skip _ (Or.inr ⟨m, rfl, ho⟩)
          · exact skip _ (Or.inl (fun z => hpo (z.2 p rfl)))
theorem C_hb (O : RO g c t b na K T N W) (hd : 1 < d) {pv : Option Nat} (hpv : ∀ p, pv = some p → p ∈ ino T) (q : ∀ o, hbS K x y pv (live K T) none o → (∀ m, o = some m → m ∈ ino T) → R (some (vr (o.map na))) g) : WM lim d j_It_heaviestBehind [vr (some c), vr (pv.map na), vi x, vi y] g R X :=
  B_It_heaviestBehind_0 (O.first hd (onO_v (C_hb12 O hd hpv (live K T) [] none none rfl (fun m e => by cases e) q)))
theorem C_rk25 (O : RO g c t b na K T N W) (hd : 2 < d) {k : Nat} (hk : k ≤ 100) (q : ∀ o, RkR K T x y (nI k) o → R (some (vi (idI o))) g) : ∀ (n j : Nat) (o : Option Nat), j + n = k → rkS K T x y j o → WP lim d j_It_ranked 25 [some (vr (some c)), some (vi x), some (vi y), some (vi (nI k)), some (vr (o.map na)), some (vi (nI j))] [] g R X := by
  have hlen : (live K T).length ≤ 100 := by have := O.2.2.1.len; have := O.2.2.1.2.2.2.2.2.2.2.2.2.1; omega
  have hrb : ∀ a, rk K x y (live K T) a ≤ 100 := fun a => Nat.le_trans List.countP_le_length hlen
  have done : ∀ j o, j ≤ k → rkS K T x y j o → (j = k ∨ o = none) → 0 < d ∧ WM lim (d - 1) j_It_idOf [vr (o.map na)] g (fun v2 h1 => onI v2 fun x3 => ([] : List AV) = [] ∧ R (some (vi x3)) h1) X := by
    intro j o hj hs hjo
    have hoT : ∀ m, o = some m → m ∈ ino T := fun m e => by
      rcases hs with ⟨e1, -⟩ | ⟨m', hm', -, e1, -⟩
      · rw [e1] at e; cases e
      · rw [e1] at e; rw [← Option.some.inj e]; exact (lvT hm').1
    refine ⟨by omega, C_idOf O (v := idI o) (oa_id (fun m e => O.2.1.lt (hoT m e))).symm ?_ (onI_v ⟨rfl, q o ?_⟩)⟩
    · cases o with
      | none => exact Or.inl rfl
      | some m => exact Or.inr ⟨m, hoT m rfl, rfl⟩
    · rcases hs with ⟨e1, e2⟩ | ⟨m, hm, hv, e1, e2⟩
      · refine Or.inl ⟨e1, fun a ha hv e => ?_⟩
        have := e2 a ha hv
        have := nI_inj (by have := hrb a; omega) (by omega) e
        omega
      · rcases hjo with hjo | hjo
        · exact Or.inr ⟨m, hm, hv, e1, by rw [e2, hjo]⟩
        · rw [e1] at hjo; cases hjo
  intro n
  induction n with
  | zero =>
    intro j o hj hs
    refine B_It_ranked_25 ?_
    rw [if_neg (nI_nlt (by omega) (by omega))]
    exact done j o (by omega) hs (Or.inl (by omega))
  | succ n ih =>
    intro j o hj hs
    refine B_It_ranked_25 ?_
    rw [if_pos (nI_lt (by omega) (by omega)), nI_1]
    cases o with
    | none => exact done j none (by omega) hs (Or.inr rfl)
    | some m =>
      simp only [Option.map_some, ifN_s]
      rcases hs with ⟨e1, -⟩ | ⟨m', hm, hv, e1, e2⟩
      · cases e1
      · have e1 := Option.some.inj e1
        subst e1
        refine ⟨all1.mpr O.1.1, by omega, ?_⟩
        exact C_hb (pv := some m) O (by omega) (fun p e => by rw [← Option.some.inj e]; exact (lvT hm).1) (fun o' ho hoT => onO_v (ih (j + 1) o' (by omega) (rkS_s O.2.2.1 hm hv e2 ho)))
theorem C_ranked (O : RO g c t b na K T N W) (hd : 3 < d) (hw : 0 ≤ w.toInt) (q : ∀ o, RkR K T x y w o → R (some (vi (idI o))) g) : WM lim d j_It_ranked [vr (some c), vi x, vi y, vi w] g R X := by
  have hlen : (live K T).length ≤ 100 := by have := O.2.2.1.len; have := O.2.2.1.2.2.2.2.2.2.2.2.2.1; omega
  refine B_It_ranked_0 ⟨O.1.1, ?_⟩
  rw [O.1.2, onR_s, O.2.1.liv, O.2.2.2.2.2]
  refine ⟨O.2.1.kt, ?_⟩
  split
  · rename_i c1; rw [i_lt, nI_toInt (by omega)] at c1
    obtain ⟨k, hk, e⟩ : ∃ k : Nat, k ≤ 100 ∧ w = nI k := ⟨w.toInt.toNat, by omega, by rw [i_eq, nI_toInt (by omega)]; omega⟩
    subst e
    refine ⟨all1.mpr O.1.1, by omega, ?_⟩
    refine C_hb (pv := none) O (by omega) (fun p e => by cases e) (fun o ho hoT => onO_v ?_)
    have := C_rk25 (lim := lim) (d := d) (X := X) O (by omega) hk q k 0 o (by omega) (rkS_0 ho)
    rw [nI_0] at this; exact this
  · rename_i c1; rw [i_lt, nI_toInt (by omega)] at c1
    refine ⟨rfl, q none (Or.inl ⟨rfl, fun a ha hv e => ?_⟩)⟩
    have h1 : rk K x y (live K T) a < (live K T).length := by
      have := countP_lt2 (p := outB K x y a) (q := fun _ => true) (fun _ _ => rfl) (by
        cases cc : outB K x y a a with
        | false => rfl
        | true => exact (outr_irr (outB_iff.mp cc).2).elim) rfl (live K T) ha
      rw [show (live K T).countP (fun _ => true) = (live K T).length from by rw [List.countP_true]] at this
      exact this
    rw [← e, nI_toInt (by omega)] at c1
    omega
theorem C_heaviest (O : RO g c t b na K T N W) (hd : 4 < d) (q1 : w.toInt < 0 → thr lim X 1 g) (q2 : 0 ≤ w.toInt → ∀ o, RkR K T x x w o → R (some (vi (idI o))) g) : WM lim d j_It_heaviest [vr (some c), vi x, vi w] g R X := by
  refine B_It_heaviest_0 ?_
  split
  · rename_i c1; rw [i_lt] at c1; exact ⟨rfl, q1 c1⟩
  · rename_i c1; rw [i_lt, show (0 : Int32).toInt = 0 from rfl] at c1
    exact ⟨all1.mpr O.1.1, by omega, C_ranked O (by omega) (by omega) (fun o ho => onI_v ⟨rfl, q2 (by omega) o ho⟩)⟩
theorem C_heaviestOverlap (O : RO g c t b na K T N W) (hd : 4 < d) (q1 : y.toInt < x.toInt ∨ w.toInt < 0 → thr lim X 1 g) (q2 : ¬ (y.toInt < x.toInt ∨ w.toInt < 0) → ∀ o, RkR K T x y w o → R (some (vi (idI o))) g) : WM lim d j_It_heaviestOverlap [vr (some c), vi x, vi y, vi w] g R X := by
  refine B_It_heaviestOverlap_0 ⟨by omega, C_range (fun h => ?_) (fun h => q1 (Or.inl h))⟩
  split
  · rename_i c1; rw [i_lt] at c1; exact ⟨rfl, q1 (Or.inr c1)⟩
  · rename_i c1; rw [i_lt, show (0 : Int32).toInt = 0 from rfl] at c1
    exact ⟨all1.mpr O.1.1, by omega, C_ranked O (by omega) (by omega) (fun o ho => onI_v ⟨rfl, q2 (by omega) o ho⟩)⟩
variable {z : Nat × Nat} {M : MT} {Q : Option AV → MT → Prop}
theorem RkR_thn {f t' k : Int32} {o : Option Nat} {e : Int32} (h : RkR (thn M e) T f t' k o) : RkR M T f t' k o := by
  have h1 : ∀ a, ovB (thn M e) f t' a ↔ ovB M f t' a := fun a => by unfold ovB; rw [thn_ne (by decide), thn_ne (by decide)]
  have h2 : ∀ a, rk (thn M e) f t' (live M T) a = rk M f t' (live M T) a := fun a => by
    unfold rk; refine List.countP_congr (fun x _ => ?_)
    unfold outB; rw [thn_ne (by decide), thn_ne (by decide), thn_ne (by decide), thn_ne (by decide)]
  unfold RkR at h ⊢
  rw [live_thn] at h
  rcases h with ⟨e1, e2⟩ | ⟨a, e1, e2, e3, e4⟩
  · exact Or.inl ⟨e1, fun a ha hv => by rw [← h2]; exact e2 a ha ((h1 a).mpr hv)⟩
  · exact Or.inr ⟨a, e1, (h1 a).mp e2, e3, by rw [← h2]; exact e4⟩
theorem S_heaviest (I : TI M T N W) (hd : 2 < d) (q1 : w.toInt < 0 → Q (some (vi 0)) (thn M 1)) (q2 : 0 ≤ w.toInt → ∀ o, RkR M T x x w o → Q (some (vi (idI o))) (thn M 0)) : WQ z d j_Mo_heaviest [vr (some 0), vi x, vi w] M Q := by
  refine M_heaviest_0 ?_
  split
  · rename_i c1; rw [i_lt] at c1; exact S_fails' (by omega) (q1 c1)
  · rename_i c1; rw [i_lt, show (0 : Int32).toInt = 0 from rfl] at c1
    exact ⟨by omega, S_ranked (M := thn M 0) (TI_thn I) (by omega) (fun o ho => onI_v (q2 (by omega) o (RkR_thn ho)))⟩
theorem S_heaviestOverlap (I : TI M T N W) (hd : 2 < d) (q1 : y.toInt < x.toInt ∨ w.toInt < 0 → Q (some (vi 0)) (thn M 1)) (q2 : ¬ (y.toInt < x.toInt ∨ w.toInt < 0) → ∀ o, RkR M T x y w o → Q (some (vi (idI o))) (thn M 0)) : WQ z d j_Mo_heaviestOverlap [vr (some 0), vi x, vi y, vi w] M Q := by
  refine M_heaviestOverlap_0 ?_
  split
  · rename_i c1; rw [i_lt] at c1; exact S_fails' (by omega) (q1 (Or.inl c1))
  · rename_i c0; rw [i_lt] at c0
    split
    · rename_i c1; rw [i_lt] at c1; exact S_fails' (by omega) (q1 (Or.inr c1))
    · rename_i c1; rw [i_lt, show (0 : Int32).toInt = 0 from rfl] at c1
      exact ⟨by omega, S_ranked (M := thn M 0) (TI_thn I) (by omega) (fun o ho => onI_v (q2 (by omega) o (RkR_thn ho)))⟩
end RKC
