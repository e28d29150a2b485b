/-- an entry: first address, bits, peer -/
abbrev pr_E : Type := Int32 × Int32 × Int32
def pr_s (e : pr_E) : Nat := e.1.toNatClampNeg
def pr_l (e : pr_E) : Nat := e.2.1.toNatClampNeg
def pr_z (e : pr_E) : Nat := 2 ^ (16 - pr_l e)
def pr_ok (e : pr_E) : Prop := e.1 = nI (pr_s e) ∧ e.2.1 = nI (pr_l e) ∧ pr_l e ≤ 16 ∧ pr_s e + pr_z e ≤ 65536 ∧ pr_s e % pr_z e = 0
def pr_key (e : pr_E) : Int32 × Int32 := (e.1, e.2.1)
abbrev pr_cv (e : pr_E) (a : Nat) : Prop := pr_s e ≤ a ∧ a < pr_s e + pr_z e
def pr_good (L : List pr_E) : Prop := (∀ e, e ∈ L → pr_ok e) ∧ L.Pairwise (fun e f => pr_key e ≠ pr_key f)
theorem pr_pw {t : Nat} (h : t ≤ 16) : 0 < 2 ^ t ∧ 2 ^ t ≤ 65536 :=
  ⟨Nat.two_pow_pos t, Nat.pow_le_pow_right (n := 2) (by decide) h⟩
theorem pr_zb (e : pr_E) : 0 < pr_z e ∧ pr_z e ≤ 65536 := pr_pw (by omega)
theorem pr_cvI {s z a : Nat} (hz : 0 < z) (h : s % z = 0) : (s ≤ a ∧ a < s + z) ↔ a / z * z = s := by
  have hs : s / z * z = s := Nat.div_mul_cancel (Nat.dvd_of_mod_eq_zero h)
  constructor
  · intro ⟨h1, h2⟩
    have : a / z = s / z := Nat.div_eq_of_lt_le (by omega) (by rw [Nat.succ_mul]; omega)
    rw [this, hs]
  · intro e
    have h1 := Nat.div_add_mod a z
    have h2 := Nat.mod_lt a hz
    rw [Nat.mul_comm] at h1
    omega
theorem pr_same {e f : pr_E} {a : Nat} (he : pr_ok e) (hf : pr_ok f) (ce : pr_cv e a) (cf : pr_cv f a) (hl : pr_l e = pr_l f) : pr_key e = pr_key f := by
  have hz : pr_z e = pr_z f := by unfold pr_z; rw [hl]
  have h1 := (pr_cvI (pr_zb e).1 he.2.2.2.2).mp ce
  have h2 := (pr_cvI (pr_zb f).1 hf.2.2.2.2).mp cf
  have hs : pr_s e = pr_s f := by rw [← h1, ← h2, hz]
  unfold pr_key
  rw [he.1, hf.1, he.2.1, hf.2.1, hs, hl]
theorem pr_uni {L : List pr_E} (g : L.Pairwise (fun e f => pr_key e ≠ pr_key f)) {e f : pr_E} (he : e ∈ L) (hf : f ∈ L) (h : pr_key e = pr_key f) : e = f := by
  induction L with
  | nil => cases he
  | cons x L ih =>
    rw [List.pairwise_cons] at g
    rcases List.mem_cons.mp he with rfl | he'
    · rcases List.mem_cons.mp hf with rfl | hf'
      · rfl
      · exact absurd h (g.1 _ hf')
    · rcases List.mem_cons.mp hf with rfl | hf'
      · exact absurd h.symm (g.1 _ he')
      · exact ih g.2 he' hf'
theorem pr_gperm {L M : List pr_E} (p : L.Perm M) (g : pr_good L) : pr_good M :=
  ⟨fun e he => g.1 e (p.mem_iff.mpr he), (p.pairwise_iff (fun h => Ne.symm h)).mp g.2⟩
theorem pr_gcons {e : pr_E} {L : List pr_E} : pr_good (e :: L) ↔ (pr_ok e ∧ (∀ f, f ∈ L → pr_key e ≠ pr_key f)) ∧ pr_good L := by
  unfold pr_good
  rw [List.pairwise_cons]
  constructor
  · intro ⟨h1, h2, h3⟩
    exact ⟨⟨h1 e (List.mem_cons_self ..), h2⟩, fun f hf => h1 f (List.mem_cons_of_mem _ hf), h3⟩
  · intro ⟨⟨h1, h2⟩, h3, h4⟩
    refine ⟨fun f hf => ?_, h2, h4⟩
    rcases List.mem_cons.mp hf with rfl | hf'
    · exact h1
    · exact h3 f hf'
theorem pr_gfil {L : List pr_E} (c : pr_E → Bool) (g : pr_good L) : pr_good (L.filter c) :=
  ⟨fun e he => g.1 e (List.mem_filter.mp he).1, g.2.filter c⟩
/-- the longest of the list that covers a and has fewer than m bits -/
def pr_lg : List pr_E → Nat → Nat → Option pr_E
  | [], _, _ => none
  | e :: L, a, m => if pr_cv e a ∧ pr_l e < m then (match pr_lg L a m with | none => some e | some f => if pr_l e ≤ pr_l f then some f else some e) else pr_lg L a m
def pr_sp (L : List pr_E) (a m : Nat) : Option pr_E → Prop
  | none => ∀ e, e ∈ L → ¬ (pr_cv e a ∧ pr_l e < m)
  | some e => e ∈ L ∧ (pr_cv e a ∧ pr_l e < m) ∧ ∀ f, f ∈ L → (pr_cv f a ∧ pr_l f < m) → pr_l f ≤ pr_l e
theorem pr_spSkip {L : List pr_E} {a m : Nat} {e : pr_E} {o : Option pr_E} (h : pr_sp L a m o) (hn : ¬ (pr_cv e a ∧ pr_l e < m)) : pr_sp (e :: L) a m o := by
  cases o with
  | none =>
    intro f hf
    rcases List.mem_cons.mp hf with rfl | hf'
    · exact hn
    · exact h f hf'
  | some x =>
    refine ⟨List.mem_cons_of_mem _ h.1, h.2.1, fun f hf hc => ?_⟩
    rcases List.mem_cons.mp hf with rfl | hf'
    · exact absurd hc hn
    · exact h.2.2 f hf' hc
theorem pr_spNew {L : List pr_E} {a m : Nat} {e : pr_E} (h : pr_sp L a m none) (hc : pr_cv e a ∧ pr_l e < m) : pr_sp (e :: L) a m (some e) := by
  refine ⟨List.mem_cons_self .., hc, fun f hf hd => ?_⟩
  rcases List.mem_cons.mp hf with rfl | hf'
  · exact Nat.le_refl _
  · exact absurd hd (h f hf')
theorem pr_spKeep {L : List pr_E} {a m : Nat} {e x : pr_E} (h : pr_sp L a m (some x)) (hl : pr_l e ≤ pr_l x) : pr_sp (e :: L) a m (some x) := by
  refine ⟨List.mem_cons_of_mem _ h.1, h.2.1, fun f hf hc => ?_⟩
  rcases List.mem_cons.mp hf with rfl | hf'
  · exact hl
  · exact h.2.2 f hf' hc
theorem pr_spRep {L : List pr_E} {a m : Nat} {e x : pr_E} (h : pr_sp L a m (some x)) (hc : pr_cv e a ∧ pr_l e < m) (hl : ¬ pr_l e ≤ pr_l x) : pr_sp (e :: L) a m (some e) := by
  refine ⟨List.mem_cons_self .., hc, fun f hf hd => ?_⟩
  rcases List.mem_cons.mp hf with rfl | hf'
  · exact Nat.le_refl _
  · have := h.2.2 f hf' hd
    omega
theorem pr_lgSp (L : List pr_E) (a m : Nat) : pr_sp L a m (pr_lg L a m) := by
  induction L with
  | nil => exact fun e he => nomatch he
  | cons e L ih =>
    unfold pr_lg
    by_cases hc : pr_cv e a ∧ pr_l e < m
    · rw [if_pos hc]
      cases ho : pr_lg L a m with
      | none => rw [ho] at ih; exact pr_spNew ih hc
      | some x =>
        rw [ho] at ih
        dsimp only
        by_cases hl : pr_l e ≤ pr_l x
        · rw [if_pos hl]; exact pr_spKeep ih hl
        · rw [if_neg hl]; exact pr_spRep ih hc hl
    · rw [if_neg hc]; exact pr_spSkip ih hc
theorem pr_spUn {L M : List pr_E} (hm : ∀ e, e ∈ L ↔ e ∈ M) (g : pr_good L) {a m : Nat} {o o' : Option pr_E} (h : pr_sp L a m o) (h' : pr_sp M a m o') : o = o' := by
  cases o with
  | none =>
    cases o' with
    | none => rfl
    | some x => exact absurd h'.2.1 (h x ((hm x).mpr h'.1))
  | some x =>
    cases o' with
    | none => exact absurd h.2.1 (h' x ((hm x).mp h.1))
    | some y =>
      have hy : y ∈ L := (hm y).mpr h'.1
      have h1 := h.2.2 y hy h'.2.1
      have h2 := h'.2.2 x ((hm x).mp h.1) h.2.1
      have hk := pr_same (g.1 x h.1) (g.1 y hy) h.2.1.1 h'.2.1.1 (by omega)
      rw [pr_uni g.2 h.1 hy hk]
theorem pr_lgUn {L : List pr_E} (g : pr_good L) {a m : Nat} {o : Option pr_E} (h : pr_sp L a m o) : o = pr_lg L a m :=
  pr_spUn (fun _ => Iff.rfl) g h (pr_lgSp L a m)
theorem pr_lgPerm {L M : List pr_E} (p : L.Perm M) (g : pr_good L) (a m : Nat) : pr_lg L a m = pr_lg M a m :=
  pr_spUn (fun _ => p.mem_iff) g (pr_lgSp L a m) (pr_lgSp M a m)
theorem pr_lgMem {L : List pr_E} {a m : Nat} {e : pr_E} (h : pr_lg L a m = some e) : e ∈ L := by
  have := pr_lgSp L a m
  rw [h] at this
  exact this.1
/-- a sum over the list -/
def pr_sm (f : pr_E → Int32) : List pr_E → Int32
  | [] => 0
  | e :: L => pr_sm f L + f e
theorem pr_smPerm (f : pr_E → Int32) {L M : List pr_E} (p : L.Perm M) : pr_sm f L = pr_sm f M := by
  induction p with
  | nil => rfl
  | cons x _ ih => show _ + _ = _ + _; rw [ih]
  | swap x y l =>
    show pr_sm f l + f x + f y = pr_sm f l + f y + f x
    rw [Int32.add_assoc, Int32.add_assoc, Int32.add_comm (f x)]
  | trans _ _ h1 h2 => exact h1.trans h2
theorem pr_smCon {f g : pr_E → Int32} {L : List pr_E} (h : ∀ e, e ∈ L → f e = g e) : pr_sm f L = pr_sm g L := by
  induction L with
  | nil => rfl
  | cons x L ih =>
    show _ + _ = _ + _
    rw [ih (fun e he => h e (List.mem_cons_of_mem _ he)), h x (List.mem_cons_self ..)]
theorem pr_smLen (L : List pr_E) : pr_sm (fun _ => 1) L = nI L.length := by
  induction L with
  | nil => rfl
  | cons x L ih =>
    show _ + 1 = _
    rw [ih, nI_1]
    rfl
theorem pr_smFil (p : Int32) (L : List pr_E) : pr_sm (fun e => if e.2.2 = p then 1 else 0) L = nI L.length - nI (L.filter (fun e => !decide (e.2.2 = p))).length := by
  induction L with
  | nil => exact (pk_sub (a := 0) (b := 0) (Nat.le_refl _)).symm
  | cons x L ih =>
    have hle := List.length_filter_le (fun e : pr_E => !decide (e.2.2 = p)) L
    rw [pk_sub hle] at ih
    by_cases hx : x.2.2 = p
    · rw [List.filter_cons_of_neg (by simp [hx])]
      show _ + (if x.2.2 = p then (1 : Int32) else 0) = _
      rw [if_pos hx, ih, nI_1, List.length_cons, pk_sub (by omega)]
      congr 1
      omega
    · rw [List.filter_cons_of_pos (by simp [hx])]
      show _ + (if x.2.2 = p then (1 : Int32) else 0) = _
      rw [if_neg hx, ih, Int32.add_zero, List.length_cons, List.length_cons, pk_sub (by omega)]
      congr 1
      omega
/-- what lies directly inside o -/
def pr_cd (L : List pr_E) (o : Option pr_E) : Int32 := pr_sm (fun f => if pr_lg L (pr_s f) (pr_l f) = o then nI (pr_z f) else 0) L
theorem pr_cdPerm {L M : List pr_E} (p : L.Perm M) (g : pr_good L) (o : Option pr_E) : pr_cd L o = pr_cd M o := by
  unfold pr_cd
  rw [pr_smPerm _ p]
  exact pr_smCon (fun e _ => by rw [pr_lgPerm p g])
def pr_ow (L : List pr_E) (a : Nat) : Int32 := match pr_lg L a 17 with | none => -1 | some e => e.2.2
def pr_ln (L : List pr_E) (a : Nat) : Int32 := match pr_lg L a 17 with | none => -1 | some e => e.2.1
theorem pr_owPerm {L M : List pr_E} (p : L.Perm M) (g : pr_good L) (a : Nat) : pr_ow L a = pr_ow M a := by
  unfold pr_ow
  rw [pr_lgPerm p g]
theorem pr_lnPerm {L M : List pr_E} (p : L.Perm M) (g : pr_good L) (a : Nat) : pr_ln L a = pr_ln M a := by
  unfold pr_ln
  rw [pr_lgPerm p g]
def pr_of (L : List pr_E) (p : Int32) (e : pr_E) : Int32 := if e.2.2 = p then nI (pr_z e) - pr_cd L (some e) else 0
theorem pr_ofPerm {L M : List pr_E} (p : L.Perm M) (g : pr_good L) (v : Int32) : pr_sm (pr_of L v) L = pr_sm (pr_of M v) M := by
  rw [pr_smPerm _ p]
  exact pr_smCon (fun e _ => by unfold pr_of; rw [pr_cdPerm p g])
def pr_uf (L : List pr_E) (e : pr_E) : Int32 := if pr_cd L (some e) = nI (pr_z e) ∨ (pr_lg L (pr_s e) (pr_l e)).map (fun o => o.2.2) = some e.2.2 then 1 else 0
theorem pr_ufPerm {L M : List pr_E} (p : L.Perm M) (g : pr_good L) : pr_sm (pr_uf L) L = pr_sm (pr_uf M) M := by
  rw [pr_smPerm _ p]
  exact pr_smCon (fun e _ => by unfold pr_uf; rw [pr_cdPerm p g, pr_lgPerm p g])
/-- the entries that stand in the slots below n -/
def pr_xl (h fa b p : Nat → Int32) : Nat → List pr_E
  | 0 => []
  | n + 1 => if h n = 0 then pr_xl h fa b p n else (fa n, b n, p n) :: pr_xl h fa b p n
def pr_on : Nat → Int32 := fun _ => 1
theorem pr_onN (i : Nat) : pr_on i ≠ 0 := by unfold pr_on; decide
theorem pr_xl0 {h fa b p : Nat → Int32} {n : Nat} (z : h n = 0) : pr_xl h fa b p (n + 1) = pr_xl h fa b p n := by
  rw [pr_xl, if_pos z]
theorem pr_xl1 {h fa b p : Nat → Int32} {n : Nat} (z : ¬ h n = 0) : pr_xl h fa b p (n + 1) = (fa n, b n, p n) :: pr_xl h fa b p n := by
  rw [pr_xl, if_neg z]
theorem pr_yl1 {s l q : Nat → Int32} {n : Nat} : pr_xl pr_on s l q (n + 1) = (s n, l n, q n) :: pr_xl pr_on s l q n := pr_xl1 (pr_onN n)
theorem pr_xlMem {h fa b p : Nat → Int32} {n : Nat} {e : pr_E} : e ∈ pr_xl h fa b p n ↔ ∃ i, i < n ∧ ¬ h i = 0 ∧ e = (fa i, b i, p i) := by
  induction n with
  | zero => exact ⟨(fun h => nomatch h), fun ⟨i, h, _⟩ => absurd h (Nat.not_lt_zero i)⟩
  | succ n ih =>
    by_cases z : h n = 0
    · rw [pr_xl0 z, ih]
      constructor
      · intro ⟨i, h1, h2⟩
        exact ⟨i, by omega, h2⟩
      · intro ⟨i, h1, h2, h3⟩
        refine ⟨i, ?_, h2, h3⟩
        have : i ≠ n := fun c => h2 (c ▸ z)
        omega
    · rw [pr_xl1 z, List.mem_cons, ih]
      constructor
      · rintro (rfl | ⟨i, h1, h2⟩)
        · exact ⟨n, by omega, z, rfl⟩
        · exact ⟨i, by omega, h2⟩
      · intro ⟨i, h1, h2, h3⟩
        by_cases c : i = n
        · subst c; exact .inl h3
        · exact .inr ⟨i, by omega, h2, h3⟩
theorem pr_xlCon {h fa b p h' fa' b' p' : Nat → Int32} {n : Nat} (H : ∀ j, j < n → (h j = 0 ↔ h' j = 0) ∧ (¬ h j = 0 → fa j = fa' j ∧ b j = b' j ∧ p j = p' j)) : pr_xl h fa b p n = pr_xl h' fa' b' p' n := by
  induction n with
  | zero => rfl
  | succ n ih =>
    have i := ih (fun j hj => H j (by omega))
    have k := H n (by omega)
    by_cases z : h n = 0
    · rw [pr_xl0 z, pr_xl0 (k.1.mp z), i]
    · rw [pr_xl1 z, pr_xl1 (fun c => z (k.1.mpr c)), i, (k.2 z).1, (k.2 z).2.1, (k.2 z).2.2]
theorem pr_xlRem {h fa b p : Nat → Int32} {n i : Nat} (hi : i < n) (z : ¬ h i = 0) : (pr_xl h fa b p n).Perm ((fa i, b i, p i) :: pr_xl (upd h i 0) fa b p n) := by
  induction n with
  | zero => exact absurd hi (Nat.not_lt_zero i)
  | succ n ih =>
    by_cases c : i = n
    · subst c
      rw [pr_xl1 z, pr_xl0 (h := upd h i 0) pk_us]
      rw [pr_xlCon (h := h) (h' := upd h i 0) (fa' := fa) (b' := b) (p' := p) (fun j hj => ⟨by rw [pk_un (by omega)], fun _ => ⟨rfl, rfl, rfl⟩⟩)]
    · have k := ih (by omega)
      by_cases w : h n = 0
      · rw [pr_xl0 w, pr_xl0 (h := upd h i 0) (by rw [pk_un (by omega)]; exact w)]
        exact k
      · rw [pr_xl1 w, pr_xl1 (h := upd h i 0) (by rw [pk_un (by omega)]; exact w)]
        exact (k.cons _).trans (List.Perm.swap _ _ _)
/-- slot i is written: its entry stands beside the rest -/
theorem pr_xlSet {h fa b p : Nat → Int32} {n i : Nat} (hi : i < n) {x y w v : Int32} (hx : ¬ x = 0) : (pr_xl (upd h i x) (upd fa i y) (upd b i w) (upd p i v) n).Perm ((y, w, v) :: pr_xl (upd h i 0) fa b p n) := by
  have k := pr_xlRem (h := upd h i x) (fa := upd fa i y) (b := upd b i w) (p := upd p i v) hi (by rw [pk_us]; exact hx)
  rw [pk_us, pk_us, pk_us] at k
  refine k.trans (List.Perm.of_eq ?_)
  congr 1
  refine pr_xlCon (fun j hj => ?_)
  by_cases c : j = i
  · subst c
    rw [pk_us, pk_us]
    exact ⟨Iff.rfl, fun z => absurd rfl z⟩
  · rw [pk_un c, pk_un c, pk_un c, pk_un c, pk_un c, pk_un c]
    exact ⟨Iff.rfl, fun _ => ⟨rfl, rfl, rfl⟩⟩
theorem pr_ylRem {s l q : Nat → Int32} {n i : Nat} (hi : i < n + 1) : (pr_xl pr_on s l q (n + 1)).Perm ((s i, l i, q i) :: pr_xl pr_on (upd s i (s n)) (upd l i (l n)) (upd q i (q n)) n) := by
  rw [pr_yl1]
  by_cases c : i = n
  · subst c
    rw [pr_xlCon (h := pr_on) (h' := pr_on) (fa := s) (b := l) (p := q) (fa' := upd s i (s i)) (b' := upd l i (l i)) (p' := upd q i (q i)) (fun j hj => ⟨Iff.rfl, fun _ => ⟨(pk_un (by omega)).symm, (pk_un (by omega)).symm, (pk_un (by omega)).symm⟩⟩)]
  · have k1 := pr_xlRem (h := pr_on) (fa := s) (b := l) (p := q) (n := n) (i := i) (by omega) (pr_onN i)
    have k2 := pr_xlSet (h := pr_on) (fa := s) (b := l) (p := q) (n := n) (i := i) (x := 1) (y := s n) (w := l n) (v := q n) (by omega) (by decide)
    have e : upd pr_on i 1 = pr_on := by
      funext j
      by_cases d : j = i
      · subst d; rw [pk_us]; rfl
      · rw [pk_un d]
    rw [e] at k2
    exact (k1.cons _).trans ((List.Perm.swap _ _ _).trans (k2.symm.cons _))
theorem pr_xlInj {h fa b p : Nat → Int32} {n i j : Nat} (g : pr_good (pr_xl h fa b p n)) (hi : i < n) (hj : j < n) (zi : ¬ h i = 0) (zj : ¬ h j = 0) (e : pr_key (fa i, b i, p i) = pr_key (fa j, b j, p j)) : i = j := by
  by_cases c : i = j
  · exact c
  · have k := pr_gcons.mp (pr_gperm (pr_xlRem hi zi) g)
    exact absurd e (k.1.2 _ (pr_xlMem.mpr ⟨j, hj, by rw [pk_un (Ne.symm c)]; exact zj, rfl⟩))
theorem pr_xlLen {h fa b p : Nat → Int32} (n : Nat) : (pr_xl h fa b p n).length ≤ n := by
  induction n with
  | zero => exact Nat.le_refl _
  | succ n ih =>
    by_cases z : h n = 0
    · rw [pr_xl0 z]; omega
    · rw [pr_xl1 z, List.length_cons]; omega
theorem pr_xlFull {h fa b p : Nat → Int32} {n : Nat} (H : ∀ i, i < n → ¬ h i = 0) : (pr_xl h fa b p n).length = n := by
  induction n with
  | zero => rfl
  | succ n ih => rw [pr_xl1 (H n (by omega)), List.length_cons, ih (fun i hi => H i (by omega))]
theorem pr_ylLen {s l q : Nat → Int32} (n : Nat) : (pr_xl pr_on s l q n).length = n := pr_xlFull (fun i _ => pr_onN i)
theorem pr_xlRoom {h fa b p : Nat → Int32} {n i : Nat} (hi : i < n) (z : h i = 0) : (pr_xl h fa b p n).length < n := by
  have k := (pr_xlRem (h := upd h i 1) (fa := fa) (b := b) (p := p) hi (by rw [pk_us]; decide)).length_eq
  have m := pr_xlLen (h := upd h i 1) (fa := fa) (b := b) (p := p) n
  rw [List.length_cons] at k
  have e : upd (upd h i 1) i 0 = h := by
    funext j
    by_cases d : j = i
    · subst d; rw [pk_us, z]
    · rw [pk_un d, pk_un d]
  rw [e] at k
  omega
/-- r is the index of o -/
def pr_ix (h fa b p : Nat → Int32) (n : Nat) (r : Int32) : Option pr_E → Prop
  | none => r = -1
  | some e => ∃ i, i < n ∧ ¬ h i = 0 ∧ r = nI i ∧ e = (fa i, b i, p i)
theorem pr_m1 {i : Nat} (h : i < 2 ^ 31) : ¬ (-1 : Int32) = nI i := by
  intro e
  have k := congrArg Int32.toInt e
  rw [nI_toInt h] at k
  have : (-1 : Int32).toInt = -1 := by decide
  omega
theorem pr_ixIff {h fa b p : Nat → Int32} {n : Nat} (hn : n ≤ 32) (g : pr_good (pr_xl h fa b p n)) {r r' : Int32} {o o' : Option pr_E} (H : pr_ix h fa b p n r o) (H' : pr_ix h fa b p n r' o') : r = r' ↔ o = o' := by
  cases o with
  | none =>
    have e : r = -1 := H
    subst e
    cases o' with
    | none =>
      have e : r' = -1 := H'
      subst e
      exact ⟨fun _ => rfl, fun _ => rfl⟩
    | some y =>
      obtain ⟨i, hi, _, rfl, _⟩ := H'
      exact ⟨fun c => absurd c (pr_m1 (by omega)), fun c => nomatch c⟩
  | some x =>
    obtain ⟨i, hi, zi, rfl, ei⟩ := H
    cases o' with
    | none =>
      have e : r' = -1 := H'
      subst e
      exact ⟨fun c => absurd c.symm (pr_m1 (by omega)), fun c => nomatch c⟩
    | some y =>
      obtain ⟨j, hj, zj, rfl, ej⟩ := H'
      rw [nI_eq (by omega) (by omega)]
      constructor
      · intro c; subst c; rw [ei, ej]
      · intro c
        injection c with c
        rw [ei, ej] at c
        exact pr_xlInj g hi hj zi zj (congrArg pr_key c)
theorem pr_ixUp {h fa b p : Nat → Int32} {n : Nat} {r : Int32} {o : Option pr_E} (H : pr_ix h fa b p n r o) : pr_ix h fa b p (n + 1) r o := by
  cases o with
  | none => exact H
  | some x =>
    obtain ⟨i, hi, q⟩ := H
    exact ⟨i, by omega, q⟩
