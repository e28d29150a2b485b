section
theorem pk_us {f : Nat → Int32} {k : Nat} {x : Int32} : upd f k x k = x := if_pos rfl
theorem pk_un {f : Nat → Int32} {k j : Nat} {x : Int32} (h : j ≠ k) : upd f k x j = f j := if_neg h
theorem pk_sub {a b : Nat} (h : b ≤ a) : nI a - nI b = nI (a - b) := by
  obtain ⟨c, rfl⟩ : ∃ c, a = c + b := ⟨a - b, by omega⟩
  rw [← nI_add, Int32.add_sub_cancel, Nat.add_sub_cancel]
theorem pk_m1 (n : Nat) : nI (n + 1) + (-1) = nI n := by
  rw [← nI_1, Int32.add_assoc, show (1 : Int32) + (-1) = 0 from rfl, Int32.add_zero]
theorem pk_mul (a b : Nat) : nI a * nI b = nI (a * b) := (Int32.ofNat_mul a b).symm
theorem pk_div {a d : Nat} (ha : a < 2 ^ 31) (h0 : 0 < d) (hd : d < 2 ^ 31) : nI a / nI d = nI (a / d) := by
  apply Int32.toInt_inj.mp
  rw [lg_idiv_nonneg (by rw [nI_toInt ha]; omega) (by rw [nI_toInt hd]; omega), nI_toInt ha, nI_toInt hd, nI_toInt (Nat.lt_of_le_of_lt (Nat.div_le_self a d) ha)]
  first | rfl | exact (Int.natCast_ediv _ _).symm
theorem pk_le {x y : Int32} {A B : Prop} (a b : Nat) (f : a ≤ b → A) (g : b < a → B) (hx : x = nI a := by rfl) (hy : y = nI b := by rfl) (ha : a < 2 ^ 31 := by omega) (hb : b < 2 ^ 31 := by omega) : (x ≤ y → A) ∧ (¬ x ≤ y → B) := by
  subst hx hy
  rw [nI_leI ha hb]
  exact ⟨f, fun z => g (by omega)⟩
theorem pk_lt {x y : Int32} {A B : Prop} (a b : Nat) (f : a < b → A) (g : b ≤ a → B) (hx : x = nI a := by rfl) (hy : y = nI b := by rfl) (ha : a < 2 ^ 31 := by omega) (hb : b < 2 ^ 31 := by omega) : (x < y → A) ∧ (¬ x < y → B) := by
  subst hx hy
  rw [nI_ltI ha hb]
  exact ⟨f, fun z => g (by omega)⟩
theorem pk_eq {x y : Int32} {A B : Prop} (a b : Nat) (f : a = b → A) (g : a ≠ b → B) (hx : x = nI a := by rfl) (hy : y = nI b := by rfl) (ha : a < 2 ^ 31 := by omega) (hb : b < 2 ^ 31 := by omega) : (x = y → A) ∧ (¬ x = y → B) := by
  subst hx hy
  rw [nI_eq ha hb]
  exact ⟨f, g⟩
theorem pk_in {x : Int32} (n N : Nat) (h : n < N) (hx : x = nI n := by rfl) (hN : N < 2 ^ 31 := by omega) : vp_in x N := by
  subst hx
  exact vp_in_nI h hN
theorem pk_cl {x : Int32} (n : Nat) (hx : x = nI n := by rfl) (h : n < 2 ^ 31 := by omega) : x.toNatClampNeg = n := by
  subst hx
  exact nI_clamp h
theorem pk_tn {n : Nat} (h : n < 2 ^ 32) : (nI n).toBitVec.toNat = n := Nat.mod_eq_of_lt h
theorem pk_and (x : Int32) {m : Int32} (k : Nat) (hm : m.toBitVec.toNat = 2 ^ k - 1) : x &&& m = nI (x.toBitVec.toNat % 2 ^ k) := by
  apply Int32.toBitVec_inj.mp
  apply BitVec.eq_of_toNat_eq
  rw [Int32.toBitVec_and, BitVec.toNat_and, hm, Nat.and_two_pow_sub_one_eq_mod]
  show _ = (BitVec.ofNat 32 _).toNat
  rw [BitVec.toNat_ofNat]
  exact (Nat.mod_eq_of_lt (Nat.lt_of_le_of_lt (Nat.mod_le _ _) x.toBitVec.isLt)).symm
theorem pk_andE (x : Int32) {m : Int32} (k : Nat) (hm : m.toBitVec.toNat = 2 ^ k - 1) : ∃ j : Nat, j < 2 ^ k ∧ x &&& m = nI j := ⟨_, Nat.mod_lt _ (Nat.two_pow_pos k), pk_and x k hm⟩
theorem pk_shl (a s : Int32) (k : Nat) (hs : (s.toBitVec.smod 32).toNat = k) : (a <<< s).toBitVec.toNat = a.toBitVec.toNat * 2 ^ k % 2 ^ 32 := by
  show (a.toBitVec <<< (s.toBitVec.smod 32).toNat).toNat = _
  rw [hs, BitVec.toNat_shiftLeft, Nat.shiftLeft_eq]
theorem pk_shlN {n : Nat} (s : Int32) (k : Nat) (hs : (s.toBitVec.smod 32).toNat = k) (h : n * 2 ^ k < 2 ^ 32) : nI n <<< s = nI (n * 2 ^ k) := by
  apply Int32.toBitVec_inj.mp
  apply BitVec.eq_of_toNat_eq
  have hn : n < 2 ^ 32 := Nat.lt_of_le_of_lt (Nat.le_mul_of_pos_right n (Nat.two_pow_pos k)) h
  rw [pk_shl _ _ k hs, pk_tn hn, pk_tn h, Nat.mod_eq_of_lt h]
theorem pk_shr (a s : Int32) (k : Nat) (hs : (s.toBitVec.smod 32).toNat = k) : (a >>> s).toInt = a.toInt >>> k := by
  show (a.toBitVec.sshiftRight (s.toBitVec.smod 32).toNat).toInt = _
  rw [hs, BitVec.toInt_sshiftRight]
  rfl
theorem pk_shrN {n : Nat} (h : n < 2 ^ 31) (s : Int32) (k : Nat) (hs : (s.toBitVec.smod 32).toNat = k) : nI n >>> s = nI (n / 2 ^ k) := by
  apply Int32.toInt_inj.mp
  have h2 : n / 2 ^ k ≤ n := Nat.div_le_self _ _
  rw [pk_shr _ _ k hs, nI_toInt h, nI_toInt (by omega), Int.shiftRight_eq_div_pow]
  rfl
theorem pk_loop {σ : Type} (W : Nat → Nat → σ → Prop) (I : Nat → σ → Prop) (e i0 : Nat) (s : σ) (hi : i0 ≤ e) (h0 : I i0 s) (hx : ∀ n s, I e s → W (n + 1) e s)
    (hs : ∀ n i s, i < e → I i s → (∀ s', I (i + 1) s' → W n (i + 1) s') → W (n + 1) i s) : ∃ n, W n i0 s :=
  ⟨e + 1, loop_i W I e hx hs (e + 1) i0 s hi (by omega) h0⟩
theorem pk_loopD {σ : Type} (W : Nat → Nat → σ → Prop) (I : Nat → σ → Prop) (hx : ∀ n s, I 0 s → W (n + 1) 0 s)
    (hs : ∀ n i s, I (i + 1) s → (∀ s', I i s' → W n i s') → W (n + 1) (i + 1) s) : ∀ (e : Nat) (s : σ), I e s → W (e + 1) e s := by
  intro e
  induction e with
  | zero => exact fun s h => hx 0 s h
  | succ e ih => exact fun s h => hs (e + 1) e s h (fun s' h' => ih s' h')
theorem s_l : ∀ n, n < 32 → ((nI n &&& 31).toBitVec.smod 32).toNat = n := by decide +kernel
theorem nx_and (a b : Nat) : nI a &&& nI b = nI (a &&& b) := by
  apply Int32.toBitVec_inj.1
  show BitVec.ofNat 32 a &&& BitVec.ofNat 32 b = BitVec.ofNat 32 (a &&& b)
  apply BitVec.eq_of_getLsbD_eq
  intro i hi
  simp [hi]
theorem nx_xor (a b : Nat) : nI a ^^^ nI b = nI (a ^^^ b) := by
  apply Int32.toBitVec_inj.1
  show BitVec.ofNat 32 a ^^^ BitVec.ofNat 32 b = BitVec.ofNat 32 (a ^^^ b)
  apply BitVec.eq_of_getLsbD_eq
  intro i hi
  simp [hi]
theorem nx_mod (k : Nat) : nI k &&& 65535 = nI (k % 65536) := by
  show nI k &&& nI 65535 = _
  rw [nx_and, show (65535 : Nat) = 2 ^ 16 - 1 from rfl, Nat.and_two_pow_sub_one_eq_mod]
theorem nx_m16 {k : Nat} (h : k < 65536) : nI k &&& 65535 = nI k := by rw [nx_mod, Nat.mod_eq_of_lt h]
theorem nx_mask (x : Int32) : ∃ k, k < 65536 ∧ x &&& 65535 = nI k := by
  have e : x = nI x.toBitVec.toNat := by
    apply Int32.toBitVec_inj.1
    show x.toBitVec = BitVec.ofNat 32 x.toBitVec.toNat
    simp
  refine ⟨x.toBitVec.toNat % 65536, Nat.mod_lt _ (by omega), ?_⟩
  rw [← nx_mod, ← e]
theorem wb_of32 (x : Int32) : ∃ n, n < 2 ^ 32 ∧ x = nI n := ⟨x.toBitVec.toNat, x.toBitVec.isLt, Int32.toBitVec_inj.mp (by show _ = BitVec.ofNat 32 _; simp)⟩
end
section
/-- an entry: first address, bits, peer -/
abbrev pr_E : Type := Int32 × Int32 × Int32
def pr_s (e : pr_E) : Nat := e.1.toNatClampNeg
def pr_l (e : pr_E) : Nat := e.2.1.toNatClampNeg
def pr_z (e : pr_E) : Nat := 2 ^ (16 - pr_l e)
def pr_ok (e : pr_E) : Prop := e.1 = nI (pr_s e) ∧ e.2.1 = nI (pr_l e) ∧ pr_l e ≤ 16 ∧ pr_s e + pr_z e ≤ 65536 ∧ pr_s e % pr_z e = 0
def pr_key (e : pr_E) : Int32 × Int32 := (e.1, e.2.1)
abbrev pr_cv (e : pr_E) (a : Nat) : Prop := pr_s e ≤ a ∧ a < pr_s e + pr_z e
def pr_good (L : List pr_E) : Prop := (∀ e, e ∈ L → pr_ok e) ∧ L.Pairwise (fun e f => pr_key e ≠ pr_key f)
theorem pr_pw {t : Nat} (h : t ≤ 16) : 0 < 2 ^ t ∧ 2 ^ t ≤ 65536 :=
  ⟨Nat.two_pow_pos t, Nat.pow_le_pow_right (n := 2) (by decide) h⟩
theorem pr_zb (e : pr_E) : 0 < pr_z e ∧ pr_z e ≤ 65536 := pr_pw (by omega)
theorem pr_cvI {s z a : Nat} (hz : 0 < z) (h : s % z = 0) : (s ≤ a ∧ a < s + z) ↔ a / z * z = s := by
  have hs : s / z * z = s := Nat.div_mul_cancel (Nat.dvd_of_mod_eq_zero h)
  constructor
  · intro ⟨h1, h2⟩
    have : a / z = s / z := Nat.div_eq_of_lt_le (by omega) (by rw [Nat.succ_mul]; omega)
    rw [this, hs]
  · intro e
    have h1 := Nat.div_add_mod a z
    have h2 := Nat.mod_lt a hz
    rw [Nat.mul_comm] at h1
    omega
theorem pr_same {e f : pr_E} {a : Nat} (he : pr_ok e) (hf : pr_ok f) (ce : pr_cv e a) (cf : pr_cv f a) (hl : pr_l e = pr_l f) : pr_key e = pr_key f := by
  have hz : pr_z e = pr_z f := by unfold pr_z; rw [hl]
  have h1 := (pr_cvI (pr_zb e).1 he.2.2.2.2).mp ce
  have h2 := (pr_cvI (pr_zb f).1 hf.2.2.2.2).mp cf
  have hs : pr_s e = pr_s f := by rw [← h1, ← h2, hz]
  unfold pr_key
  rw [he.1, hf.1, he.2.1, hf.2.1, hs, hl]
theorem pr_uni {L : List pr_E} (g : L.Pairwise (fun e f => pr_key e ≠ pr_key f)) {e f : pr_E} (he : e ∈ L) (hf : f ∈ L) (h : pr_key e = pr_key f) : e = f := by
  induction L with
  | nil => cases he
  | cons x L ih =>
    rw [List.pairwise_cons] at g
    rcases List.mem_cons.mp he with rfl | he'
    · rcases List.mem_cons.mp hf with rfl | hf'
      · rfl
      · exact absurd h (g.1 _ hf')
    · rcases List.mem_cons.mp hf with rfl | hf'
      · exact absurd h.symm (g.1 _ he')
      · exact ih g.2 he' hf'
theorem pr_gperm {L M : List pr_E} (p : L.Perm M) (g : pr_good L) : pr_good M :=
  ⟨fun e he => g.1 e (p.mem_iff.mpr he), (p.pairwise_iff (fun h => Ne.symm h)).mp g.2⟩
theorem pr_gcons {e : pr_E} {L : List pr_E} : pr_good (e :: L) ↔ (pr_ok e ∧ (∀ f, f ∈ L → pr_key e ≠ pr_key f)) ∧ pr_good L := by
  unfold pr_good
  rw [List.pairwise_cons]
  constructor
  · intro ⟨h1, h2, h3⟩
    exact ⟨⟨h1 e (List.mem_cons_self ..), h2⟩, fun f hf => h1 f (List.mem_cons_of_mem _ hf), h3⟩
  · intro ⟨⟨h1, h2⟩, h3, h4⟩
    refine ⟨fun f hf => ?_, h2, h4⟩
    rcases List.mem_cons.mp hf with rfl | hf'
    · exact h1
    · exact h3 f hf'
theorem pr_gfil {L : List pr_E} (c : pr_E → Bool) (g : pr_good L) : pr_good (L.filter c) :=
  ⟨fun e he => g.1 e (List.mem_filter.mp he).1, g.2.filter c⟩
/-- the longest of the list that covers a and has fewer than m bits -/
def pr_lg : List pr_E → Nat → Nat → Option pr_E
  | [], _, _ => none
  | e :: L, a, m => if pr_cv e a ∧ pr_l e < m then (match pr_lg L a m with | none => some e | some f => if pr_l e ≤ pr_l f then some f else some e) else pr_lg L a m
def pr_sp (L : List pr_E) (a m : Nat) : Option pr_E → Prop
  | none => ∀ e, e ∈ L → ¬ (pr_cv e a ∧ pr_l e < m)
  | some e => e ∈ L ∧ (pr_cv e a ∧ pr_l e < m) ∧ ∀ f, f ∈ L → (pr_cv f a ∧ pr_l f < m) → pr_l f ≤ pr_l e
theorem pr_spSkip {L : List pr_E} {a m : Nat} {e : pr_E} {o : Option pr_E} (h : pr_sp L a m o) (hn : ¬ (pr_cv e a ∧ pr_l e < m)) : pr_sp (e :: L) a m o := by
  cases o with
  | none =>
    intro f hf
    rcases List.mem_cons.mp hf with rfl | hf'
    · exact hn
    · exact h f hf'
  | some x =>
    refine ⟨List.mem_cons_of_mem _ h.1, h.2.1, fun f hf hc => ?_⟩
    rcases List.mem_cons.mp hf with rfl | hf'
    · exact absurd hc hn
    · exact h.2.2 f hf' hc
theorem pr_spNew {L : List pr_E} {a m : Nat} {e : pr_E} (h : pr_sp L a m none) (hc : pr_cv e a ∧ pr_l e < m) : pr_sp (e :: L) a m (some e) := by
  refine ⟨List.mem_cons_self .., hc, fun f hf hd => ?_⟩
  rcases List.mem_cons.mp hf with rfl | hf'
  · exact Nat.le_refl _
  · exact absurd hd (h f hf')
theorem pr_spKeep {L : List pr_E} {a m : Nat} {e x : pr_E} (h : pr_sp L a m (some x)) (hl : pr_l e ≤ pr_l x) : pr_sp (e :: L) a m (some x) := by
  refine ⟨List.mem_cons_of_mem _ h.1, h.2.1, fun f hf hc => ?_⟩
  rcases List.mem_cons.mp hf with rfl | hf'
  · exact hl
  · exact h.2.2 f hf' hc
theorem pr_spRep {L : List pr_E} {a m : Nat} {e x : pr_E} (h : pr_sp L a m (some x)) (hc : pr_cv e a ∧ pr_l e < m) (hl : ¬ pr_l e ≤ pr_l x) : pr_sp (e :: L) a m (some e) := by
  refine ⟨List.mem_cons_self .., hc, fun f hf hd => ?_⟩
  rcases List.mem_cons.mp hf with rfl | hf'
  · exact Nat.le_refl _
  · have := h.2.2 f hf' hd
    omega
theorem pr_lgSp (L : List pr_E) (a m : Nat) : pr_sp L a m (pr_lg L a m) := by
  induction L with
  | nil => exact fun e he => nomatch he
  | cons e L ih =>
    unfold pr_lg
    by_cases hc : pr_cv e a ∧ pr_l e < m
    · rw [if_pos hc]
      cases ho : pr_lg L a m with
      | none => rw [ho] at ih; exact pr_spNew ih hc
      | some x =>
        rw [ho] at ih
        dsimp only
        by_cases hl : pr_l e ≤ pr_l x
        · rw [if_pos hl]; exact pr_spKeep ih hl
        · rw [if_neg hl]; exact pr_spRep ih hc hl
    · rw [if_neg hc]; exact pr_spSkip ih hc
theorem pr_spUn {L M : List pr_E} (hm : ∀ e, e ∈ L ↔ e ∈ M) (g : pr_good L) {a m : Nat} {o o' : Option pr_E} (h : pr_sp L a m o) (h' : pr_sp M a m o') : o = o' := by
  cases o with
  | none =>
    cases o' with
    | none => rfl
    | some x => exact absurd h'.2.1 (h x ((hm x).mpr h'.1))
  | some x =>
    cases o' with
    | none => exact absurd h.2.1 (h' x ((hm x).mp h.1))
    | some y =>
      have hy : y ∈ L := (hm y).mpr h'.1
      have h1 := h.2.2 y hy h'.2.1
      have h2 := h'.2.2 x ((hm x).mp h.1) h.2.1
      have hk := pr_same (g.1 x h.1) (g.1 y hy) h.2.1.1 h'.2.1.1 (by omega)
      rw [pr_uni g.2 h.1 hy hk]
theorem pr_lgUn {L : List pr_E} (g : pr_good L) {a m : Nat} {o : Option pr_E} (h : pr_sp L a m o) : o = pr_lg L a m :=
  pr_spUn (fun _ => Iff.rfl) g h (pr_lgSp L a m)
theorem pr_lgPerm {L M : List pr_E} (p : L.Perm M) (g : pr_good L) (a m : Nat) : pr_lg L a m = pr_lg M a m :=
  pr_spUn (fun _ => p.mem_iff) g (pr_lgSp L a m) (pr_lgSp M a m)
theorem pr_lgMem {L : List pr_E} {a m : Nat} {e : pr_E} (h : pr_lg L a m = some e) : e ∈ L := by
  have := pr_lgSp L a m
  rw [h] at this
  exact this.1
/-- a sum over the list -/
def pr_sm (f : pr_E → Int32) : List pr_E → Int32
  | [] => 0
  | e :: L => pr_sm f L + f e
theorem pr_smPerm (f : pr_E → Int32) {L M : List pr_E} (p : L.Perm M) : pr_sm f L = pr_sm f M := by
  induction p with
  | nil => rfl
  | cons x _ ih => show _ + _ = _ + _; rw [ih]
  | swap x y l =>
    show pr_sm f l + f x + f y = pr_sm f l + f y + f x
    rw [Int32.add_assoc, Int32.add_assoc, Int32.add_comm (f x)]
  | trans _ _ h1 h2 => exact h1.trans h2
theorem pr_smCon {f g : pr_E → Int32} {L : List pr_E} (h : ∀ e, e ∈ L → f e = g e) : pr_sm f L = pr_sm g L := by
  induction L with
  | nil => rfl
  | cons x L ih =>
    show _ + _ = _ + _
    rw [ih (fun e he => h e (List.mem_cons_of_mem _ he)), h x (List.mem_cons_self ..)]
theorem pr_smLen (L : List pr_E) : pr_sm (fun _ => 1) L = nI L.length := by
  induction L with
  | nil => rfl
  | cons x L ih =>
    show _ + 1 = _
    rw [ih, nI_1]
    rfl
theorem pr_smFil (p : Int32) (L : List pr_E) : pr_sm (fun e => if e.2.2 = p then 1 else 0) L = nI L.length - nI (L.filter (fun e => !decide (e.2.2 = p))).length := by
  induction L with
  | nil => exact (pk_sub (a := 0) (b := 0) (Nat.le_refl _)).symm
  | cons x L ih =>
    have hle := List.length_filter_le (fun e : pr_E => !decide (e.2.2 = p)) L
    rw [pk_sub hle] at ih
    by_cases hx : x.2.2 = p
    · rw [List.filter_cons_of_neg (by simp [hx])]
      show _ + (if x.2.2 = p then (1 : Int32) else 0) = _
      rw [if_pos hx, ih, nI_1, List.length_cons, pk_sub (by omega)]
      congr 1
      omega
    · rw [List.filter_cons_of_pos (by simp [hx])]
      show _ + (if x.2.2 = p then (1 : Int32) else 0) = _
      rw [if_neg hx, ih, Int32.add_zero, List.length_cons, List.length_cons, pk_sub (by omega)]
      congr 1
      omega
/-- what lies directly inside o -/
def pr_cd (L : List pr_E) (o : Option pr_E) : Int32 := pr_sm (fun f => if pr_lg L (pr_s f) (pr_l f) = o then nI (pr_z f) else 0) L
theorem pr_cdPerm {L M : List pr_E} (p : L.Perm M) (g : pr_good L) (o : Option pr_E) : pr_cd L o = pr_cd M o := by
  unfold pr_cd
  rw [pr_smPerm _ p]
  exact pr_smCon (fun e _ => by rw [pr_lgPerm p g])
def pr_ow (L : List pr_E) (a : Nat) : Int32 := match pr_lg L a 17 with | none => -1 | some e => e.2.2
def pr_ln (L : List pr_E) (a : Nat) : Int32 := match pr_lg L a 17 with | none => -1 | some e => e.2.1
theorem pr_owPerm {L M : List pr_E} (p : L.Perm M) (g : pr_good L) (a : Nat) : pr_ow L a = pr_ow M a := by
  unfold pr_ow
  rw [pr_lgPerm p g]
theorem pr_lnPerm {L M : List pr_E} (p : L.Perm M) (g : pr_good L) (a : Nat) : pr_ln L a = pr_ln M a := by
  unfold pr_ln
  rw [pr_lgPerm p g]
def pr_of (L : List pr_E) (p : Int32) (e : pr_E) : Int32 := if e.2.2 = p then nI (pr_z e) - pr_cd L (some e) else 0
theorem pr_ofPerm {L M : List pr_E} (p : L.Perm M) (g : pr_good L) (v : Int32) : pr_sm (pr_of L v) L = pr_sm (pr_of M v) M := by
  rw [pr_smPerm _ p]
  exact pr_smCon (fun e _ => by unfold pr_of; rw [pr_cdPerm p g])
def pr_uf (L : List pr_E) (e : pr_E) : Int32 := if pr_cd L (some e) = nI (pr_z e) ∨ (pr_lg L (pr_s e) (pr_l e)).map (fun o => o.2.2) = some e.2.2 then 1 else 0
theorem pr_ufPerm {L M : List pr_E} (p : L.Perm M) (g : pr_good L) : pr_sm (pr_uf L) L = pr_sm (pr_uf M) M := by
  rw [pr_smPerm _ p]
  exact pr_smCon (fun e _ => by unfold pr_uf; rw [pr_cdPerm p g, pr_lgPerm p g])
/-- the entries that stand in the slots below n -/
def pr_xl (h fa b p : Nat → Int32) : Nat → List pr_E
  | 0 => []
  | n + 1 => if h n = 0 then pr_xl h fa b p n else (fa n, b n, p n) :: pr_xl h fa b p n
def pr_on : Nat → Int32 := fun _ => 1
theorem pr_onN (i : Nat) : pr_on i ≠ 0 := by unfold pr_on; decide
theorem pr_xl0 {h fa b p : Nat → Int32} {n : Nat} (z : h n = 0) : pr_xl h fa b p (n + 1) = pr_xl h fa b p n := by
  rw [pr_xl, if_pos z]
theorem pr_xl1 {h fa b p : Nat → Int32} {n : Nat} (z : ¬ h n = 0) : pr_xl h fa b p (n + 1) = (fa n, b n, p n) :: pr_xl h fa b p n := by
  rw [pr_xl, if_neg z]
theorem pr_yl1 {s l q : Nat → Int32} {n : Nat} : pr_xl pr_on s l q (n + 1) = (s n, l n, q n) :: pr_xl pr_on s l q n := pr_xl1 (pr_onN n)
theorem pr_xlMem {h fa b p : Nat → Int32} {n : Nat} {e : pr_E} : e ∈ pr_xl h fa b p n ↔ ∃ i, i < n ∧ ¬ h i = 0 ∧ e = (fa i, b i, p i) := by
  induction n with
  | zero => exact ⟨(fun h => nomatch h), fun ⟨i, h, _⟩ => absurd h (Nat.not_lt_zero i)⟩
  | succ n ih =>
    by_cases z : h n = 0
    · rw [pr_xl0 z, ih]
      constructor
      · intro ⟨i, h1, h2⟩
        exact ⟨i, by omega, h2⟩
      · intro ⟨i, h1, h2, h3⟩
        refine ⟨i, ?_, h2, h3⟩
        have : i ≠ n := fun c => h2 (c ▸ z)
        omega
    · rw [pr_xl1 z, List.mem_cons, ih]
      constructor
      · rintro (rfl | ⟨i, h1, h2⟩)
        · exact ⟨n, by omega, z, rfl⟩
        · exact ⟨i, by omega, h2⟩
      · intro ⟨i, h1, h2, h3⟩
        by_cases c : i = n
        · subst c; exact .inl h3
        · exact .inr ⟨i, by omega, h2, h3⟩
theorem pr_xlCon {h fa b p h' fa' b' p' : Nat → Int32} {n : Nat} (H : ∀ j, j < n → (h j = 0 ↔ h' j = 0) ∧ (¬ h j = 0 → fa j = fa' j ∧ b j = b' j ∧ p j = p' j)) : pr_xl h fa b p n = pr_xl h' fa' b' p' n := by
  induction n with
  | zero => rfl
  | succ n ih =>
    have i := ih (fun j hj => H j (by omega))
    have k := H n (by omega)
    by_cases z : h n = 0
    · rw [pr_xl0 z, pr_xl0 (k.1.mp z), i]
    · rw [pr_xl1 z, pr_xl1 (fun c => z (k.1.mpr c)), i, (k.2 z).1, (k.2 z).2.1, (k.2 z).2.2]
theorem pr_xlRem {h fa b p : Nat → Int32} {n i : Nat} (hi : i < n) (z : ¬ h i = 0) : (pr_xl h fa b p n).Perm ((fa i, b i, p i) :: pr_xl (upd h i 0) fa b p n) := by
  induction n with
  | zero => exact absurd hi (Nat.not_lt_zero i)
  | succ n ih =>
    by_cases c : i = n
    · subst c
      rw [pr_xl1 z, pr_xl0 (h := upd h i 0) pk_us]
      rw [pr_xlCon (h := h) (h' := upd h i 0) (fa' := fa) (b' := b) (p' := p) (fun j hj => ⟨by rw [pk_un (by omega)], fun _ => ⟨rfl, rfl, rfl⟩⟩)]
    · have k := ih (by omega)
      by_cases w : h n = 0
      · rw [pr_xl0 w, pr_xl0 (h := upd h i 0) (by rw [pk_un (by omega)]; exact w)]
        exact k
      · rw [pr_xl1 w, pr_xl1 (h := upd h i 0) (by rw [pk_un (by omega)]; exact w)]
        exact (k.cons _).trans (List.Perm.swap _ _ _)
/-- slot i is written: its entry stands beside the rest -/
theorem pr_xlSet {h fa b p : Nat → Int32} {n i : Nat} (hi : i < n) {x y w v : Int32} (hx : ¬ x = 0) : (pr_xl (upd h i x) (upd fa i y) (upd b i w) (upd p i v) n).Perm ((y, w, v) :: pr_xl (upd h i 0) fa b p n) := by
  have k := pr_xlRem (h := upd h i x) (fa := upd fa i y) (b := upd b i w) (p := upd p i v) hi (by rw [pk_us]; exact hx)
  rw [pk_us, pk_us, pk_us] at k
  refine k.trans (List.Perm.of_eq ?_)
  congr 1
  refine pr_xlCon (fun j hj => ?_)
  by_cases c : j = i
  · subst c
    rw [pk_us, pk_us]
    exact ⟨Iff.rfl, fun z => absurd rfl z⟩
  · rw [pk_un c, pk_un c, pk_un c, pk_un c, pk_un c, pk_un c]
    exact ⟨Iff.rfl, fun _ => ⟨rfl, rfl, rfl⟩⟩
theorem pr_ylRem {s l q : Nat → Int32} {n i : Nat} (hi : i < n + 1) : (pr_xl pr_on s l q (n + 1)).Perm ((s i, l i, q i) :: pr_xl pr_on (upd s i (s n)) (upd l i (l n)) (upd q i (q n)) n) := by
  rw [pr_yl1]
  by_cases c : i = n
  · subst c
    rw [pr_xlCon (h := pr_on) (h' := pr_on) (fa := s) (b := l) (p := q) (fa' := upd s i (s i)) (b' := upd l i (l i)) (p' := upd q i (q i)) (fun j hj => ⟨Iff.rfl, fun _ => ⟨(pk_un (by omega)).symm, (pk_un (by omega)).symm, (pk_un (by omega)).symm⟩⟩)]
  · have k1 := pr_xlRem (h := pr_on) (fa := s) (b := l) (p := q) (n := n) (i := i) (by omega) (pr_onN i)
    have k2 := pr_xlSet (h := pr_on) (fa := s) (b := l) (p := q) (n := n) (i := i) (x := 1) (y := s n) (w := l n) (v := q n) (by omega) (by decide)
    have e : upd pr_on i 1 = pr_on := by
      funext j
      by_cases d : j = i
      · subst d; rw [pk_us]; rfl
      · rw [pk_un d]
    rw [e] at k2
    exact (k1.cons _).trans ((List.Perm.swap _ _ _).trans (k2.symm.cons _))
theorem pr_xlInj {h fa b p : Nat → Int32} {n i j : Nat} (g : pr_good (pr_xl h fa b p n)) (hi : i < n) (hj : j < n) (zi : ¬ h i = 0) (zj : ¬ h j = 0) (e : pr_key (fa i, b i, p i) = pr_key (fa j, b j, p j)) : i = j := by
  by_cases c : i = j
  · exact c
  · have k := pr_gcons.mp (pr_gperm (pr_xlRem hi zi) g)
    exact absurd e (k.1.2 _ (pr_xlMem.mpr ⟨j, hj, by rw [pk_un (Ne.symm c)]; exact zj, rfl⟩))
theorem pr_xlLen {h fa b p : Nat → Int32} (n : Nat) : (pr_xl h fa b p n).length ≤ n := by
  induction n with
  | zero => exact Nat.le_refl _
  | succ n ih =>
    by_cases z : h n = 0
    · rw [pr_xl0 z]; omega
    · rw [pr_xl1 z, List.length_cons]; omega
theorem pr_xlFull {h fa b p : Nat → Int32} {n : Nat} (H : ∀ i, i < n → ¬ h i = 0) : (pr_xl h fa b p n).length = n := by
  induction n with
  | zero => rfl
  | succ n ih => rw [pr_xl1 (H n (by omega)), List.length_cons, ih (fun i hi => H i (by omega))]
theorem pr_ylLen {s l q : Nat → Int32} (n : Nat) : (pr_xl pr_on s l q n).length = n := pr_xlFull (fun i _ => pr_onN i)
theorem pr_xlRoom {h fa b p : Nat → Int32} {n i : Nat} (hi : i < n) (z : h i = 0) : (pr_xl h fa b p n).length < n := by
  have k := (pr_xlRem (h := upd h i 1) (fa := fa) (b := b) (p := p) hi (by rw [pk_us]; decide)).length_eq
  have m := pr_xlLen (h := upd h i 1) (fa := fa) (b := b) (p := p) n
  rw [List.length_cons] at k
  have e : upd (upd h i 1) i 0 = h := by
    funext j
    by_cases d : j = i
    · subst d; rw [pk_us, z]
    · rw [pk_un d, pk_un d]
  rw [e] at k
  omega
/-- r is the index of o -/
def pr_ix (h fa b p : Nat → Int32) (n : Nat) (r : Int32) : Option pr_E → Prop
  | none => r = -1
  | some e => ∃ i, i < n ∧ ¬ h i = 0 ∧ r = nI i ∧ e = (fa i, b i, p i)
theorem pr_m1 {i : Nat} (h : i < 2 ^ 31) : ¬ (-1 : Int32) = nI i := by
  intro e
  have k := congrArg Int32.toInt e
  rw [nI_toInt h] at k
  have : (-1 : Int32).toInt = -1 := by decide
  omega
theorem pr_ixIff {h fa b p : Nat → Int32} {n : Nat} (hn : n ≤ 32) (g : pr_good (pr_xl h fa b p n)) {r r' : Int32} {o o' : Option pr_E} (H : pr_ix h fa b p n r o) (H' : pr_ix h fa b p n r' o') : r = r' ↔ o = o' := by
  cases o with
  | none =>
    have e : r = -1 := H
    subst e
    cases o' with
    | none =>
      have e : r' = -1 := H'
      subst e
      exact ⟨fun _ => rfl, fun _ => rfl⟩
    | some y =>
      obtain ⟨i, hi, _, rfl, _⟩ := H'
      exact ⟨fun c => absurd c (pr_m1 (by omega)), fun c => nomatch c⟩
  | some x =>
    obtain ⟨i, hi, zi, rfl, ei⟩ := H
    cases o' with
    | none =>
      have e : r' = -1 := H'
      subst e
      exact ⟨fun c => absurd c.symm (pr_m1 (by omega)), fun c => nomatch c⟩
    | some y =>
      obtain ⟨j, hj, zj, rfl, ej⟩ := H'
      rw [nI_eq (by omega) (by omega)]
      constructor
      · intro c; subst c; rw [ei, ej]
      · intro c
        injection c with c
        rw [ei, ej] at c
        exact pr_xlInj g hi hj zi zj (congrArg pr_key c)
theorem pr_ixUp {h fa b p : Nat → Int32} {n : Nat} {r : Int32} {o : Option pr_E} (H : pr_ix h fa b p n r o) : pr_ix h fa b p (n + 1) r o := by
  cases o with
  | none => exact H
  | some x =>
    obtain ⟨i, hi, q⟩ := H
    exact ⟨i, by omega, q⟩
end
section
/-- an address: the low sixteen bits -/
def pr_a (a : Int32) : Nat := a.toBitVec.toNat % 65536
theorem pr_aLt (a : Int32) : pr_a a < 65536 := Nat.mod_lt _ (by decide)
theorem pr_aAnd (a : Int32) : a &&& 65535 = nI (pr_a a) := pk_and a 16 (by decide)
theorem pr_aN {s : Nat} (h : s < 65536) : pr_a (nI s) = s := by
  unfold pr_a
  rw [pk_tn (by omega), Nat.mod_eq_of_lt h]
theorem pr_xor0 {x y : Nat} : x ^^^ y = 0 ↔ x = y := by
  constructor
  · intro h
    apply Nat.eq_of_testBit_eq
    intro i
    have k := congrArg (fun n => n.testBit i) h
    simp only [Nat.testBit_xor, Nat.zero_testBit] at k
    cases hx : x.testBit i <;> cases hy : y.testBit i <;> simp [hx, hy] at k <;> rfl
  · intro h; subst h; exact Nat.xor_self x
theorem pr_16 {l : Nat} (hl : l ≤ 16) : (16 : Int32) - nI l = nI (16 - l) := pk_sub (a := 16) hl
theorem pr_cvB (a : Int32) {s l : Nat} (hs : s < 65536) (hl : l ≤ 16) (hm : s % 2 ^ (16 - l) = 0) : (((a ^^^ nI s) &&& 65535) >>> ((16 - nI l) &&& 31)) = 0 ↔ (s ≤ pr_a a ∧ pr_a a < s + 2 ^ (16 - l)) := by
  have ht : 16 - l ≤ 16 := by omega
  rw [pr_16 hl]
  generalize 16 - l = t at hm ht
  have hz := (pr_pw ht).1
  obtain ⟨w, hw, rfl⟩ := wb_of32 a
  rw [pr_cvI hz hm, nx_xor, nx_mod, pk_shrN (Nat.lt_of_lt_of_le (Nat.mod_lt _ (by decide)) (by decide)) (nI t &&& 31) t (s_l t (by omega))]
  have ea : pr_a (nI w) = w % 65536 := by unfold pr_a; rw [pk_tn hw]
  have e1 : (w ^^^ s) % 65536 / 2 ^ t = (w % 65536 / 2 ^ t) ^^^ (s / 2 ^ t) := by
    have k := Nat.xor_mod_two_pow (a := w) (b := s) (n := 16)
    rw [show (2 : Nat) ^ 16 = 65536 from rfl, Nat.mod_eq_of_lt hs] at k
    rw [k, Nat.xor_div_two_pow]
  have hb : (w ^^^ s) % 65536 / 2 ^ t < 2 ^ 31 := Nat.lt_of_le_of_lt (Nat.div_le_self _ _) (Nat.lt_of_lt_of_le (Nat.mod_lt _ (by decide)) (by decide))
  rw [← nI_0, nI_eq hb (by decide), e1, pr_xor0, ea]
  have e2 : s / 2 ^ t * 2 ^ t = s := Nat.div_mul_cancel (Nat.dvd_of_mod_eq_zero hm)
  constructor
  · intro h; rw [h, e2]
  · intro h
    apply Nat.eq_of_mul_eq_mul_right hz
    rw [h, e2]
theorem pr_first (a : Int32) {l : Nat} (hl : l ≤ 16) : a &&& (((65535 : Int32) <<< ((16 - nI l) &&& 31)) &&& 65535) = nI (pr_a a / 2 ^ (16 - l) * 2 ^ (16 - l)) := by
  have ht : 16 - l ≤ 16 := by omega
  rw [pr_16 hl]
  generalize 16 - l = t at ht
  have hz := (pr_pw ht).2
  obtain ⟨w, hw, rfl⟩ := wb_of32 a
  have e1 : (65535 : Int32) <<< (nI t &&& 31) = nI (65535 * 2 ^ t) := pk_shlN (n := 65535) (nI t &&& 31) t (s_l t (by omega)) (Nat.lt_of_le_of_lt (Nat.mul_le_mul_left 65535 hz) (by decide))
  rw [e1, nx_mod, nx_and]
  have ea : pr_a (nI w) = w % 65536 := by unfold pr_a; rw [pk_tn hw]
  rw [ea]
  congr 1
  apply Nat.eq_of_testBit_eq
  intro i
  rw [show (65536 : Nat) = 2 ^ 16 from rfl, show (65535 : Nat) = 2 ^ 16 - 1 from rfl]
  rw [Nat.testBit_and, Nat.testBit_mod_two_pow, Nat.testBit_mul_two_pow, Nat.testBit_mul_two_pow, Nat.testBit_div_two_pow, Nat.testBit_mod_two_pow, Nat.testBit_two_pow_sub_one]
  by_cases h1 : t ≤ i
  · rw [show i - t + t = i from by omega]
    by_cases h2 : i < 16
    · have h3 : i - t < 16 := by omega
      simp [h1, h2, h3]
    · simp [h2]
  · simp [h1]
theorem pr_lt1 {m l : Nat} (hm : m ≤ 17) (hl : l ≤ 16) : nI m - 1 < nI l ↔ m ≤ l := by
  cases m with
  | zero =>
    have : nI 0 - 1 < nI l := by
      rw [Int32.lt_iff_toInt_lt, nI_toInt (by omega)]
      have : (nI 0 - 1).toInt = -1 := by decide
      omega
    exact ⟨fun _ => Nat.zero_le _, fun _ => this⟩
  | succ m =>
    rw [nI_pred, nI_ltI (by omega) (by omega)]
    exact Iff.rfl
section
variable {h fa b p : Nat → Int32}
theorem pr_st0 {f : pr_E → Int32} {i : Nat} {x : Int32} (z : h i = 0) (e : x = pr_sm f (pr_xl h fa b p i)) : x = pr_sm f (pr_xl h fa b p (i + 1)) := by
  rw [pr_xl0 z]; exact e
theorem pr_st1 {f : pr_E → Int32} {i : Nat} {x v : Int32} (z : ¬ h i = 0) (e : x = pr_sm f (pr_xl h fa b p i)) (hv : f (fa i, b i, p i) = v) : x + v = pr_sm f (pr_xl h fa b p (i + 1)) := by
  rw [pr_xl1 z, e, ← hv]; rfl
theorem pr_st2 {f : pr_E → Int32} {i : Nat} {x : Int32} (z : ¬ h i = 0) (e : x = pr_sm f (pr_xl h fa b p i)) (hv : f (fa i, b i, p i) = 0) : x = pr_sm f (pr_xl h fa b p (i + 1)) := by
  have k := pr_st1 z e hv
  rw [Int32.add_zero] at k
  exact k
theorem pr_at {n i : Nat} (hi : i < n) (z : ¬ h i = 0) : (fa i, b i, p i) ∈ pr_xl h fa b p n := pr_xlMem.mpr ⟨i, hi, z, rfl⟩
theorem pr_xcov {i : Nat} (hi : i < 32) (a : Int32) {post : Int32 → Prop} (H : ¬ h i = 0 → pr_ok (fa i, b i, p i)) (f : ¬ h i = 0 → pr_cv (fa i, b i, p i) (pr_a a) → post 1) (g : ¬ (¬ h i = 0 ∧ pr_cv (fa i, b i, p i) (pr_a a)) → post 0) : wpX_covers post (h, fa, b, p) (nI i) a := by
  have ci : (nI i).toNatClampNeg = i := nI_clamp (by omega)
  have hv : vp_in (nI i) 32 := vp_in_nI hi (by decide)
  unfold wpX_covers
  dsimp only
  rw [ci]
  refine ⟨hv, fun x ex => ⟨hv, br_c (fun z => g (fun c => c.1 z)) (fun z => ⟨hv, ?_⟩)⟩⟩
  have ok := H z
  have e1 : fa i = nI (pr_s (fa i, b i, p i)) := ok.1
  have e2 : b i = nI (pr_l (fa i, b i, p i)) := ok.2.1
  have hz := (pr_zb (fa i, b i, p i)).1
  have k := pr_cvB a (s := pr_s (fa i, b i, p i)) (l := pr_l (fa i, b i, p i)) (by have := ok.2.2.2.1; omega) ok.2.2.1 ok.2.2.2.2
  rw [← e1, ← e2, ← ex] at k
  exact ⟨fun c => f z (k.mp c), fun c => g (fun d => c (k.mpr d.2))⟩
theorem pr_xlong (g : pr_good (pr_xl h fa b p 32)) (a mI : Int32) (m : Nat) (hm : m ≤ 17) (em : mI = nI m - 1) {post : Int32 → Prop} (H : ∀ r, pr_ix h fa b p 32 r (pr_lg (pr_xl h fa b p 32) (pr_a a) m) → post r) : wpX_longestCover post (h, fa, b, p) a mI := by
  unfold wpX_longestCover
  dsimp only
  refine loop_0 (fun n i r => wX_longestCover_5 post a mI h fa b p n r (nI i)) (fun i r => ∃ o, pr_ix h fa b p i r o ∧ pr_sp (pr_xl h fa b p i) (pr_a a) m o) 32 (-1) ⟨none, rfl, fun e he => nomatch he⟩ ?_ ?_
  · intro n r ⟨o, h1, h2⟩
    rw [wX_longestCover_5]
    refine br_t (by decide) (H r ?_)
    rw [← pr_lgUn g h2]
    exact h1
  · intro n i r hi ⟨o, h1, h2⟩ K
    have hv : vp_in (nI i) 32 := vp_in_nI hi (by decide)
    rw [wX_longestCover_5]
    refine br_f (nI_ge (b := 32) hi (by decide)) ⟨hv, ?_⟩
    rw [nI_clamp (n := i) (by omega)]
    by_cases z : h i = 0
    · have K1 := K r ⟨o, pr_ixUp h1, by rw [pr_xl0 z]; exact h2⟩
      exact br_c (fun _ => nm_r (nI_1 i) K1) (fun _ => pr_xcov hi a (fun c => absurd z c) (fun c => absurd z c) (fun _ => br_t rfl (nm_r (nI_1 i) K1)))
    · have ok := g.1 _ (pr_at (fa := fa) (b := b) (p := p) hi z)
      have e2 : b i = nI (pr_l (fa i, b i, p i)) := ok.2.1
      have hl : pr_l (fa i, b i, p i) ≤ 16 := ok.2.2.1
      have skip : ¬ (pr_cv (fa i, b i, p i) (pr_a a) ∧ pr_l (fa i, b i, p i) < m) → wX_longestCover_5 post a mI h fa b p n r (nI (i + 1)) := fun c => K r ⟨o, pr_ixUp h1, by rw [pr_xl1 z]; exact pr_spSkip h2 c⟩
      have hc : mI < b i ↔ m ≤ pr_l (fa i, b i, p i) := by
        have k := pr_lt1 hm hl
        rw [← em, ← e2] at k
        exact k
      refine br_c (fun c => nm_r (nI_1 i) (skip (fun d => ?_))) (fun c => pr_xcov hi a (fun _ => ok) (fun _ cv => br_f (by decide) ?_) (fun d => br_t rfl (nm_r (nI_1 i) (skip (fun q => d ⟨z, q.1⟩)))))
      · have := hc.mp c
        omega
      · have cl : pr_l (fa i, b i, p i) < m := by
          have : ¬ m ≤ pr_l (fa i, b i, p i) := fun q => c (hc.mpr q)
          omega
        cases o with
        | none =>
          have e : r = -1 := h1
          exact br_t e (nm_r (nI_1 i) (K (nI i) ⟨some _, ⟨i, by omega, z, rfl, rfl⟩, by rw [pr_xl1 z]; exact pr_spNew h2 ⟨cv, cl⟩⟩))
        | some x =>
          have h1' := h1
          obtain ⟨j, hj, zj, rfl, ej⟩ := h1
          have okj := g.1 _ (pr_at (fa := fa) (b := b) (p := p) (n := 32) (i := j) (by omega) zj)
          have e3 : b j = nI (pr_l (fa j, b j, p j)) := okj.2.1
          have hlj : pr_l (fa j, b j, p j) ≤ 16 := okj.2.2.1
          refine br_f (fun c => pr_m1 (i := j) (by omega) c.symm) ⟨hv, vp_in_nI (by omega) (by decide), ?_⟩
          rw [nI_clamp (n := j) (by omega)]
          have hle : b i ≤ b j ↔ pr_l (fa i, b i, p i) ≤ pr_l x := by
            rw [ej]
            have k := nI_leI (a := pr_l (fa i, b i, p i)) (b := pr_l (fa j, b j, p j)) (by omega) (by omega)
            rw [← e2, ← e3] at k
            exact k
          refine br_c (fun q => nm_r (nI_1 i) (K (nI j) ⟨some x, pr_ixUp h1', ?_⟩)) (fun q => nm_r (nI_1 i) (K (nI i) ⟨some _, ⟨i, by omega, z, rfl, rfl⟩, ?_⟩))
          · rw [pr_xl1 z]; exact pr_spKeep h2 (hle.mp q)
          · rw [pr_xl1 z]; exact pr_spRep h2 ⟨cv, cl⟩ (fun w => q (hle.mpr w))
theorem pr_ixIn {n : Nat} (hn : n ≤ 32) {r : Int32} {e : pr_E} (H : pr_ix h fa b p n r (some e)) : ∃ i, i < n ∧ ¬ h i = 0 ∧ r = nI i ∧ e = (fa i, b i, p i) ∧ ¬ r = -1 ∧ ¬ r < 0 ∧ 0 ≤ r ∧ vp_in r 32 ∧ r.toNatClampNeg = i := by
  obtain ⟨i, hi, z, rfl, e⟩ := H
  exact ⟨i, hi, z, rfl, e, fun c => pr_m1 (i := i) (by omega) c.symm, nI_pos (by omega), nI_pos' (by omega), vp_in_nI (by omega) (by decide), nI_clamp (by omega)⟩
theorem pr_xow (g : pr_good (pr_xl h fa b p 32)) (a : Int32) {post : Int32 → Prop} (H : post (pr_ow (pr_xl h fa b p 32) (pr_a a))) : wpX_owner post (h, fa, b, p) a := by
  unfold wpX_owner
  dsimp only
  refine pr_xlong g a 16 17 (by omega) (by decide) (fun r hr => ?_)
  unfold pr_ow at H
  cases ho : pr_lg (pr_xl h fa b p 32) (pr_a a) 17 with
  | none =>
    rw [ho] at hr H
    exact br_t hr H
  | some e =>
    rw [ho] at hr H
    obtain ⟨i, hi, z, er, ee, hm, _, _, hv, hcl⟩ := pr_ixIn (by omega) hr
    refine br_f hm ⟨hv, ?_⟩
    rw [hcl]
    rw [ee] at H
    exact H
theorem pr_xln (g : pr_good (pr_xl h fa b p 32)) (a : Int32) {post : Int32 → Prop} (H : post (pr_ln (pr_xl h fa b p 32) (pr_a a))) : wpX_length post (h, fa, b, p) a := by
  unfold wpX_length
  dsimp only
  refine pr_xlong g a 16 17 (by omega) (by decide) (fun r hr => ?_)
  unfold pr_ln at H
  cases ho : pr_lg (pr_xl h fa b p 32) (pr_a a) 17 with
  | none =>
    rw [ho] at hr H
    exact br_t hr H
  | some e =>
    rw [ho] at hr H
    obtain ⟨i, hi, z, er, ee, hm, _, _, hv, hcl⟩ := pr_ixIn (by omega) hr
    refine br_f hm ⟨hv, ?_⟩
    rw [hcl]
    rw [ee] at H
    exact H
theorem pr_xenc (g : pr_good (pr_xl h fa b p 32)) {i : Nat} (hi : i < 32) (z : ¬ h i = 0) {post : Int32 → Prop} (H : ∀ r, pr_ix h fa b p 32 r (pr_lg (pr_xl h fa b p 32) (pr_s (fa i, b i, p i)) (pr_l (fa i, b i, p i))) → post r) : wpX_enclosingSlot post (h, fa, b, p) (nI i) := by
  have hv : vp_in (nI i) 32 := vp_in_nI hi (by decide)
  have ok := g.1 _ (pr_at (fa := fa) (b := b) (p := p) hi z)
  have e1 : fa i = nI (pr_s (fa i, b i, p i)) := ok.1
  have e2 : b i = nI (pr_l (fa i, b i, p i)) := ok.2.1
  have hz := (pr_zb (fa i, b i, p i)).1
  have hs : pr_s (fa i, b i, p i) < 65536 := by have := ok.2.2.2.1; omega
  have ea : pr_a (fa i) = pr_s (fa i, b i, p i) := by
    have k := pr_aN hs
    rw [← e1] at k
    exact k
  unfold wpX_enclosingSlot
  dsimp only
  rw [nI_clamp (n := i) (by omega)]
  refine ⟨hv, hv, pr_xlong g (fa i) (b i - 1) (pr_l (fa i, b i, p i)) (by have := ok.2.2.1; omega) (by rw [← e2]) (fun r hr => H r ?_)⟩
  rw [ea] at hr
  exact hr
theorem pr_xsize (g : pr_good (pr_xl h fa b p 32)) {i : Nat} (hi : i < 32) (z : ¬ h i = 0) {post : Int32 → Prop} (H : post (nI (pr_z (fa i, b i, p i)))) : wpX_sizeOf post (h, fa, b, p) (nI i) := by
  have hv : vp_in (nI i) 32 := vp_in_nI hi (by decide)
  have ok := g.1 _ (pr_at (fa := fa) (b := b) (p := p) hi z)
  have e2 : b i = nI (pr_l (fa i, b i, p i)) := ok.2.1
  have hl : pr_l (fa i, b i, p i) ≤ 16 := ok.2.2.1
  have hz := (pr_zb (fa i, b i, p i)).2
  unfold pr_z at hz H
  unfold wpX_sizeOf
  dsimp only
  rw [nI_clamp (n := i) (by omega)]
  refine ⟨hv, ?_⟩
  have k : (1 : Int32) <<< ((16 - b i) &&& 31) = nI (1 * 2 ^ (16 - pr_l (fa i, b i, p i))) := by
    have k1 := pr_16 hl
    rw [← e2] at k1
    rw [k1]
    exact pk_shlN (n := 1) _ _ (s_l _ (by omega)) (by omega)
  rw [k, Nat.one_mul]
  exact H
theorem pr_xcd (g : pr_good (pr_xl h fa b p 32)) {r0 : Int32} {o0 : Option pr_E} (h0 : pr_ix h fa b p 32 r0 o0) {post : Int32 → Prop} (H : post (pr_cd (pr_xl h fa b p 32) o0)) : wpX_coveredDirectlyInside post (h, fa, b, p) r0 := by
  unfold wpX_coveredDirectlyInside
  dsimp only
  unfold pr_cd at H
  generalize hf : (fun f => if pr_lg (pr_xl h fa b p 32) (pr_s f) (pr_l f) = o0 then nI (pr_z f) else 0) = f at H
  refine loop_0 (fun n i x => wX_coveredDirectlyInside_4 post r0 h fa b p n x (nI i)) (fun i x => x = pr_sm f (pr_xl h fa b p i)) 32 0 rfl ?_ ?_
  · intro n x ex
    rw [wX_coveredDirectlyInside_4]
    rw [← ex] at H
    exact br_t (by decide) H
  · intro n i x hi ex K
    have hv : vp_in (nI i) 32 := vp_in_nI hi (by decide)
    rw [wX_coveredDirectlyInside_4]
    refine br_f (nI_ge (b := 32) hi (by decide)) ⟨hv, ?_⟩
    rw [nI_clamp (n := i) (by omega)]
    refine br_c (fun z => nm_r (nI_1 i) (K x (pr_st0 z ex))) (fun z => pr_xenc g hi z (fun r hr => ?_))
    have k := pr_ixIff (by omega) g hr h0
    refine br_c (fun c => pr_xsize g hi z (nm_e (nm_r (nI_1 i) (K _ (pr_st1 z ex ?_))))) (fun c => nm_r (nI_1 i) (K x (pr_st2 z ex ?_)))
    · rw [← hf]; exact if_pos (k.mp c)
    · rw [← hf]; exact if_neg (fun d => c (k.mpr d))
end
end
section
section
variable {h fa b p : Nat → Int32}
theorem pr_xent {i : Nat} (hi : i < 32) (v : Int32) {post : Int32 → Prop} (f : ¬ h i = 0 → p i = v → post 1) (g : h i = 0 → post 0) (g' : ¬ h i = 0 → ¬ p i = v → post 0) : wpX_isEntryOf post (h, fa, b, p) (nI i) v := by
  have hv : vp_in (nI i) 32 := vp_in_nI hi (by decide)
  unfold wpX_isEntryOf
  dsimp only
  rw [nI_clamp (n := i) (by omega)]
  exact ⟨hv, br_c g (fun z => ⟨hv, br_c (f z) (g' z)⟩)⟩
theorem pr_xheld {post : Int32 → Prop} (H : post (nI (pr_xl h fa b p 32).length)) : wpX_heldEntries post (h, fa, b, p) := by
  unfold wpX_heldEntries
  dsimp only
  rw [← pr_smLen] at H
  refine loop_0 (fun n i x => wX_heldEntries_4 post h fa b p n x (nI i)) (fun i x => x = pr_sm (fun _ => 1) (pr_xl h fa b p i)) 32 0 rfl ?_ ?_
  · intro n x ex
    rw [wX_heldEntries_4]
    rw [← ex] at H
    exact br_t (by decide) H
  · intro n i x hi ex K
    have hv : vp_in (nI i) 32 := vp_in_nI hi (by decide)
    rw [wX_heldEntries_4]
    refine br_f (nI_ge (b := 32) hi (by decide)) ⟨hv, ?_⟩
    rw [nI_clamp (n := i) (by omega)]
    exact br_c (fun z => nm_r (nI_1 i) (K x (pr_st0 z ex))) (fun z => nm_e (nm_r (nI_1 i) (K _ (pr_st1 z ex rfl))))
theorem pr_xfree {post : Int32 → Prop} (f : (∀ i, i < 32 → ¬ h i = 0) → post (-1)) (g : ∀ i, i < 32 → h i = 0 → post (nI i)) : wpX_freeSlot post (h, fa, b, p) := by
  unfold wpX_freeSlot
  dsimp only
  refine loop_0 (fun n i (_ : Unit) => wX_freeSlot_2 post h fa b p n (nI i)) (fun i _ => ∀ j, j < i → ¬ h j = 0) 32 () (fun j hj => absurd hj (Nat.not_lt_zero j)) ?_ ?_
  · intro n x ex
    rw [wX_freeSlot_2]
    exact br_t (by decide) (f ex)
  · intro n i x hi ex K
    have hv : vp_in (nI i) 32 := vp_in_nI hi (by decide)
    rw [wX_freeSlot_2]
    refine br_f (nI_ge (b := 32) hi (by decide)) ⟨hv, ?_⟩
    rw [nI_clamp (n := i) (by omega)]
    exact br_c (fun z => g i hi z) (fun z => nm_r (nI_1 i) (K () (lt_s ex z)))
/-- the key that (address, bits) names -/
def pr_k (a : Int32) (l : Nat) : Int32 × Int32 := (nI (pr_a a / 2 ^ (16 - l) * 2 ^ (16 - l)), nI l)
theorem pr_kOk (a : Int32) {l : Nat} (hl : l ≤ 16) (v : Int32) : pr_ok ((pr_k a l).1, (pr_k a l).2, v) ∧ pr_key ((pr_k a l).1, (pr_k a l).2, v) = pr_k a l := by
  refine ⟨?_, rfl⟩
  have hA := pr_aLt a
  have hz := pr_pw (t := 16 - l) (by omega)
  have h1 : pr_a a / 2 ^ (16 - l) * 2 ^ (16 - l) ≤ pr_a a := Nat.div_mul_le_self _ _
  have es : pr_s ((pr_k a l).1, (pr_k a l).2, v) = pr_a a / 2 ^ (16 - l) * 2 ^ (16 - l) := nI_clamp (by omega)
  have el : pr_l ((pr_k a l).1, (pr_k a l).2, v) = l := nI_clamp (by omega)
  have ez : pr_z ((pr_k a l).1, (pr_k a l).2, v) = 2 ^ (16 - l) := by unfold pr_z; rw [el]
  unfold pr_ok
  rw [es, el, ez]
  refine ⟨rfl, rfl, hl, ?_, Nat.mul_mod_left _ _⟩
  have hd : 2 ^ (16 - l) * 2 ^ l = 65536 := by
    rw [← Nat.pow_add, show 16 - l + l = 16 from by omega]
  have hq : pr_a a / 2 ^ (16 - l) < 2 ^ l := by
    apply Nat.div_lt_of_lt_mul
    omega
  have k := Nat.mul_le_mul_right (2 ^ (16 - l)) (Nat.succ_le_of_lt hq)
  rw [Nat.succ_mul, Nat.mul_comm (2 ^ l), hd] at k
  exact k
theorem pr_kCv {e : pr_E} (ok : pr_ok e) (a : Int32) {l : Nat} (hl : l ≤ 16) (eb : e.2.1 = nI l) : pr_cv e (pr_a a) ↔ pr_key e = pr_k a l := by
  have e1 : pr_l e = l := by
    unfold pr_l
    rw [eb]
    exact nI_clamp (by omega)
  have k := pr_cvI (a := pr_a a) (pr_zb e).1 ok.2.2.2.2
  have hz : pr_z e = 2 ^ (16 - l) := by unfold pr_z; rw [e1]
  have h1 : pr_a a / 2 ^ (16 - l) * 2 ^ (16 - l) ≤ pr_a a := Nat.div_mul_le_self _ _
  have hA := pr_aLt a
  have hs := ok.2.2.2.1
  refine k.trans ?_
  unfold pr_key pr_k
  rw [eb, hz, ok.1]
  constructor
  · intro q; rw [q]
  · intro q
    have q1 := congrArg Prod.fst q
    exact ((nI_eq (by omega) (by omega)).mp q1).symm
theorem pr_xfind (g : pr_good (pr_xl h fa b p 32)) (a : Int32) {l : Nat} (hl : l ≤ 16) {post : Int32 → Prop} (H0 : (∀ e, e ∈ pr_xl h fa b p 32 → pr_key e ≠ pr_k a l) → post (-1)) (H1 : ∀ i, i < 32 → ¬ h i = 0 → pr_key (fa i, b i, p i) = pr_k a l → post (nI i)) : wpX_slotOfPrefix post (h, fa, b, p) a (nI l) := by
  unfold wpX_slotOfPrefix
  dsimp only
  refine loop_0 (fun n i (_ : Unit) => wX_slotOfPrefix_2 post a (nI l) h fa b p n (nI i)) (fun i _ => ∀ e, e ∈ pr_xl h fa b p i → pr_key e ≠ pr_k a l) 32 () (fun e he => nomatch he) ?_ ?_
  · intro n x ex
    rw [wX_slotOfPrefix_2]
    exact br_t (by decide) (H0 ex)
  · intro n i x hi ex K
    have hv : vp_in (nI i) 32 := vp_in_nI hi (by decide)
    rw [wX_slotOfPrefix_2]
    refine br_f (nI_ge (b := 32) hi (by decide)) ⟨hv, ?_⟩
    rw [nI_clamp (n := i) (by omega)]
    have next : (¬ h i = 0 → pr_key (fa i, b i, p i) ≠ pr_k a l) → wX_slotOfPrefix_2 post a (nI l) h fa b p n (nI (i + 1)) := by
      intro hn
      refine K () (fun e he => ?_)
      by_cases z : h i = 0
      · rw [pr_xl0 z] at he
        exact ex e he
      · rw [pr_xl1 z] at he
        rcases List.mem_cons.mp he with rfl | he'
        · exact hn z
        · exact ex e he'
    refine br_c (fun c => pr_xcov hi a (fun z => g.1 _ (pr_at hi z)) (fun z cv => br_f (by decide) (H1 i hi z ?_)) (fun d => br_t rfl (nm_r (nI_1 i) (next (fun z q => d ⟨z, ?_⟩))))) (fun c => nm_r (nI_1 i) (next (fun z q => c ?_)))
    · exact (pr_kCv (g.1 _ (pr_at hi z)) a hl c).mp cv
    · exact (pr_kCv (g.1 _ (pr_at hi z)) a hl c).mpr q
    · exact congrArg Prod.snd q
theorem pr_xentries {post : Int32 → Prop} (v : Int32) (H : post (pr_sm (fun e => if e.2.2 = v then 1 else 0) (pr_xl h fa b p 32))) : ∃ n, wX_entries_13 post v h fa b p n 0 0 := by
  refine loop_0 (fun n i x => wX_entries_13 post v h fa b p n x (nI i)) (fun i x => x = pr_sm (fun e => if e.2.2 = v then 1 else 0) (pr_xl h fa b p i)) 32 0 rfl ?_ ?_
  · intro n x ex
    rw [wX_entries_13]
    rw [← ex] at H
    exact br_t (by decide) H
  · intro n i x hi ex K
    rw [wX_entries_13]
    refine br_f (nI_ge (b := 32) hi (by decide)) (pr_xent hi v (fun z c => br_f (by decide) (nm_e (nm_r (nI_1 i) (K _ (pr_st1 z ex (if_pos c)))))) (fun z => br_t rfl (nm_r (nI_1 i) (K x (pr_st0 z ex)))) (fun z c => br_t rfl (nm_r (nI_1 i) (K x (pr_st2 z ex (if_neg c))))))
theorem pr_xowned (g : pr_good (pr_xl h fa b p 32)) {post : Int32 → Prop} (v : Int32) (H : post (pr_sm (pr_of (pr_xl h fa b p 32) v) (pr_xl h fa b p 32))) : ∃ n, wX_owned_28 post v h fa b p n 0 0 := by
  generalize hf : pr_of (pr_xl h fa b p 32) v = f at H
  refine loop_0 (fun n i x => wX_owned_28 post v h fa b p n x (nI i)) (fun i x => x = pr_sm f (pr_xl h fa b p i)) 32 0 rfl ?_ ?_
  · intro n x ex
    rw [wX_owned_28]
    rw [← ex] at H
    exact br_t (by decide) H
  · intro n i x hi ex K
    rw [wX_owned_28]
    refine br_f (nI_ge (b := 32) hi (by decide)) (pr_xent hi v (fun z c => br_f (by decide) (pr_xsize g hi z (pr_xcd g (o0 := some (fa i, b i, p i)) ⟨i, hi, z, rfl, rfl⟩ (nm_e (nm_r (nI_1 i) (K _ (pr_st1 z ex ?_))))))) (fun z => br_t rfl (nm_r (nI_1 i) (K x (pr_st0 z ex)))) (fun z c => br_t rfl (nm_r (nI_1 i) (K x (pr_st2 z ex ?_)))))
    · rw [← hf]; exact if_pos c
    · rw [← hf]; exact if_neg c
theorem pr_xisU (g : pr_good (pr_xl h fa b p 32)) {i : Nat} (hi : i < 32) (z : ¬ h i = 0) {post : Int32 → Prop} (H : post (pr_uf (pr_xl h fa b p 32) (fa i, b i, p i))) : wpX_isUseless post (h, fa, b, p) (nI i) := by
  have hv : vp_in (nI i) 32 := vp_in_nI hi (by decide)
  unfold wpX_isUseless
  dsimp only
  refine pr_xenc g hi z (fun r hr => ?_)
  have rest : ¬ (pr_lg (pr_xl h fa b p 32) (pr_s (fa i, b i, p i)) (pr_l (fa i, b i, p i))).map (fun o => o.2.2) = some (p i) → wX_isUseless_28 post (nI i) h fa b p := by
    intro hn
    unfold wX_isUseless_28
    refine pr_xcd g (o0 := some (fa i, b i, p i)) ⟨i, hi, z, rfl, rfl⟩ (pr_xsize g hi z (br_c (fun c => ?_) (fun c => ?_)))
    · have k : pr_uf (pr_xl h fa b p 32) (fa i, b i, p i) = 1 := if_pos (.inl c)
      rw [k] at H
      exact H
    · have k : pr_uf (pr_xl h fa b p 32) (fa i, b i, p i) = 0 := if_neg (fun d => d.elim c hn)
      rw [k] at H
      exact H
  cases ho : pr_lg (pr_xl h fa b p 32) (pr_s (fa i, b i, p i)) (pr_l (fa i, b i, p i)) with
  | none =>
    rw [ho] at hr rest
    exact br_t hr (rest (fun c => nomatch c))
  | some e =>
    rw [ho] at hr rest
    obtain ⟨j, hj, zj, er, ee, hm, _, _, hvj, hcl⟩ := pr_ixIn (by omega) hr
    refine br_f hm ⟨hvj, hv, ?_⟩
    rw [hcl, nI_clamp (n := i) (by omega)]
    have ep : e.2.2 = p j := by rw [ee]
    refine br_c (fun c => ?_) (fun c => rest (fun d => c ?_))
    · have k : pr_uf (pr_xl h fa b p 32) (fa i, b i, p i) = 1 := if_pos (.inr (by rw [ho, ← c, ← ep]; rfl))
      rw [k] at H
      exact H
    · rw [← ep]
      exact Option.some.inj d
theorem pr_xuseless (g : pr_good (pr_xl h fa b p 32)) {post : Int32 → Prop} (H : post (pr_sm (pr_uf (pr_xl h fa b p 32)) (pr_xl h fa b p 32))) : wpX_useless post (h, fa, b, p) := by
  unfold wpX_useless
  dsimp only
  generalize hf : pr_uf (pr_xl h fa b p 32) = f at H
  refine loop_0 (fun n i x => wX_useless_4 post h fa b p n x (nI i)) (fun i x => x = pr_sm f (pr_xl h fa b p i)) 32 0 rfl ?_ ?_
  · intro n x ex
    rw [wX_useless_4]
    rw [← ex] at H
    exact br_t (by decide) H
  · intro n i x hi ex K
    have hv : vp_in (nI i) 32 := vp_in_nI hi (by decide)
    rw [wX_useless_4]
    refine br_f (nI_ge (b := 32) hi (by decide)) ⟨hv, ?_⟩
    rw [nI_clamp (n := i) (by omega)]
    refine br_c (fun z => nm_r (nI_1 i) (K x (pr_st0 z ex))) (fun z => pr_xisU g hi z ?_)
    rw [hf]
    refine br_c (fun c => nm_r (nI_1 i) (K x (pr_st2 z ex c))) (fun c => nm_e (nm_r (nI_1 i) (K _ (pr_st1 z ex ?_))))
    rw [← hf] at c ⊢
    unfold pr_uf at c ⊢
    by_cases d : pr_cd (pr_xl h fa b p 32) (some (fa i, b i, p i)) = nI (pr_z (fa i, b i, p i)) ∨ (pr_lg (pr_xl h fa b p 32) (pr_s (fa i, b i, p i)) (pr_l (fa i, b i, p i))).map (fun o => o.2.2) = some (fa i, b i, p i).2.2
    · exact if_pos d
    · rw [if_neg d] at c
      exact absurd rfl c
theorem pr_nar1 : ¬ vp_nar .boolean 1 = 0 := by decide
theorem pr_nar0 : vp_nar .boolean 0 = 0 := by decide
theorem pr_xforget {post : Int32 → SX → Prop} (v : Int32) (H : ∀ h', pr_xl h' fa b p 32 = (pr_xl h fa b p 32).filter (fun e => !decide (e.2.2 = v)) → post (pr_sm (fun e => if e.2.2 = v then 1 else 0) (pr_xl h fa b p 32)) (h', fa, b, p)) : ∃ n, wX_forget_13 post v n 0 0 h fa b p := by
  refine loop_0 (fun n i (x : Int32 × (Nat → Int32)) => wX_forget_13 post v n x.1 (nI i) x.2 fa b p) (fun i x => x.1 = pr_sm (fun e => if e.2.2 = v then 1 else 0) (pr_xl h fa b p i) ∧ pr_xl x.2 fa b p i = (pr_xl h fa b p i).filter (fun e => !decide (e.2.2 = v)) ∧ ∀ j, i ≤ j → x.2 j = h j) 32 (0, h) ⟨rfl, rfl, fun _ _ => rfl⟩ ?_ ?_
  · intro n ⟨x, k⟩ ⟨ex, ek, _⟩
    rw [wX_forget_13]
    dsimp only at ex ek
    rw [ex]
    exact br_t (by decide) (H k ek)
  · intro n i ⟨x, k⟩ hi ⟨ex, ek, er⟩ K
    dsimp only at ex ek er
    have hv : vp_in (nI i) 32 := vp_in_nI hi (by decide)
    have ei : k i = h i := er i (Nat.le_refl i)
    rw [wX_forget_13]
    refine br_f (nI_ge (b := 32) hi (by decide)) (pr_xent hi v (fun z c => br_f (by decide) ⟨hv, ?_⟩) (fun z => br_t rfl (nm_r (nI_1 i) (K (x, k) ⟨?_, ?_, ?_⟩))) (fun z c => br_t rfl (nm_r (nI_1 i) (K (x, k) ⟨?_, ?_, ?_⟩))))
    · dsimp only
      rw [nI_clamp (n := i) (by omega)]
      refine nm_e (nm_e (nm_r (nI_1 i) (K (x + 1, upd k i (vp_nar .boolean 0)) ⟨?_, ?_, ?_⟩)))
      · dsimp only at z; rw [ei] at z
        exact pr_st1 z ex (if_pos c)
      · dsimp only at z; rw [ei] at z
        dsimp only
        rw [pr_nar0, pr_xl0 (h := upd k i 0) pk_us, pr_xl1 z, List.filter_cons_of_neg (by simp [c]), ← ek]
        exact pr_xlCon (fun j hj => ⟨by rw [pk_un (by omega)], fun _ => ⟨rfl, rfl, rfl⟩⟩)
      · intro j hj
        dsimp only
        rw [pk_un (by omega)]
        exact er j (by omega)
    · dsimp only at z; rw [ei] at z
      exact pr_st0 z ex
    · dsimp only
      rw [pr_xl0 z, pr_xl0 (ei ▸ z)]
      exact ek
    · exact fun j hj => er j (by omega)
    · dsimp only at z; rw [ei] at z
      exact pr_st2 z ex (if_neg c)
    · dsimp only
      rw [pr_xl1 z, pr_xl1 (ei ▸ z), List.filter_cons_of_pos (by simp [c]), ek]
    · exact fun j hj => er j (by omega)
end
end
section
/-- the lesser of found and a candidate that is owned -/
def pr_le (L : List pr_E) (v : Int32) (w c f : Nat) : Nat := if w ≤ c ∧ c < f ∧ pr_ow L c = v then c else f
def pr_mn (L : List pr_E) (v : Int32) (w : Nat) (C : Nat → Prop) (m : Nat) : Prop := m ≤ 65536 ∧ (m = 65536 ∨ (w ≤ m ∧ pr_ow L m = v ∧ C m)) ∧ ∀ c, C c → w ≤ c → pr_ow L c = v → c < 65536 → m ≤ c
theorem pr_mnStep {L : List pr_E} {v : Int32} {w m : Nat} {C C' : Nat → Prop} (c : Nat) (h : pr_mn L v w C m) (hC : ∀ d, C' d ↔ (C d ∨ d = c)) : pr_mn L v w C' (pr_le L v w c m) := by
  obtain ⟨h1, h2, h3⟩ := h
  unfold pr_le
  by_cases k : w ≤ c ∧ c < m ∧ pr_ow L c = v
  · rw [if_pos k]
    refine ⟨by omega, .inr ⟨k.1, k.2.2, (hC c).mpr (.inr rfl)⟩, fun d hd h4 h5 h6 => ?_⟩
    rcases (hC d).mp hd with q | q
    · have := h3 d q h4 h5 h6
      omega
    · omega
  · rw [if_neg k]
    refine ⟨h1, h2.imp id (fun q => ⟨q.1, q.2.1, (hC m).mpr (.inl q.2.2)⟩), fun d hd h4 h5 h6 => ?_⟩
    rcases (hC d).mp hd with q | q
    · exact h3 d q h4 h5 h6
    · subst q
      by_cases x : d < m
      · exact absurd ⟨h4, x, h5⟩ k
      · omega
theorem pr_mnUn {L : List pr_E} {v : Int32} {w w' m m' : Nat} {C C' : Nat → Prop} (hC : ∀ c, (w ≤ c ∧ pr_ow L c = v ∧ C c) ↔ (w' ≤ c ∧ pr_ow L c = v ∧ C' c)) (h : pr_mn L v w C m) (h' : pr_mn L v w' C' m') : m = m' := by
  obtain ⟨h1, h2, h3⟩ := h
  obtain ⟨k1, k2, k3⟩ := h'
  have a1 : m < 65536 → m' ≤ m := by
    intro x
    rcases h2 with q | q
    · omega
    · have r := (hC m).mp q
      exact k3 m r.2.2 r.1 r.2.1 x
  have a2 : m' < 65536 → m ≤ m' := by
    intro x
    rcases k2 with q | q
    · omega
    · have r := (hC m').mpr q
      exact h3 m' r.2.2 r.1 r.2.1 x
  omega
/-- the places where the owner may change -/
def pr_pl (L : List pr_E) (c : Nat) : Prop := ∃ e, e ∈ L ∧ (c = pr_s e ∨ c = pr_s e + pr_z e)
theorem pr_plCons (e : pr_E) (L : List pr_E) (c : Nat) : pr_pl (e :: L) c ↔ ((pr_pl L c ∨ c = pr_s e) ∨ c = pr_s e + pr_z e) := by
  unfold pr_pl
  constructor
  · intro ⟨f, hf, q⟩
    rcases List.mem_cons.mp hf with rfl | hf'
    · rcases q with q | q
      · exact .inl (.inr q)
      · exact .inr q
    · exact .inl (.inl ⟨f, hf', q⟩)
  · rintro ((⟨f, hf, q⟩ | q) | q)
    · exact ⟨f, List.mem_cons_of_mem _ hf, q⟩
    · exact ⟨e, List.mem_cons_self .., .inl q⟩
    · exact ⟨e, List.mem_cons_self .., .inr q⟩
def pr_bI (m : Nat) : Int32 := if m < 65536 then nI m else -1
section
variable {h fa b p : Nat → Int32}
theorem pr_xles (g : pr_good (pr_xl h fa b p 32)) (v : Int32) {w c f : Nat} (hw : w < 2 ^ 31) (hc : c < 2 ^ 31) (hf : f ≤ 65536) {post : Int32 → Prop} (H : post (nI (pr_le (pr_xl h fa b p 32) v w c f))) : wpX_lesserOwned post (h, fa, b, p) v (nI w) (nI c) (nI f) := by
  unfold wpX_lesserOwned
  dsimp only
  unfold pr_le at H
  refine pk_lt c w (fun q => ?_) (fun q => pk_lt c f (fun r => pr_xow g (nI c) ?_) (fun r => ?_))
  · rw [if_neg (by omega)] at H
    exact H
  · rw [pr_aN (by omega)]
    refine br_c (fun e => ?_) (fun e => ?_)
    · rw [if_pos ⟨q, r, e⟩] at H
      exact H
    · rw [if_neg (fun d => e d.2.2)] at H
      exact H
  · rw [if_neg (by omega)] at H
    exact H
theorem pr_xnext (g : pr_good (pr_xl h fa b p 32)) (v : Int32) {w : Nat} (hw : w < 2 ^ 31) {post : Int32 → Prop} (H : ∀ m, pr_mn (pr_xl h fa b p 32) v w (fun c => pr_pl (pr_xl h fa b p 32) c ∨ c = w) m → post (pr_bI m)) : wX_next_19 post v (nI w) h fa b p := by
  unfold wX_next_19
  refine pr_xles (f := 65536) g v hw hw (by omega) ?_
  have k0 : pr_mn (pr_xl h fa b p 32) v w (fun c => pr_pl [] c ∨ c = w) (pr_le (pr_xl h fa b p 32) v w w 65536) :=
    pr_mnStep w (C := fun c => pr_pl [] c) ⟨Nat.le_refl _, .inl rfl, fun c hc => by obtain ⟨e, he, _⟩ := hc; cases he⟩ (fun d => Iff.rfl)
  generalize pr_le (pr_xl h fa b p 32) v w w 65536 = m0 at k0
  refine loop_0 (fun n i x => wX_next_34 post v (nI w) h fa b p n x (nI i)) (fun i x => ∃ m, x = nI m ∧ pr_mn (pr_xl h fa b p 32) v w (fun c => pr_pl (pr_xl h fa b p i) c ∨ c = w) m) 32 (nI m0) ⟨m0, rfl, k0⟩ ?_ ?_
  · intro n x ⟨m, ex, hm⟩
    rw [wX_next_34, ex]
    refine br_t (by decide) (pk_le 65536 m (fun q => ?_) (fun q => ?_) (ha := by omega) (hb := by have := hm.1; omega))
    · have k := H m hm
      unfold pr_bI at k
      rw [if_neg (by omega)] at k
      exact k
    · have k := H m hm
      unfold pr_bI at k
      rw [if_pos q] at k
      exact k
  · intro n i x hi ⟨m, ex, hm⟩ K
    have hv : vp_in (nI i) 32 := vp_in_nI hi (by decide)
    rw [wX_next_34, ex]
    refine br_f (nI_ge (b := 32) hi (by decide)) ⟨hv, ?_⟩
    rw [nI_clamp (n := i) (by omega)]
    refine br_c (fun z => nm_r (nI_1 i) (K (nI m) ⟨m, rfl, by rw [pr_xl0 z]; exact hm⟩)) (fun z => ⟨hv, ?_⟩)
    have ok := g.1 _ (pr_at (fa := fa) (b := b) (p := p) hi z)
    have e1 : fa i = nI (pr_s (fa i, b i, p i)) := ok.1
    have hz := pr_zb (fa i, b i, p i)
    have hs := ok.2.2.2.1
    have m1 := pr_mnStep (pr_s (fa i, b i, p i)) hm (C' := fun c => (pr_pl (pr_xl h fa b p i) c ∨ c = w) ∨ c = pr_s (fa i, b i, p i)) (fun _ => Iff.rfl)
    have m2 := pr_mnStep (pr_s (fa i, b i, p i) + pr_z (fa i, b i, p i)) m1 (C' := fun c => pr_pl (pr_xl h fa b p (i + 1)) c ∨ c = w) (fun d => by
      rw [pr_xl1 z, pr_plCons]
      constructor
      · rintro (((q | q) | q) | q)
        · exact .inl (.inl (.inl q))
        · exact .inl (.inr q)
        · exact .inr q
        · exact .inl (.inl (.inr q))
      · rintro (((q | q) | q) | q)
        · exact .inl (.inl (.inl q))
        · exact .inr q
        · exact .inl (.inl (.inr q))
        · exact .inl (.inr q))
    refine nm_r e1 (pr_xsize g hi z (nm_r (nI_add _ _) (pr_xles g v hw (by omega) hm.1 (pr_xles g v hw (by omega) m1.1 (nm_r (nI_1 i) (K _ ⟨_, rfl, m2⟩))))))
end
end
section
theorem pr_ysize {l : Nat} (hl : l ≤ 16) {post : Int32 → Prop} (H : post (nI (2 ^ (16 - l)))) : wpY_sizeOf post (nI l) := by
  unfold wpY_sizeOf
  refine pk_loop (fun n i x => wY_sizeOf_4 post n x (nI i)) (fun i x => x = nI (2 ^ (i - l)) ∧ l ≤ i) 16 l 1 hl ⟨by rw [Nat.sub_self]; rfl, Nat.le_refl l⟩ ?_ ?_
  · intro n x ex
    rw [wY_sizeOf_4]
    rw [← ex.1] at H
    exact br_t (by decide) H
  · intro n i x hi ex K
    rw [wY_sizeOf_4]
    refine br_f (nI_ge (b := 16) hi (by decide)) (nm_e (nm_r (nI_1 i) (K _ ⟨?_, by have := ex.2; omega⟩)))
    have e : i + 1 - l = (i - l) + 1 := by have := ex.2; omega
    rw [ex.1, e, Nat.pow_succ, Nat.mul_comm, ← pk_mul]
    rfl
theorem pr_ystart (a : Int32) {l : Nat} (hl : l ≤ 16) {post : Int32 → Prop} (H : post (pr_k a l).1) : wpY_start post a (nI l) := by
  have hz := pr_pw (t := 16 - l) (by omega)
  have hA := pr_aLt a
  unfold wpY_start
  refine pr_ysize hl (br_f (nI_nle hz.1 (by omega)) ⟨nI_ne0 hz.1 (by omega), ?_⟩)
  rw [pr_aAnd, pk_div (by omega) hz.1 (by omega), pk_mul]
  exact H
section
variable {s l q : Nat → Int32} {n : Nat}
theorem pr_ycov (hn : n ≤ 32) (g : pr_good (pr_xl pr_on s l q n)) {i : Nat} (hi : i < n) {A : Nat} (hA : A < 65536) {post : Int32 → Prop} (f : pr_cv (s i, l i, q i) A → post 1) (k : ¬ pr_cv (s i, l i, q i) A → post 0) : wpY_covers post (nI n, s, l, q) (nI i) (nI A) := by
  have hv : vp_in (nI i) 32 := vp_in_nI (by omega) (by decide)
  have ok := g.1 _ (pr_at hi (pr_onN i))
  have e1 : s i = nI (pr_s (s i, l i, q i)) := ok.1
  have e2 : l i = nI (pr_l (s i, l i, q i)) := ok.2.1
  have hz := pr_zb (s i, l i, q i)
  have hs := ok.2.2.2.1
  unfold wpY_covers
  dsimp only
  rw [nI_clamp (n := i) (by omega)]
  refine ⟨hv, pk_lt A (pr_s (s i, l i, q i)) (fun c => k (fun d => ?_)) (fun c => ⟨hv, hv, ?_⟩) rfl e1⟩
  · have := d.1
    omega
  · have body : wpY_sizeOf (fun r_5 => ((s i + r_5 ≤ nI A → post 0) ∧ (¬ s i + r_5 ≤ nI A → post 1))) (nI (pr_l (s i, l i, q i))) := by
      refine pr_ysize ok.2.2.1 (pk_le (pr_s (s i, l i, q i) + pr_z (s i, l i, q i)) A (fun d => k (fun w => ?_)) (fun d => f ⟨c, d⟩) ?_ rfl)
      · have := w.2
        omega
      · rw [← nI_add, ← e1]
        rfl
    rw [← e2] at body
    exact body
theorem pr_ylong (hn : n ≤ 32) (g : pr_good (pr_xl pr_on s l q n)) {A : Nat} (hA : A < 65536) {m : Nat} (hm : m ≤ 17) {post : Int32 → Prop} (H : ∀ r, pr_ix pr_on s l q n r (pr_lg (pr_xl pr_on s l q n) A m) → post r) : wpY_longest post (nI n, s, l, q) (nI A) (nI m) := by
  unfold wpY_longest
  dsimp only
  refine loop_0 (fun k i r => wY_longest_5 post (nI A) (nI m) (nI n) s l q k r (nI i)) (fun i r => ∃ o, pr_ix pr_on s l q i r o ∧ pr_sp (pr_xl pr_on s l q i) A m o) n (-1) ⟨none, rfl, fun e he => nomatch he⟩ ?_ ?_
  · intro k r ⟨o, h1, h2⟩
    rw [wY_longest_5]
    refine br_t (nI_le (Nat.le_refl n) (by omega)) (H r ?_)
    rw [← pr_lgUn g h2]
    exact h1
  · intro k i r hi ⟨o, h1, h2⟩ K
    have hv : vp_in (nI i) 32 := vp_in_nI (by omega) (by decide)
    have ok := g.1 _ (pr_at (fa := s) (b := l) (p := q) hi (pr_onN i))
    have e2 : l i = nI (pr_l (s i, l i, q i)) := ok.2.1
    have hl : pr_l (s i, l i, q i) ≤ 16 := ok.2.2.1
    have skip : ¬ (pr_cv (s i, l i, q i) A ∧ pr_l (s i, l i, q i) < m) → wY_longest_5 post (nI A) (nI m) (nI n) s l q k r (nI (i + 1)) := fun c => K r ⟨o, pr_ixUp h1, by rw [pr_yl1]; exact pr_spSkip h2 c⟩
    rw [wY_longest_5]
    refine br_f (nI_ge hi (by omega)) (pr_ycov hn g hi hA (fun cv => br_f (by decide) ⟨hv, ?_⟩) (fun c => br_t rfl (nm_r (nI_1 i) (skip (fun d => c d.1)))))
    rw [nI_clamp (n := i) (by omega)]
    refine pk_le m (pr_l (s i, l i, q i)) (fun c => nm_r (nI_1 i) (skip (fun d => by omega))) (fun cl => ?_) rfl e2
    cases o with
    | none =>
      have e : r = -1 := h1
      refine br_t (by rw [e]; decide) (nm_r (nI_1 i) (K (nI i) ⟨some _, ⟨i, by omega, pr_onN i, rfl, rfl⟩, by rw [pr_yl1]; exact pr_spNew h2 ⟨cv, cl⟩⟩))
    | some x =>
      have h1' := h1
      obtain ⟨j, hj, zj, rfl, ej⟩ := h1
      have okj := g.1 _ (pr_at (fa := s) (b := l) (p := q) (n := n) (i := j) (by omega) zj)
      have e3 : l j = nI (pr_l (s j, l j, q j)) := okj.2.1
      have hlj : pr_l (s j, l j, q j) ≤ 16 := okj.2.2.1
      refine br_f (nI_pos (by omega)) ⟨hv, vp_in_nI (by omega) (by decide), ?_⟩
      rw [nI_clamp (n := j) (by omega)]
      have hle : l i ≤ l j ↔ pr_l (s i, l i, q i) ≤ pr_l x := by
        rw [ej]
        have k := nI_leI (a := pr_l (s i, l i, q i)) (b := pr_l (s j, l j, q j)) (by omega) (by omega)
        rw [← e2, ← e3] at k
        exact k
      refine br_c (fun w => nm_r (nI_1 i) (K (nI j) ⟨some x, pr_ixUp h1', ?_⟩)) (fun w => nm_r (nI_1 i) (K (nI i) ⟨some _, ⟨i, by omega, pr_onN i, rfl, rfl⟩, ?_⟩))
      · rw [pr_yl1]; exact pr_spKeep h2 (hle.mp w)
      · rw [pr_yl1]; exact pr_spRep h2 ⟨cv, cl⟩ (fun v => w (hle.mpr v))
theorem pr_yow (hn : n ≤ 32) (g : pr_good (pr_xl pr_on s l q n)) (a : Int32) {post : Int32 → Prop} (H : post (pr_ow (pr_xl pr_on s l q n) (pr_a a))) : wpY_owner post (nI n, s, l, q) a := by
  unfold wpY_owner
  dsimp only
  rw [pr_aAnd]
  refine pr_ylong (m := 17) hn g (pr_aLt a) (by omega) (fun r hr => ?_)
  unfold pr_ow at H
  cases ho : pr_lg (pr_xl pr_on s l q n) (pr_a a) 17 with
  | none =>
    rw [ho] at hr H
    have e : r = -1 := hr
    exact br_f (by rw [e]; decide) H
  | some e =>
    rw [ho] at hr H
    obtain ⟨i, hi, z, er, ee, hm, _, h0, hv, hcl⟩ := pr_ixIn hn hr
    refine br_t h0 ⟨hv, ?_⟩
    rw [hcl]
    rw [ee] at H
    exact H
theorem pr_yln (hn : n ≤ 32) (g : pr_good (pr_xl pr_on s l q n)) (a : Int32) {post : Int32 → Prop} (H : post (pr_ln (pr_xl pr_on s l q n) (pr_a a))) : wpY_length post (nI n, s, l, q) a := by
  unfold wpY_length
  dsimp only
  rw [pr_aAnd]
  refine pr_ylong (m := 17) hn g (pr_aLt a) (by omega) (fun r hr => ?_)
  unfold pr_ln at H
  cases ho : pr_lg (pr_xl pr_on s l q n) (pr_a a) 17 with
  | none =>
    rw [ho] at hr H
    have e : r = -1 := hr
    exact br_f (by rw [e]; decide) H
  | some e =>
    rw [ho] at hr H
    obtain ⟨i, hi, z, er, ee, hm, _, h0, hv, hcl⟩ := pr_ixIn hn hr
    refine br_t h0 ⟨hv, ?_⟩
    rw [hcl]
    rw [ee] at H
    exact H
/-- what an entry, or nothing, has to hand out -/
def pr_tot : Option pr_E → Int32
  | none => 65536
  | some e => nI (pr_z e)
theorem pr_yset (hn : n ≤ 32) (g : pr_good (pr_xl pr_on s l q n)) {r0 : Int32} {o0 : Option pr_E} (h0 : pr_ix pr_on s l q n r0 o0) {post : Int32 → Prop} (H : post (pr_tot o0 - pr_cd (pr_xl pr_on s l q n) o0)) : wpY_settled post (nI n, s, l, q) r0 := by
  have body : ∃ k, wY_settled_21 post r0 (nI n) s l q k (pr_tot o0) 0 := by
    unfold pr_cd at H
    generalize hf : (fun f => if pr_lg (pr_xl pr_on s l q n) (pr_s f) (pr_l f) = o0 then nI (pr_z f) else 0) = f at H
    refine loop_0 (fun k i x => wY_settled_21 post r0 (nI n) s l q k x (nI i)) (fun i x => x = pr_tot o0 - pr_sm f (pr_xl pr_on s l q i)) n (pr_tot o0) (Int32.sub_zero _).symm ?_ ?_
    · intro k x ex
      rw [wY_settled_21]
      rw [← ex] at H
      exact br_t (nI_le (Nat.le_refl n) (by omega)) H
    · intro k i x hi ex K
      have hv : vp_in (nI i) 32 := vp_in_nI (by omega) (by decide)
      have ok := g.1 _ (pr_at (fa := s) (b := l) (p := q) hi (pr_onN i))
      have e1 : s i = nI (pr_s (s i, l i, q i)) := ok.1
      have e2 : l i = nI (pr_l (s i, l i, q i)) := ok.2.1
      have hz := (pr_zb (s i, l i, q i)).1
      have hs := ok.2.2.2.1
      have hl := ok.2.2.1
      rw [wY_settled_21]
      refine br_f (nI_ge hi (by omega)) ⟨hv, hv, ?_⟩
      rw [nI_clamp (n := i) (by omega)]
      have hyl := fun P H => pr_ylong hn g (A := pr_s (s i, l i, q i)) (by omega) (m := pr_l (s i, l i, q i)) (by omega) (post := P) H
      rw [← e1, ← e2] at hyl
      refine hyl _ (fun r hr => ?_)
      have kk := pr_ixIff hn g hr h0
      refine br_c (fun c => ⟨hv, ?_⟩) (fun c => nm_r (nI_1 i) (K x ?_))
      · have hys := fun P H => pr_ysize (l := pr_l (s i, l i, q i)) hl (post := P) H
        rw [← e2] at hys
        refine hys _ (nm_e (nm_r (nI_1 i) (K _ ?_)))
        have fv : f (s i, l i, q i) = nI (2 ^ (16 - pr_l (s i, l i, q i))) := by
          rw [← hf]
          exact if_pos (kk.mp c)
        rw [← pr_st1 (f := f) (pr_onN i) rfl fv, ← Int32.sub_sub, ← ex]
      · have fv : f (s i, l i, q i) = 0 := by
          rw [← hf]
          exact if_neg (fun d => c (kk.mpr d))
        rw [← pr_st2 (f := f) (pr_onN i) rfl fv]
        exact ex
  unfold wpY_settled
  dsimp only
  cases o0 with
  | none =>
    have e : r0 = -1 := h0
    exact br_f (by rw [e]; decide) body
  | some e =>
    obtain ⟨i, hi, z, er, ee, hm, _, hp, hv, hcl⟩ := pr_ixIn hn h0
    have ok := g.1 _ (pr_at (fa := s) (b := l) (p := q) hi (pr_onN i))
    have e2 : l i = nI (pr_l (s i, l i, q i)) := ok.2.1
    refine br_t hp ⟨hv, ?_⟩
    rw [hcl]
    have hys := fun P H => pr_ysize (l := pr_l (s i, l i, q i)) ok.2.2.1 (post := P) H
    rw [← e2] at hys
    refine hys _ ?_
    rw [ee] at body
    exact body
end
end
section
section
variable {s l q : Nat → Int32} {n : Nat}
theorem pr_yfind (hn : n ≤ 32) (a : Int32) {l0 : Nat} (hl : l0 ≤ 16) {post : Int32 → Prop} (H0 : (∀ e, e ∈ pr_xl pr_on s l q n → pr_key e ≠ pr_k a l0) → post (-1)) (H1 : ∀ i, i < n → pr_key (s i, l i, q i) = pr_k a l0 → post (nI i)) : wpY_find post (nI n, s, l, q) a (nI l0) := by
  unfold wpY_find
  dsimp only
  refine loop_0 (fun k i (_ : Unit) => wY_find_2 post a (nI l0) (nI n) s l q k (nI i)) (fun i _ => ∀ e, e ∈ pr_xl pr_on s l q i → pr_key e ≠ pr_k a l0) n () (fun e he => nomatch he) ?_ ?_
  · intro k x ex
    rw [wY_find_2]
    exact br_t (nI_le (Nat.le_refl n) (by omega)) (H0 ex)
  · intro k i x hi ex K
    have hv : vp_in (nI i) 32 := vp_in_nI (by omega) (by decide)
    rw [wY_find_2]
    refine br_f (nI_ge hi (by omega)) ⟨hv, ?_⟩
    rw [nI_clamp (n := i) (by omega)]
    have next : pr_key (s i, l i, q i) ≠ pr_k a l0 → wY_find_2 post a (nI l0) (nI n) s l q k (nI (i + 1)) := by
      intro hx
      refine K () (fun e he => ?_)
      rw [pr_yl1] at he
      rcases List.mem_cons.mp he with rfl | he'
      · exact hx
      · exact ex e he'
    refine br_c (fun c => ⟨hv, pr_ystart a hl (br_c (fun d => H1 i hi ?_) (fun d => nm_r (nI_1 i) (next (fun w => d ?_))))⟩) (fun c => nm_r (nI_1 i) (next (fun w => c ?_)))
    · unfold pr_key
      dsimp only
      rw [c, d]
      rfl
    · exact congrArg Prod.fst w
    · exact congrArg Prod.snd w
theorem pr_ydrop {m i : Nat} (hm : m < 32) (hi : i < m + 1) {post : SY → Prop} (H : post (nI m, upd s i (s m), upd l i (l m), upd q i (q m))) : wpY_drop post (nI (m + 1), s, l, q) (nI i) := by
  have hv : vp_in (nI i) 32 := vp_in_nI (by omega) (by decide)
  have hw : vp_in (nI m) 32 := vp_in_nI (by omega) (by decide)
  unfold wpY_drop
  dsimp only
  refine nm_r (nI_pred m) ?_
  rw [nI_clamp (n := i) (by omega), nI_clamp (n := m) (by omega)]
  exact ⟨hw, hv, nm_e ⟨hw, hv, nm_e ⟨hw, hv, nm_e H⟩⟩⟩
theorem pr_yentries (hn : n ≤ 32) {post : Int32 → Prop} (v : Int32) (H : post (pr_sm (fun e => if e.2.2 = v then 1 else 0) (pr_xl pr_on s l q n))) : ∃ k, wY_entries_16 post v (nI n) s l q k 0 0 := by
  refine loop_0 (fun k i x => wY_entries_16 post v (nI n) s l q k x (nI i)) (fun i x => x = pr_sm (fun e => if e.2.2 = v then 1 else 0) (pr_xl pr_on s l q i)) n 0 rfl ?_ ?_
  · intro k x ex
    rw [wY_entries_16]
    rw [← ex] at H
    exact br_t (nI_le (Nat.le_refl n) (by omega)) H
  · intro k i x hi ex K
    have hv : vp_in (nI i) 32 := vp_in_nI (by omega) (by decide)
    rw [wY_entries_16]
    refine br_f (nI_ge hi (by omega)) ⟨hv, ?_⟩
    rw [nI_clamp (n := i) (by omega)]
    exact br_c (fun c => nm_e (nm_r (nI_1 i) (K _ (pr_st1 (pr_onN i) ex (if_pos c))))) (fun c => nm_r (nI_1 i) (K x (pr_st2 (pr_onN i) ex (if_neg c))))
theorem pr_yowned (hn : n ≤ 32) (g : pr_good (pr_xl pr_on s l q n)) {post : Int32 → Prop} (v : Int32) (H : post (pr_sm (pr_of (pr_xl pr_on s l q n) v) (pr_xl pr_on s l q n))) : ∃ k, wY_owned_29 post v (nI n) s l q k 0 0 := by
  generalize hf : pr_of (pr_xl pr_on s l q n) v = f at H
  refine loop_0 (fun k i x => wY_owned_29 post v (nI n) s l q k x (nI i)) (fun i x => x = pr_sm f (pr_xl pr_on s l q i)) n 0 rfl ?_ ?_
  · intro k x ex
    rw [wY_owned_29]
    rw [← ex] at H
    exact br_t (nI_le (Nat.le_refl n) (by omega)) H
  · intro k i x hi ex K
    have hv : vp_in (nI i) 32 := vp_in_nI (by omega) (by decide)
    rw [wY_owned_29]
    refine br_f (nI_ge hi (by omega)) ⟨hv, ?_⟩
    rw [nI_clamp (n := i) (by omega)]
    refine br_c (fun c => pr_yset hn g (o0 := some (s i, l i, q i)) ⟨i, hi, pr_onN i, rfl, rfl⟩ (nm_e (nm_r (nI_1 i) (K _ (pr_st1 (pr_onN i) ex ?_))))) (fun c => nm_r (nI_1 i) (K x (pr_st2 (pr_onN i) ex ?_)))
    · rw [← hf]; exact if_pos c
    · rw [← hf]; exact if_neg c
theorem pr_sub0 {a b : Int32} : a - b = 0 ↔ b = a := by
  rw [Int32.sub_eq_iff_eq_add, Int32.zero_add]
  exact eq_comm
theorem pr_yuseless (hn : n ≤ 32) (g : pr_good (pr_xl pr_on s l q n)) {post : Int32 → Prop} (H : post (pr_sm (pr_uf (pr_xl pr_on s l q n)) (pr_xl pr_on s l q n))) : wpY_useless post (nI n, s, l, q) := by
  unfold wpY_useless
  dsimp only
  generalize hf : pr_uf (pr_xl pr_on s l q n) = f at H
  refine loop_0 (fun k i x => wY_useless_4 post (nI n) s l q k x (nI i)) (fun i x => x = pr_sm f (pr_xl pr_on s l q i)) n 0 rfl ?_ ?_
  · intro k x ex
    rw [wY_useless_4]
    rw [← ex] at H
    exact br_t (nI_le (Nat.le_refl n) (by omega)) H
  · intro k i x hi ex K
    have hv : vp_in (nI i) 32 := vp_in_nI (by omega) (by decide)
    have ok := g.1 _ (pr_at (fa := s) (b := l) (p := q) hi (pr_onN i))
    have e1 : s i = nI (pr_s (s i, l i, q i)) := ok.1
    have e2 : l i = nI (pr_l (s i, l i, q i)) := ok.2.1
    have hz := (pr_zb (s i, l i, q i)).1
    have hs := ok.2.2.2.1
    have hl := ok.2.2.1
    rw [wY_useless_4]
    refine br_f (nI_ge hi (by omega)) ⟨hv, hv, ?_⟩
    rw [nI_clamp (n := i) (by omega)]
    have hyl := fun P H => pr_ylong hn g (A := pr_s (s i, l i, q i)) (by omega) (m := pr_l (s i, l i, q i)) (by omega) (post := P) H
    rw [← e1, ← e2] at hyl
    refine hyl _ (fun r hr => pr_yset hn g (o0 := some (s i, l i, q i)) ⟨i, hi, pr_onN i, rfl, rfl⟩ ?_)
    have yes : pr_cd (pr_xl pr_on s l q n) (some (s i, l i, q i)) = nI (pr_z (s i, l i, q i)) ∨ (pr_lg (pr_xl pr_on s l q n) (pr_s (s i, l i, q i)) (pr_l (s i, l i, q i))).map (fun o => o.2.2) = some (q i) → f (s i, l i, q i) = 1 := fun d => by rw [← hf]; exact if_pos d
    have no : ¬ (pr_cd (pr_xl pr_on s l q n) (some (s i, l i, q i)) = nI (pr_z (s i, l i, q i)) ∨ (pr_lg (pr_xl pr_on s l q n) (pr_s (s i, l i, q i)) (pr_l (s i, l i, q i))).map (fun o => o.2.2) = some (q i)) → f (s i, l i, q i) = 0 := fun d => by rw [← hf]; exact if_neg d
    refine br_c (fun c => nm_e (nm_r (nI_1 i) (K _ (pr_st1 (pr_onN i) ex (yes (.inl (pr_sub0.mp c))))))) (fun c => ?_)
    have c' : ¬ pr_cd (pr_xl pr_on s l q n) (some (s i, l i, q i)) = nI (pr_z (s i, l i, q i)) := fun d => c (pr_sub0.mpr d)
    cases ho : pr_lg (pr_xl pr_on s l q n) (pr_s (s i, l i, q i)) (pr_l (s i, l i, q i)) with
    | none =>
      rw [ho] at hr no
      have e : r = -1 := hr
      exact br_t (by rw [e]; decide) (nm_r (nI_1 i) (K x (pr_st2 (pr_onN i) ex (no (fun d => d.elim c' (fun w => nomatch w))))))
    | some e =>
      rw [ho] at hr no yes
      obtain ⟨j, hj, zj, er, ee, hm, hneg, _, hvj, hcl⟩ := pr_ixIn hn hr
      have ep : e.2.2 = q j := by rw [ee]
      refine br_f hneg ⟨hvj, hv, ?_⟩
      rw [hcl]
      refine br_c (fun d => nm_e (nm_r (nI_1 i) (K _ (pr_st1 (pr_onN i) ex (yes (.inr ?_)))))) (fun d => nm_r (nI_1 i) (K x (pr_st2 (pr_onN i) ex (no (fun w => w.elim c' (fun u => d ?_))))))
      · rw [← d, ← ep]
        rfl
      · rw [← ep]
        exact Option.some.inj u
theorem pr_yforget (hn : n ≤ 32) (v : Int32) {post : Int32 → SY → Prop} (H : ∀ m s' l' q', m ≤ 32 → (pr_xl pr_on s' l' q' m).Perm ((pr_xl pr_on s l q n).filter (fun e => !decide (e.2.2 = v))) → post (nI n - nI m) (nI m, s', l', q')) : ∃ k, wY_forget_24 post v (nI n) k (nI n - 1) (nI n) s l q := by
  refine ⟨n + 1, pk_loopD (fun k i (x : SY) => wY_forget_24 post v (nI n) k (nI i - 1) x.1 x.2.1 x.2.2.1 x.2.2.2) (fun i x => ∃ m, m ≤ 32 ∧ x.1 = nI m ∧ i ≤ m ∧ ((pr_xl pr_on x.2.1 x.2.2.1 x.2.2.2 m).filter (fun e => !decide (e.2.2 = v))).Perm ((pr_xl pr_on s l q n).filter (fun e => !decide (e.2.2 = v))) ∧ ∀ j, i ≤ j → j < m → ¬ x.2.2.2 j = v) ?_ ?_ n (nI n, s, l, q) ⟨n, hn, rfl, Nat.le_refl n, List.Perm.refl _, fun j h1 h2 => absurd h1 (by omega)⟩⟩
  · intro k ⟨f, s', l', q'⟩ ⟨m, hm, ef, _, hp, hq⟩
    dsimp only at ef hp hq ⊢
    rw [wY_forget_24, ef]
    refine br_t (by decide) (H m s' l' q' hm ?_)
    rw [List.filter_eq_self.mpr ?_] at hp
    · exact hp
    · intro e he
      obtain ⟨j, hj, _, rfl⟩ := pr_xlMem.mp he
      simpa using hq j (Nat.zero_le j) hj
  · intro k i ⟨f, s', l', q'⟩ ⟨m, hm, ef, him, hp, hq⟩ K
    dsimp only at ef hp hq ⊢
    have hv : vp_in (nI i) 32 := vp_in_nI (by omega) (by decide)
    rw [nI_pred, wY_forget_24, ef]
    refine br_f (nI_pos (by omega)) ⟨hv, ?_⟩
    rw [nI_clamp (n := i) (by omega)]
    have e1 : nI i + (-1) = nI i - 1 := (Int32.sub_eq_add_neg (nI i) 1).symm
    refine br_c (fun c => ?_) (fun c => nm_r e1 (K (nI m, s', l', q') ⟨m, hm, rfl, by omega, hp, fun j h1 h2 => ?_⟩))
    · obtain ⟨m', rfl⟩ : ∃ m', m = m' + 1 := ⟨m - 1, by omega⟩
      refine pr_ydrop (by omega) (by omega) ?_
      refine nm_r e1 (K (nI m', upd s' i (s' m'), upd l' i (l' m'), upd q' i (q' m')) ⟨m', by omega, rfl, by omega, ?_, fun j h1 h2 => ?_⟩)
      · have k1 := (pr_ylRem (s := s') (l := l') (q := q') (n := m') (i := i) (by omega)).filter (fun e => !decide (e.2.2 = v))
        rw [List.filter_cons_of_neg (by simp [c])] at k1
        exact k1.symm.trans hp
      · dsimp only
        by_cases d : j = i
        · subst d
          rw [pk_us]
          exact hq m' (by omega) (by omega)
        · rw [pk_un d]
          exact hq j (by omega) (by omega)
    · dsimp only
      by_cases d : j = i
      · subst d; exact c
      · exact hq j (by omega) h2
theorem pr_bIneg {m : Nat} (hm : m ≤ 65536) : pr_bI m < 0 ↔ m = 65536 := by
  unfold pr_bI
  by_cases c : m < 65536
  · rw [if_pos c]
    exact ⟨fun d => absurd d (nI_pos (by omega)), fun d => by omega⟩
  · rw [if_neg c]
    exact ⟨fun _ => by omega, fun _ => by decide⟩
theorem pr_y114 (hn : n ≤ 32) (g : pr_good (pr_xl pr_on s l q n)) (v : Int32) {w m c i : Nat} (hw : w < 65536) (hm : m ≤ 65536) (hc : c ≤ 65536) {post : Int32 → Prop} {J : Int32 → Int32 → Prop} (H : J (pr_bI (pr_le (pr_xl pr_on s l q n) v (w + 1) c m)) (nI (i + 1))) : wY_next_114 post J v (nI w) (pr_bI m) (nI i) (nI c) (nI n) s l q := by
  unfold wY_next_114
  unfold pr_le at H
  have keep : ¬ (w + 1 ≤ c ∧ c < m ∧ pr_ow (pr_xl pr_on s l q n) c = v) → ∀ y, y = nI i + 1 → J (pr_bI m) y := by
    intro d
    rw [if_neg d] at H
    exact nm_r (nI_1 i) H
  refine pk_le c w (fun d => keep (by omega)) (fun d => pk_le 65536 c (fun e => keep (by omega)) (fun e => pr_yow hn g (nI c) ?_))
  rw [pr_aN e]
  refine br_c (fun o => br_c (fun z => ?_) (fun z => ?_)) (fun o => keep (fun k => o k.2.2))
  · have em := (pr_bIneg hm).mp z
    rw [if_pos ⟨d, by omega, o⟩] at H
    unfold pr_bI at H
    rw [if_pos e] at H
    exact nm_r (nI_1 i) H
  · have hm' : m < 65536 := by
      have : ¬ m = 65536 := fun k => z ((pr_bIneg hm).mpr k)
      omega
    have eb : pr_bI m = nI m := if_pos hm'
    refine pk_le m c (fun k => keep (by omega)) (fun k => ?_) eb
    rw [if_pos ⟨d, k, o⟩] at H
    unfold pr_bI at H
    rw [if_pos e] at H
    exact nm_r (nI_1 i) H
theorem pr_ynext (hn : n ≤ 32) (g : pr_good (pr_xl pr_on s l q n)) (v : Int32) {w : Nat} (hw : w < 65536) {post : Int32 → Prop} (H : ∀ m, pr_mn (pr_xl pr_on s l q n) v (w + 1) (fun c => pr_pl (pr_xl pr_on s l q n) c) m → post (pr_bI m)) : ∃ k, wY_next_49 post v (nI w) (nI n) s l q k (-1) 0 := by
  refine loop_0 (fun k i x => wY_next_49 post v (nI w) (nI n) s l q k x (nI i)) (fun i x => ∃ m, x = pr_bI m ∧ pr_mn (pr_xl pr_on s l q n) v (w + 1) (fun c => pr_pl (pr_xl pr_on s l q i) c) m) n (-1) ⟨65536, rfl, Nat.le_refl _, .inl rfl, fun c hc => by obtain ⟨e, he, _⟩ := hc; cases he⟩ ?_ ?_
  · intro k x ⟨m, ex, hm⟩
    rw [wY_next_49, ex]
    exact br_t (nI_le (Nat.le_refl n) (by omega)) (H m hm)
  · intro k i x hi ⟨m, ex, hm⟩ K
    have hv : vp_in (nI i) 32 := vp_in_nI (by omega) (by decide)
    have ok := g.1 _ (pr_at (fa := s) (b := l) (p := q) hi (pr_onN i))
    have e1 : s i = nI (pr_s (s i, l i, q i)) := ok.1
    have e2 : l i = nI (pr_l (s i, l i, q i)) := ok.2.1
    have hz := pr_zb (s i, l i, q i)
    have hs := ok.2.2.2.1
    have hl := ok.2.2.1
    have m1 := pr_mnStep (pr_s (s i, l i, q i)) hm (C' := fun c => pr_pl (pr_xl pr_on s l q i) c ∨ c = pr_s (s i, l i, q i)) (fun _ => Iff.rfl)
    have m2 := pr_mnStep (pr_s (s i, l i, q i) + pr_z (s i, l i, q i)) m1 (C' := fun c => pr_pl (pr_xl pr_on s l q (i + 1)) c) (fun d => by rw [pr_yl1, pr_plCons])
    have K2 := K _ ⟨_, rfl, m2⟩
    have T := fun (f : Nat) (hf : f ≤ 65536) (ef : pr_le (pr_xl pr_on s l q n) v (w + 1) (pr_s (s i, l i, q i)) m = f) => pr_y114 (post := post) (J := wY_next_49 post v (nI w) (nI n) s l q k) (i := i) hn g v hw hf hs (by rw [← ef]; exact K2)
    rw [wY_next_49, ex]
    refine br_f (nI_ge hi (by omega)) ⟨hv, ?_⟩
    rw [nI_clamp (n := i) (by omega)]
    refine nm_r e1 ⟨hv, ?_⟩
    have hys := fun P H => pr_ysize (l := pr_l (s i, l i, q i)) hl (post := P) H
    rw [← e2] at hys
    refine hys _ (nm_r (nI_add _ _) ?_)
    generalize pr_s (s i, l i, q i) = c at *
    have hc : c < 65536 := by omega
    unfold pr_le at T
    refine pk_le c w (fun d => T m hm.1 (if_neg (by omega))) (fun d => pr_yow hn g (nI c) ?_)
    rw [pr_aN hc]
    refine br_c (fun o => br_c (fun z => ?_) (fun z => ?_)) (fun o => T m hm.1 (if_neg (fun k => o k.2.2)))
    · have em := (pr_bIneg hm.1).mp z
      have t := T c (by omega) (if_pos ⟨d, by omega, o⟩)
      have eb : pr_bI c = nI c := if_pos hc
      rw [eb] at t
      unfold wY_next_110
      exact t
    · have hm' : m < 65536 := by
        have h1 := hm.1
        have : ¬ m = 65536 := fun k => z ((pr_bIneg hm.1).mpr k)
        omega
      have eb : pr_bI m = nI m := if_pos hm'
      refine pk_le m c (fun k => T m hm.1 (if_neg (by omega))) (fun k => ?_) eb
      have t := T c (by omega) (if_pos ⟨d, k, o⟩)
      have eb : pr_bI c = nI c := if_pos hc
      rw [eb] at t
      unfold wY_next_110
      exact t
end
end
section
theorem pr_lt1m {v : Int32} (h : v < 0) (c : ¬ v = -1) : v < -1 := by
  rw [Int32.lt_iff_toInt_lt] at h ⊢
  have e : (-1 : Int32).toInt = -1 := by decide
  have e0 : (0 : Int32).toInt = 0 := by decide
  have : v.toInt ≠ -1 := fun d => c (Int32.toInt_inj.mp (d.trans e.symm))
  omega
theorem pr_gt1m {v : Int32} (h : ¬ v < 0) : ¬ v < -1 := by
  rw [Int32.lt_iff_toInt_lt] at h ⊢
  have e : (-1 : Int32).toInt = -1 := by decide
  have e0 : (0 : Int32).toInt = 0 := by decide
  omega
theorem pr_n0m1 {v : Int32} (h : ¬ v < 0) : ¬ v = -1 := by
  intro c
  rw [c] at h
  exact h (by decide)
/-- owned, of a list -/
def pr_fO (L : List pr_E) (v : Int32) : Int32 := if v < -1 ∨ 7 < v then -2 else if v = -1 then 65536 - pr_cd L none else pr_sm (pr_of L v) L
theorem pr_fOPerm {L M : List pr_E} (p : L.Perm M) (g : pr_good L) (v : Int32) : pr_fO L v = pr_fO M v := by
  unfold pr_fO
  rw [pr_cdPerm p g, pr_ofPerm p g]
theorem pr_plPerm {L M : List pr_E} (p : L.Perm M) (c : Nat) : pr_pl L c ↔ pr_pl M c := by
  unfold pr_pl
  constructor
  · intro ⟨e, he, q⟩; exact ⟨e, p.mem_iff.mp he, q⟩
  · intro ⟨e, he, q⟩; exact ⟨e, p.mem_iff.mpr he, q⟩
theorem pr_mnPerm {L M : List pr_E} (p : L.Perm M) (g : pr_good L) {v : Int32} {w m : Nat} (h : pr_mn L v w (fun c => pr_pl L c ∨ c = w) m) : pr_mn M v w (fun c => pr_pl M c ∨ c = w) m := by
  obtain ⟨h1, h2, h3⟩ := h
  refine ⟨h1, h2.imp id (fun q => ⟨q.1, ?_, q.2.2.imp (pr_plPerm p m).mp id⟩), fun c hc h4 h5 h6 => h3 c (hc.imp (pr_plPerm p c).mpr id) h4 ?_ h6⟩
  · rw [← pr_owPerm p g]; exact q.2.1
  · rw [pr_owPerm p g]; exact h5
section
variable {h fa b p : Nat → Int32}
theorem pr_xfO (g : pr_good (pr_xl h fa b p 32)) (v : Int32) {post : Int32 → Prop} (H : post (pr_fO (pr_xl h fa b p 32) v)) : wpX_owned post (h, fa, b, p) v := by
  unfold wpX_owned
  dsimp only
  unfold wpX_isOwner wpX_isPeer
  unfold pr_fO at H
  refine br_c (fun c => br_f (by decide) (br_t c (pr_xcd (o0 := none) g rfl ?_))) (fun c => br_c (fun d => br_t rfl (br_t rfl ?_)) (fun d => br_c (fun e => br_t rfl (br_t rfl ?_)) (fun e => br_f (by decide) (br_f (by decide) (br_f c (pr_xowned g v ?_))))))
  · rw [if_neg (by rw [c]; decide), if_pos c] at H
    exact H
  · rw [if_pos (.inl (pr_lt1m d c))] at H
    exact H
  · rw [if_pos (.inr e)] at H
    exact H
  · rw [if_neg (fun k => k.elim (pr_gt1m d) e), if_neg c] at H
    exact H
theorem pr_xnextM (g : pr_good (pr_xl h fa b p 32)) (v x : Int32) {post : Int32 → Prop} (H0 : (v < -1 ∨ 7 < v) → post (-2)) (H : ¬ (v < -1 ∨ 7 < v) → ∀ w, w < 2 ^ 31 → ((0 ≤ x ∧ x = nI w) ∨ (¬ 0 ≤ x ∧ 0 = nI w)) → ∀ m, pr_mn (pr_xl h fa b p 32) v w (fun c => pr_pl (pr_xl h fa b p 32) c ∨ c = w) m → post (pr_bI m)) : wpX_next post (h, fa, b, p) v x := by
  have body : ¬ (v < -1 ∨ 7 < v) → ((0 ≤ x → wX_next_19 post v x h fa b p) ∧ (¬ 0 ≤ x → wX_next_19 post v 0 h fa b p)) := by
    intro k
    refine br_c (fun c => ?_) (fun c => ?_)
    · obtain ⟨w, hw, ew⟩ := nI_of (x := x) (Int32.not_lt.mpr c)
      rw [ew]
      exact pr_xnext g v hw (H k w hw (.inl ⟨c, ew⟩))
    · exact pr_xnext (w := 0) g v (by decide) (H k 0 (by decide) (.inr ⟨c, rfl⟩))
  unfold wpX_next
  dsimp only
  unfold wpX_isOwner wpX_isPeer
  exact br_c (fun c => br_f (by decide) (body (by rw [c]; decide))) (fun c => br_c (fun d => br_t rfl (br_t rfl (H0 (.inl (pr_lt1m d c))))) (fun d => br_c (fun e => br_t rfl (br_t rfl (H0 (.inr e)))) (fun e => br_f (by decide) (br_f (by decide) (body (fun k => k.elim (pr_gt1m d) e))))))
theorem pr_xfirst (a : Int32) {l : Nat} (hl : l ≤ 16) {post : Int32 → Prop} (H : post (pr_k a l).1) : wpX_firstCovered post a (nI l) := by
  unfold wpX_firstCovered
  intro y ey
  rw [ey, pr_first a hl]
  exact H
theorem pr_x36 (a : Int32) {l : Nat} (hl : l ≤ 16) (v : Int32) {i : Nat} (hi : i < 32) {post : Int32 → SX → Prop} (H : post (nI (pr_xl (upd h i (vp_nar .boolean 1)) (upd fa i (pr_k a l).1) (upd b i (nI l)) (upd p i v) 32).length) (upd h i (vp_nar .boolean 1), upd fa i (pr_k a l).1, upd b i (nI l), upd p i v)) : wX_allow_36 post a (nI l) v (nI i) h fa b p := by
  have hv : vp_in (nI i) 32 := vp_in_nI hi (by decide)
  unfold wX_allow_36
  rw [nI_clamp (n := i) (by omega)]
  exact br_f (fun c => pr_m1 (i := i) (by omega) c.symm) ⟨hv, nm_e (pr_xfirst a hl ⟨hv, nm_e ⟨hv, nm_e ⟨hv, nm_e (pr_xheld H)⟩⟩⟩)⟩
theorem pr_xal (g : pr_good (pr_xl h fa b p 32)) (a : Int32) {l : Nat} (hl : l ≤ 16) (v : Int32) (hv0 : ¬ v < 0) (hv7 : ¬ 7 < v) {post : Int32 → SX → Prop}
    (H0 : (∀ e, e ∈ pr_xl h fa b p 32 → pr_key e ≠ pr_k a l) → (∀ i, i < 32 → ¬ h i = 0) → post (-1) (h, fa, b, p))
    (H1 : ∀ i, i < 32 → h i = 0 → (∀ e, e ∈ pr_xl h fa b p 32 → pr_key e ≠ pr_k a l) → post (nI (pr_xl (upd h i (vp_nar .boolean 1)) (upd fa i (pr_k a l).1) (upd b i (nI l)) (upd p i v) 32).length) (upd h i (vp_nar .boolean 1), upd fa i (pr_k a l).1, upd b i (nI l), upd p i v))
    (H2 : ∀ i, i < 32 → ¬ h i = 0 → pr_key (fa i, b i, p i) = pr_k a l → post (nI (pr_xl (upd h i (vp_nar .boolean 1)) (upd fa i (pr_k a l).1) (upd b i (nI l)) (upd p i v) 32).length) (upd h i (vp_nar .boolean 1), upd fa i (pr_k a l).1, upd b i (nI l), upd p i v)) : wpX_allow post (h, fa, b, p) a (nI l) v := by
  unfold wpX_allow
  dsimp only
  unfold wpX_isLength wpX_isPeer
  refine br_f (nI_pos (by omega)) (br_f (nI_nlt (a := 16) hl (by decide)) (br_f (by decide) (br_f hv0 (br_f hv7 (br_f (by decide) (pr_xfind g a hl (fun hno => br_t rfl (pr_xfree (fun full => ?_) (fun i hi z => pr_x36 a hl v hi (H1 i hi z hno)))) (fun i hi z hk => br_f (fun c => pr_m1 (i := i) (by omega) c.symm) (pr_x36 a hl v hi (H2 i hi z hk)))))))))
  unfold wX_allow_36
  exact br_t rfl (H0 hno full)
theorem pr_xde (g : pr_good (pr_xl h fa b p 32)) (a : Int32) {l : Nat} (hl : l ≤ 16) {post : Int32 → SX → Prop} (H0 : (∀ e, e ∈ pr_xl h fa b p 32 → pr_key e ≠ pr_k a l) → post (-1) (h, fa, b, p))
    (H2 : ∀ i, i < 32 → ¬ h i = 0 → pr_key (fa i, b i, p i) = pr_k a l → post (nI (pr_xl (upd h i 0) fa b p 32).length) (upd h i 0, fa, b, p)) : wpX_deny post (h, fa, b, p) a (nI l) := by
  unfold wpX_deny
  dsimp only
  unfold wpX_isLength
  refine br_f (nI_pos (by omega)) (br_f (nI_nlt (a := 16) hl (by decide)) (br_f (by decide) (pr_xfind g a hl (fun hno => br_t rfl (H0 hno)) (fun i hi z hk => br_f (fun c => pr_m1 (i := i) (by omega) c.symm) ⟨vp_in_nI hi (by decide), ?_⟩))))
  rw [nI_clamp (n := i) (by omega), pr_nar0]
  exact nm_e (pr_xheld (H2 i hi z hk))
end
section
variable {s l q : Nat → Int32} {n : Nat}
theorem pr_yfO (hn : n ≤ 32) (g : pr_good (pr_xl pr_on s l q n)) (v : Int32) {post : Int32 → Prop} (H : post (pr_fO (pr_xl pr_on s l q n) v)) : wpY_owned post (nI n, s, l, q) v := by
  unfold wpY_owned
  dsimp only
  unfold pr_fO at H
  refine br_c (fun c => ?_) (fun c => br_c (fun d => br_c (fun e => pr_yset (o0 := none) hn g rfl ?_) (fun e => pr_yowned hn g v ?_)) (fun d => ?_))
  · rw [if_pos (.inl c)] at H
    exact H
  · rw [if_neg (fun k => k.elim c (Int32.not_lt.mpr d)), if_pos e] at H
    exact H
  · rw [if_neg (fun k => k.elim c (Int32.not_lt.mpr d)), if_neg e] at H
    exact H
  · rw [if_pos (.inr (Int32.not_le.mp d))] at H
    exact H
theorem pr_y23 (hn : n ≤ 32) (g : pr_good (pr_xl pr_on s l q n)) (v : Int32) {w m : Nat} (hw : w < 2 ^ 31) (hm : pr_mn (pr_xl pr_on s l q n) v w (fun c => pr_pl (pr_xl pr_on s l q n) c ∨ c = w) m) {post : Int32 → Prop} (H : post (pr_bI m)) : wY_next_23 post v (nI w) (nI n) s l q := by
  obtain ⟨h1, h2, h3⟩ := hm
  unfold wY_next_23
  refine pk_le w 65535 (fun c => pr_yow hn g (nI w) ?_) (fun c => ?_)
  · rw [pr_aN (by omega)]
    refine br_c (fun d => ?_) (fun d => pr_ynext hn g v (by omega) (fun m' hm' => ?_))
    · have k := h3 w (.inr rfl) (Nat.le_refl w) d (by omega)
      have e : m = w := by omega
      have eb : pr_bI m = nI w := by rw [e]; exact if_pos (by omega)
      rw [eb] at H
      exact H
    · have e : m = m' := pr_mnUn (fun x => by
        constructor
        · intro ⟨a1, a2, a3⟩
          rcases a3 with a3 | a3
          · refine ⟨?_, a2, a3⟩
            have : x ≠ w := fun k => d (k ▸ a2)
            omega
          · exact absurd (a3 ▸ a2) d
        · intro ⟨a1, a2, a3⟩
          exact ⟨by omega, a2, .inl a3⟩) ⟨h1, h2, h3⟩ hm'
      rw [← e]
      exact H
  · have eb : pr_bI m = -1 := if_neg (by omega)
    rw [eb] at H
    exact H
theorem pr_ynextM (v x : Int32) {post : Int32 → Prop} (H0 : (v < -1 ∨ 7 < v) → post (-2)) (H : ¬ (v < -1 ∨ 7 < v) → ((0 ≤ x → wY_next_23 post v x (nI n) s l q) ∧ (¬ 0 ≤ x → wY_next_23 post v 0 (nI n) s l q))) : wpY_next post (nI n, s, l, q) v x := by
  unfold wpY_next
  dsimp only
  exact br_c (fun c => H0 (.inl c)) (fun c => br_c (fun d => H (fun k => k.elim c (Int32.not_lt.mpr d))) (fun d => H0 (.inr (Int32.not_le.mp d))))
theorem pr_yal (hn : n ≤ 32) (a : Int32) {l0 : Nat} (hl : l0 ≤ 16) (v : Int32) (hv0 : ¬ v < 0) (hv7 : ¬ 7 < v) {post : Int32 → SY → Prop}
    (H0 : (∀ e, e ∈ pr_xl pr_on s l q n → pr_key e ≠ pr_k a l0) → n = 32 → post (-1) (nI n, s, l, q))
    (H1 : (∀ e, e ∈ pr_xl pr_on s l q n → pr_key e ≠ pr_k a l0) → n < 32 → post (nI (n + 1)) (nI (n + 1), upd s n (pr_k a l0).1, upd l n (nI l0), upd q n v))
    (H2 : ∀ j, j < n → pr_key (s j, l j, q j) = pr_k a l0 → post (nI n) (nI n, s, l, upd q j v)) : wpY_allow post (nI n, s, l, q) a (nI l0) v := by
  unfold wpY_allow
  dsimp only
  unfold wpY_badLength
  refine br_f (nI_pos (by omega)) (br_t (nI_le (b := 16) hl (by decide)) (br_t rfl (br_f hv0 (br_t (Int32.not_lt.mp hv7) (pr_yfind hn a hl (fun hno => br_f (by decide) (pk_eq n 32 (fun c => H0 hno c) (fun c => ?_))) (fun j hj hk => br_t (nI_pos' (by omega)) ?_))))))
  · have hw : vp_in (nI n) 32 := vp_in_nI (by omega) (by decide)
    unfold wY_allow_43 wY_allow_84
    rw [nI_clamp (n := n) (by omega)]
    exact br_f (by decide) (pr_ystart a hl ⟨hw, nm_e ⟨hw, nm_e (nm_r (nI_1 n) ⟨hw, nm_e (H1 hno (by omega))⟩)⟩⟩)
  · unfold wY_allow_43 wY_allow_84
    rw [nI_clamp (n := j) (by omega)]
    exact br_t (nI_pos' (by omega)) ⟨vp_in_nI (by omega) (by decide), nm_e (H2 j hj hk)⟩
theorem pr_yde (hn : n ≤ 32) (a : Int32) {l0 : Nat} (hl : l0 ≤ 16) {post : Int32 → SY → Prop}
    (H0 : (∀ e, e ∈ pr_xl pr_on s l q n → pr_key e ≠ pr_k a l0) → post (-1) (nI n, s, l, q))
    (H2 : ∀ j m, n = m + 1 → j < n → pr_key (s j, l j, q j) = pr_k a l0 → post (nI m) (nI m, upd s j (s m), upd l j (l m), upd q j (q m))) : wpY_deny post (nI n, s, l, q) a (nI l0) := by
  unfold wpY_deny
  dsimp only
  unfold wpY_badLength
  refine br_f (nI_pos (by omega)) (br_t (nI_le (b := 16) hl (by decide)) (br_t rfl (pr_yfind hn a hl (fun hno => ?_) (fun j hj hk => ?_))))
  · unfold wY_deny_17
    exact br_f (by decide) (H0 hno)
  · unfold wY_deny_17
    obtain ⟨m, rfl⟩ : ∃ m, n = m + 1 := ⟨n - 1, by omega⟩
    exact br_t (nI_pos' (by omega)) (pr_ydrop (by omega) hj (H2 j m rfl hj hk))
end
end
section
def pr_R (h fa b p : Nat → Int32) (f : Int32) (s l q : Nat → Int32) : Prop := ∃ n, n ≤ 32 ∧ f = nI n ∧ (pr_xl h fa b p 32).Perm (pr_xl pr_on s l q n) ∧ pr_good (pr_xl pr_on s l q n)
/-- the held slots' entries are the reference's, in some order; each well made, no two alike -/
def i_Rel (_ : Nat) (u : SX) (v : SY) : Prop := pr_R u.1 u.2.1 u.2.2.1 u.2.2.2 v.1 v.2.1 v.2.2.1 v.2.2.2
theorem i_up {k : Nat} {u : SX} {v : SY} (h : i_Rel k u v) : i_Rel (k + 4) u v := h
theorem pr_nil (n : Nat) : pr_xl (fun _ => 0) (fun _ => 0) (fun _ => 0) (fun _ => 0) n = [] := by
  induction n with
  | zero => rfl
  | succ n ih => rw [pr_xl0 rfl, ih]
theorem i_vc0 : wpX_init (fun u => wpY_init (fun v => i_Rel 0 u v)) := by
  refine ⟨0, by omega, rfl, ?_, ?_⟩
  · show (pr_xl (fun _ => 0) (fun _ => 0) (fun _ => 0) (fun _ => 0) 32).Perm []
    rw [pr_nil]
  · exact ⟨(fun e he => nomatch he), List.Pairwise.nil⟩
theorem pr_un {k : Nat} {h fa b p : Nat → Int32} {f : Int32} {s l q : Nat → Int32} (I : i_Rel k (h, fa, b, p) (f, s, l, q)) : ∃ n, n ≤ 32 ∧ f = nI n ∧ (pr_xl h fa b p 32).Perm (pr_xl pr_on s l q n) ∧ pr_good (pr_xl pr_on s l q n) ∧ pr_good (pr_xl h fa b p 32) := by
  obtain ⟨n, hn, e, P, g⟩ := I
  exact ⟨n, hn, e, P, g, pr_gperm P.symm g⟩
theorem i_vc_owner {k : Nat} {u : SX} {v : SY} (I : i_Rel k u v) (hk : k + 4 ≤ 2048) (v1 : Int32) : wpX_owner (fun r => wpY_owner (fun r' => r' = r ∧ i_Rel (k + 4) u v) v v1) u v1 := by
  obtain ⟨h, fa, b, p⟩ := u
  obtain ⟨f, s, l, q⟩ := v
  have J := i_up I
  obtain ⟨n, hn, rfl, P, g, gx⟩ := pr_un I
  exact pr_xow gx v1 (pr_yow hn g v1 ⟨(pr_owPerm P gx _).symm, J⟩)
theorem i_vc_length {k : Nat} {u : SX} {v : SY} (I : i_Rel k u v) (hk : k + 4 ≤ 2048) (v1 : Int32) : wpX_length (fun r => wpY_length (fun r' => r' = r ∧ i_Rel (k + 4) u v) v v1) u v1 := by
  obtain ⟨h, fa, b, p⟩ := u
  obtain ⟨f, s, l, q⟩ := v
  have J := i_up I
  obtain ⟨n, hn, rfl, P, g, gx⟩ := pr_un I
  exact pr_xln gx v1 (pr_yln hn g v1 ⟨(pr_lnPerm P gx _).symm, J⟩)
theorem i_vc_owned {k : Nat} {u : SX} {v : SY} (I : i_Rel k u v) (hk : k + 4 ≤ 2048) (v1 : Int32) : wpX_owned (fun r => wpY_owned (fun r' => r' = r ∧ i_Rel (k + 4) u v) v v1) u v1 := by
  obtain ⟨h, fa, b, p⟩ := u
  obtain ⟨f, s, l, q⟩ := v
  have J := i_up I
  obtain ⟨n, hn, rfl, P, g, gx⟩ := pr_un I
  exact pr_xfO gx v1 (pr_yfO hn g v1 ⟨(pr_fOPerm P gx _).symm, J⟩)
theorem i_vc_next {k : Nat} {u : SX} {v : SY} (I : i_Rel k u v) (hk : k + 4 ≤ 2048) (v1 : Int32) (v2 : Int32) : wpX_next (fun r => wpY_next (fun r' => r' = r ∧ i_Rel (k + 4) u v) v v1 v2) u v1 v2 := by
  obtain ⟨h, fa, b, p⟩ := u
  obtain ⟨f, s, l, q⟩ := v
  have J := i_up I
  obtain ⟨n, hn, rfl, P, g, gx⟩ := pr_un I
  refine pr_xnextM gx v1 v2 (fun c => pr_ynextM v1 v2 (fun _ => ⟨rfl, J⟩) (fun d => absurd c d)) (fun c w hw hx m hm => pr_ynextM v1 v2 (fun d => absurd d c) (fun _ => ?_))
  have hm' := pr_mnPerm P gx hm
  rcases hx with ⟨h0, rfl⟩ | ⟨h0, e⟩
  · exact br_t h0 (pr_y23 hn g v1 hw hm' ⟨rfl, J⟩)
  · refine br_f h0 ?_
    rw [e]
    exact pr_y23 hn g v1 hw hm' ⟨rfl, J⟩
theorem i_vc_useless {k : Nat} {u : SX} {v : SY} (I : i_Rel k u v) (hk : k + 4 ≤ 2048) : wpX_useless (fun r => wpY_useless (fun r' => r' = r ∧ i_Rel (k + 4) u v) v) u := by
  obtain ⟨h, fa, b, p⟩ := u
  obtain ⟨f, s, l, q⟩ := v
  have J := i_up I
  obtain ⟨n, hn, rfl, P, g, gx⟩ := pr_un I
  exact pr_xuseless gx (pr_yuseless hn g ⟨(pr_ufPerm P gx).symm, J⟩)
theorem i_vc_entries {k : Nat} {u : SX} {v : SY} (I : i_Rel k u v) (hk : k + 4 ≤ 2048) (v1 : Int32) : wpX_entries (fun r => wpY_entries (fun r' => r' = r ∧ i_Rel (k + 4) u v) v v1) u v1 := by
  obtain ⟨h, fa, b, p⟩ := u
  obtain ⟨f, s, l, q⟩ := v
  have J := i_up I
  obtain ⟨n, hn, rfl, P, g, gx⟩ := pr_un I
  unfold wpX_entries wpY_entries
  dsimp only
  unfold wpX_isPeer
  exact br_c (fun c => br_t rfl (br_t c ⟨rfl, J⟩)) (fun c => br_c (fun d => br_t rfl (br_f c (br_f (Int32.not_le.mpr d) ⟨rfl, J⟩))) (fun d => br_f (by decide) (pr_xentries v1 (br_f c (br_t (Int32.not_lt.mp d) (pr_yentries hn v1 ⟨(pr_smPerm _ P).symm, J⟩))))))
theorem i_vc_forget {k : Nat} {u : SX} {v : SY} (I : i_Rel k u v) (hk : k + 4 ≤ 2048) (v1 : Int32) : wpX_forget (fun r u' => wpY_forget (fun r' v' => r' = r ∧ i_Rel (k + 4) u' v') v v1) u v1 := by
  obtain ⟨h, fa, b, p⟩ := u
  obtain ⟨f, s, l, q⟩ := v
  have J := i_up I
  obtain ⟨n, hn, rfl, P, g, gx⟩ := pr_un I
  unfold wpX_forget wpY_forget
  dsimp only
  unfold wpX_isPeer
  refine br_c (fun c => br_t rfl (br_t c ⟨rfl, J⟩)) (fun c => br_c (fun d => br_t rfl (br_f c (br_f (Int32.not_le.mpr d) ⟨rfl, J⟩))) (fun d => br_f (by decide) (pr_xforget v1 (fun h' e' => br_f c (br_t (Int32.not_lt.mp d) (nm_e (pr_yforget hn v1 (fun m s' l' q' hm Q => ⟨?_, m, hm, rfl, ?_, ?_⟩))))))))
  · rw [pr_smFil, P.length_eq, (P.filter _).length_eq, ← Q.length_eq, pr_ylLen, pr_ylLen]
  · show (pr_xl h' fa b p 32).Perm (pr_xl pr_on s' l' q' m)
    rw [e']
    exact (P.filter _).trans Q.symm
  · exact pr_gperm Q.symm (pr_gfil _ g)
theorem i_vc_allow {k : Nat} {u : SX} {v : SY} (I : i_Rel k u v) (hk : k + 4 ≤ 2048) (v1 : Int32) (v2 : Int32) (v3 : Int32) : wpX_allow (fun r u' => wpY_allow (fun r' v' => r' = r ∧ i_Rel (k + 4) u' v') v v1 v2 v3) u v1 v2 v3 := by
  obtain ⟨h, fa, b, p⟩ := u
  obtain ⟨f, s, l, q⟩ := v
  have J := i_up I
  obtain ⟨n, hn, rfl, P, g, gx⟩ := pr_un I
  by_cases c1 : v2 < 0
  · unfold wpX_allow wpY_allow
    dsimp only
    unfold wpX_isLength wpY_badLength
    exact br_t c1 (br_t rfl (br_t c1 (br_f (by decide) ⟨rfl, J⟩)))
  by_cases c2 : 16 < v2
  · unfold wpX_allow wpY_allow
    dsimp only
    unfold wpX_isLength wpY_badLength
    exact br_f c1 (br_t c2 (br_t rfl (br_f c1 (br_f (Int32.not_le.mpr c2) (br_f (by decide) ⟨rfl, J⟩)))))
  by_cases c3 : v3 < 0
  · unfold wpX_allow wpY_allow
    dsimp only
    unfold wpX_isLength wpY_badLength wpX_isPeer
    exact br_f c1 (br_f c2 (br_f (by decide) (br_t c3 (br_t rfl (br_f c1 (br_t (Int32.not_lt.mp c2) (br_t rfl (br_t c3 ⟨rfl, J⟩))))))))
  by_cases c4 : 7 < v3
  · unfold wpX_allow wpY_allow
    dsimp only
    unfold wpX_isLength wpY_badLength wpX_isPeer
    exact br_f c1 (br_f c2 (br_f (by decide) (br_f c3 (br_t c4 (br_t rfl (br_f c1 (br_t (Int32.not_lt.mp c2) (br_t rfl (br_f c3 (br_f (Int32.not_le.mpr c4) ⟨rfl, J⟩))))))))))
  obtain ⟨l0, hl, rfl⟩ := nI_of2 (M := 16) (n := 16) (by decide) c1 (Int32.not_lt.mp c2)
  have mem : ∀ e, e ∈ pr_xl h fa b p 32 ↔ e ∈ pr_xl pr_on s l q n := fun e => P.mem_iff
  have len := P.length_eq
  rw [pr_ylLen] at len
  refine pr_xal gx v1 hl v3 c3 c4 (fun no full => pr_yal hn v1 hl v3 c3 c4 (fun _ _ => ⟨rfl, J⟩) (fun _ c => ?_) (fun j hj hk => ?_)) (fun i hi z no => pr_yal hn v1 hl v3 c3 c4 (fun _ c => ?_) (fun no' c => ?_) (fun j hj hk => ?_)) (fun i hi z hk => pr_yal hn v1 hl v3 c3 c4 (fun no c => ?_) (fun no c => ?_) (fun j hj hkj => ?_))
  · rw [pr_xlFull full] at len
    omega
  · exact absurd hk (no _ ((mem _).mpr (pr_at hj (pr_onN j))))
  · have := pr_xlRoom (fa := fa) (b := b) (p := p) hi z
    omega
  · have hset := pr_xlSet (h := h) (fa := fa) (b := b) (p := p) hi (x := vp_nar .boolean 1) (y := (pr_k v1 l0).1) (w := nI l0) (v := v3) pr_nar1
    have e1 : pr_xl (upd h i 0) fa b p 32 = pr_xl h fa b p 32 := pr_xlCon (fun j hj => by
      by_cases d : j = i
      · subst d
        rw [pk_us]
        exact ⟨⟨fun _ => z, fun _ => rfl⟩, fun w => absurd rfl w⟩
      · rw [pk_un d]
        exact ⟨Iff.rfl, fun _ => ⟨rfl, rfl, rfl⟩⟩)
    rw [e1] at hset
    have e2 : pr_xl pr_on (upd s n (pr_k v1 l0).1) (upd l n (nI l0)) (upd q n v3) (n + 1) = ((pr_k v1 l0).1, nI l0, v3) :: pr_xl pr_on s l q n := by
      rw [pr_yl1, pk_us, pk_us, pk_us]
      congr 1
      exact pr_xlCon (fun j hj => ⟨Iff.rfl, fun _ => ⟨pk_un (by omega), pk_un (by omega), pk_un (by omega)⟩⟩)
    have P' := hset.trans (P.cons ((pr_k v1 l0).1, nI l0, v3))
    rw [← e2] at P'
    have kk := pr_kOk v1 hl v3
    refine ⟨?_, n + 1, by omega, rfl, P', ?_⟩
    · rw [P'.length_eq, pr_ylLen]
    · dsimp only
      rw [e2]
      exact pr_gcons.mpr ⟨⟨kk.1, fun f hf => kk.2 ▸ (no' f hf).symm⟩, g⟩
  · exact absurd hk (no _ ((mem _).mpr (pr_at hj (pr_onN j))))
  · exact absurd hk (no _ ((mem _).mp (pr_at hi z)))
  · exact absurd hk (no _ ((mem _).mp (pr_at hi z)))
  · have hset := pr_xlSet (h := h) (fa := fa) (b := b) (p := p) hi (x := vp_nar .boolean 1) (y := (pr_k v1 l0).1) (w := nI l0) (v := v3) pr_nar1
    have r1 := pr_xlRem (fa := fa) (b := b) (p := p) hi z
    have r2 := pr_xlRem (h := pr_on) (fa := s) (b := l) (p := q) hj (pr_onN j)
    have ee : (fa i, b i, p i) = (s j, l j, q j) := pr_uni g.2 ((mem _).mp (pr_at hi z)) (pr_at hj (pr_onN j)) (hk.trans hkj.symm)
    rw [ee] at r1
    have rr := (List.perm_cons _).mp (r1.symm.trans (P.trans r2))
    have r3 := pr_xlRem (h := pr_on) (fa := s) (b := l) (p := upd q j v3) hj (pr_onN j)
    have e3 : pr_xl (upd pr_on j 0) s l (upd q j v3) n = pr_xl (upd pr_on j 0) s l q n := pr_xlCon (fun x hx => by
      by_cases d : x = j
      · subst d
        rw [pk_us]
        exact ⟨Iff.rfl, fun w => absurd rfl w⟩
      · exact ⟨Iff.rfl, fun _ => ⟨rfl, rfl, pk_un d⟩⟩)
    have k1 : s j = (pr_k v1 l0).1 := congrArg Prod.fst hkj
    have k2 : l j = nI l0 := congrArg Prod.snd hkj
    rw [e3, pk_us, k1, k2] at r3
    have P' := hset.trans ((rr.cons ((pr_k v1 l0).1, nI l0, v3)).trans r3.symm)
    have kk := pr_kOk v1 hl v3
    have gg := pr_gcons.mp (pr_gperm r2 g)
    refine ⟨?_, n, hn, rfl, P', ?_⟩
    · rw [P'.length_eq, pr_ylLen]
    · refine pr_gperm r3.symm (pr_gcons.mpr ⟨⟨kk.1, fun f hf => ?_⟩, gg.2⟩)
      have t := gg.1.2 f hf
      rw [hkj] at t
      exact t
theorem i_vc_deny {k : Nat} {u : SX} {v : SY} (I : i_Rel k u v) (hk : k + 4 ≤ 2048) (v1 : Int32) (v2 : Int32) : wpX_deny (fun r u' => wpY_deny (fun r' v' => r' = r ∧ i_Rel (k + 4) u' v') v v1 v2) u v1 v2 := by
  obtain ⟨h, fa, b, p⟩ := u
  obtain ⟨f, s, l, q⟩ := v
  have J := i_up I
  obtain ⟨n, hn, rfl, P, g, gx⟩ := pr_un I
  by_cases c1 : v2 < 0
  · unfold wpX_deny wpY_deny
    dsimp only
    unfold wpX_isLength wpY_badLength wY_deny_17
    exact br_t c1 (br_t rfl (br_t c1 (br_f (by decide) (br_f (by decide) ⟨rfl, J⟩))))
  by_cases c2 : 16 < v2
  · unfold wpX_deny wpY_deny
    dsimp only
    unfold wpX_isLength wpY_badLength wY_deny_17
    exact br_f c1 (br_t c2 (br_t rfl (br_f c1 (br_f (Int32.not_le.mpr c2) (br_f (by decide) (br_f (by decide) ⟨rfl, J⟩))))))
  obtain ⟨l0, hl, rfl⟩ := nI_of2 (M := 16) (n := 16) (by decide) c1 (Int32.not_lt.mp c2)
  have mem : ∀ e, e ∈ pr_xl h fa b p 32 ↔ e ∈ pr_xl pr_on s l q n := fun e => P.mem_iff
  refine pr_xde gx v1 hl (fun no => pr_yde hn v1 hl (fun _ => ⟨rfl, J⟩) (fun j m em hj hk => ?_)) (fun i hi z hk => pr_yde hn v1 hl (fun no => ?_) (fun j m em hj hkj => ?_))
  · exact absurd hk (no _ ((mem _).mpr (pr_at hj (pr_onN j))))
  · exact absurd hk (no _ ((mem _).mp (pr_at hi z)))
  · have ee : (fa i, b i, p i) = (s j, l j, q j) := pr_uni g.2 ((mem _).mp (pr_at hi z)) (pr_at hj (pr_onN j)) (hk.trans hkj.symm)
    subst em
    have r1 := pr_xlRem (fa := fa) (b := b) (p := p) hi z
    have r2 := pr_ylRem (s := s) (l := l) (q := q) hj
    rw [ee] at r1
    have rr := (List.perm_cons _).mp (r1.symm.trans (P.trans r2))
    refine ⟨?_, m, by omega, rfl, rr, (pr_gcons.mp (pr_gperm r2 g)).2⟩
    rw [rr.length_eq, pr_ylLen]
end
