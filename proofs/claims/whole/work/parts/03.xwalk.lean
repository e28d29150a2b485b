/-- an address: the low sixteen bits -/
def pr_a (a : Int32) : Nat := a.toBitVec.toNat % 65536
theorem pr_aLt (a : Int32) : pr_a a < 65536 := Nat.mod_lt _ (by decide)
theorem pr_aAnd (a : Int32) : a &&& 65535 = nI (pr_a a) := pk_and a 16 (by decide)
theorem pr_aN {s : Nat} (h : s < 65536) : pr_a (nI s) = s := by
  unfold pr_a
  rw [pk_tn (by omega), Nat.mod_eq_of_lt h]
theorem pr_xor0 {x y : Nat} : x ^^^ y = 0 ↔ x = y := by
  constructor
  · intro h
    apply Nat.eq_of_testBit_eq
    intro i
    have k := congrArg (fun n => n.testBit i) h
    simp only [Nat.testBit_xor, Nat.zero_testBit] at k
    cases hx : x.testBit i <;> cases hy : y.testBit i <;> simp [hx, hy] at k <;> rfl
  · intro h; subst h; exact Nat.xor_self x
theorem pr_16 {l : Nat} (hl : l ≤ 16) : (16 : Int32) - nI l = nI (16 - l) := pk_sub (a := 16) hl
theorem pr_cvB (a : Int32) {s l : Nat} (hs : s < 65536) (hl : l ≤ 16) (hm : s % 2 ^ (16 - l) = 0) : (((a ^^^ nI s) &&& 65535) >>> ((16 - nI l) &&& 31)) = 0 ↔ (s ≤ pr_a a ∧ pr_a a < s + 2 ^ (16 - l)) := by
  have ht : 16 - l ≤ 16 := by omega
  rw [pr_16 hl]
  generalize 16 - l = t at hm ht
  have hz := (pr_pw ht).1
  obtain ⟨w, hw, rfl⟩ := wb_of32 a
  rw [pr_cvI hz hm, nx_xor, nx_mod, pk_shrN (Nat.lt_of_lt_of_le (Nat.mod_lt _ (by decide)) (by decide)) (nI t &&& 31) t (s_l t (by omega))]
  have ea : pr_a (nI w) = w % 65536 := by unfold pr_a; rw [pk_tn hw]
  have e1 : (w ^^^ s) % 65536 / 2 ^ t = (w % 65536 / 2 ^ t) ^^^ (s / 2 ^ t) := by
    have k := Nat.xor_mod_two_pow (a := w) (b := s) (n := 16)
    rw [show (2 : Nat) ^ 16 = 65536 from rfl, Nat.mod_eq_of_lt hs] at k
    rw [k, Nat.xor_div_two_pow]
  have hb : (w ^^^ s) % 65536 / 2 ^ t < 2 ^ 31 := Nat.lt_of_le_of_lt (Nat.div_le_self _ _) (Nat.lt_of_lt_of_le (Nat.mod_lt _ (by decide)) (by decide))
  rw [← nI_0, nI_eq hb (by decide), e1, pr_xor0, ea]
  have e2 : s / 2 ^ t * 2 ^ t = s := Nat.div_mul_cancel (Nat.dvd_of_mod_eq_zero hm)
  constructor
  · intro h; rw [h, e2]
  · intro h
    apply Nat.eq_of_mul_eq_mul_right hz
    rw [h, e2]
theorem pr_first (a : Int32) {l : Nat} (hl : l ≤ 16) : a &&& (((65535 : Int32) <<< ((16 - nI l) &&& 31)) &&& 65535) = nI (pr_a a / 2 ^ (16 - l) * 2 ^ (16 - l)) := by
  have ht : 16 - l ≤ 16 := by omega
  rw [pr_16 hl]
  generalize 16 - l = t at ht
  have hz := (pr_pw ht).2
  obtain ⟨w, hw, rfl⟩ := wb_of32 a
  have e1 : (65535 : Int32) <<< (nI t &&& 31) = nI (65535 * 2 ^ t) := pk_shlN (n := 65535) (nI t &&& 31) t (s_l t (by omega)) (Nat.lt_of_le_of_lt (Nat.mul_le_mul_left 65535 hz) (by decide))
  rw [e1, nx_mod, nx_and]
  have ea : pr_a (nI w) = w % 65536 := by unfold pr_a; rw [pk_tn hw]
  rw [ea]
  congr 1
  apply Nat.eq_of_testBit_eq
  intro i
  rw [show (65536 : Nat) = 2 ^ 16 from rfl, show (65535 : Nat) = 2 ^ 16 - 1 from rfl]
  rw [Nat.testBit_and, Nat.testBit_mod_two_pow, Nat.testBit_mul_two_pow, Nat.testBit_mul_two_pow, Nat.testBit_div_two_pow, Nat.testBit_mod_two_pow, Nat.testBit_two_pow_sub_one]
  by_cases h1 : t ≤ i
  · rw [show i - t + t = i from by omega]
    by_cases h2 : i < 16
    · have h3 : i - t < 16 := by omega
      simp [h1, h2, h3]
    · simp [h2]
  · simp [h1]
theorem pr_lt1 {m l : Nat} (hm : m ≤ 17) (hl : l ≤ 16) : nI m - 1 < nI l ↔ m ≤ l := by
  cases m with
  | zero =>
    have : nI 0 - 1 < nI l := by
      rw [Int32.lt_iff_toInt_lt, nI_toInt (by omega)]
      have : (nI 0 - 1).toInt = -1 := by decide
      omega
    exact ⟨fun _ => Nat.zero_le _, fun _ => this⟩
  | succ m =>
    rw [nI_pred, nI_ltI (by omega) (by omega)]
    exact Iff.rfl
section
variable {h fa b p : Nat → Int32}
theorem pr_st0 {f : pr_E → Int32} {i : Nat} {x : Int32} (z : h i = 0) (e : x = pr_sm f (pr_xl h fa b p i)) : x = pr_sm f (pr_xl h fa b p (i + 1)) := by
  rw [pr_xl0 z]; exact e
theorem pr_st1 {f : pr_E → Int32} {i : Nat} {x v : Int32} (z : ¬ h i = 0) (e : x = pr_sm f (pr_xl h fa b p i)) (hv : f (fa i, b i, p i) = v) : x + v = pr_sm f (pr_xl h fa b p (i + 1)) := by
  rw [pr_xl1 z, e, ← hv]; rfl
theorem pr_st2 {f : pr_E → Int32} {i : Nat} {x : Int32} (z : ¬ h i = 0) (e : x = pr_sm f (pr_xl h fa b p i)) (hv : f (fa i, b i, p i) = 0) : x = pr_sm f (pr_xl h fa b p (i + 1)) := by
  have k := pr_st1 z e hv
  rw [Int32.add_zero] at k
  exact k
theorem pr_at {n i : Nat} (hi : i < n) (z : ¬ h i = 0) : (fa i, b i, p i) ∈ pr_xl h fa b p n := pr_xlMem.mpr ⟨i, hi, z, rfl⟩
theorem pr_xcov {i : Nat} (hi : i < 32) (a : Int32) {post : Int32 → Prop} (H : ¬ h i = 0 → pr_ok (fa i, b i, p i)) (f : ¬ h i = 0 → pr_cv (fa i, b i, p i) (pr_a a) → post 1) (g : ¬ (¬ h i = 0 ∧ pr_cv (fa i, b i, p i) (pr_a a)) → post 0) : wpX_covers post (h, fa, b, p) (nI i) a := by
  have ci : (nI i).toNatClampNeg = i := nI_clamp (by omega)
  have hv : vp_in (nI i) 32 := vp_in_nI hi (by decide)
  unfold wpX_covers
  dsimp only
  rw [ci]
  refine ⟨hv, fun x ex => ⟨hv, br_c (fun z => g (fun c => c.1 z)) (fun z => ⟨hv, ?_⟩)⟩⟩
  have ok := H z
  have e1 : fa i = nI (pr_s (fa i, b i, p i)) := ok.1
  have e2 : b i = nI (pr_l (fa i, b i, p i)) := ok.2.1
  have hz := (pr_zb (fa i, b i, p i)).1
  have k := pr_cvB a (s := pr_s (fa i, b i, p i)) (l := pr_l (fa i, b i, p i)) (by have := ok.2.2.2.1; omega) ok.2.2.1 ok.2.2.2.2
  rw [← e1, ← e2, ← ex] at k
  exact ⟨fun c => f z (k.mp c), fun c => g (fun d => c (k.mpr d.2))⟩
theorem pr_xlong (g : pr_good (pr_xl h fa b p 32)) (a mI : Int32) (m : Nat) (hm : m ≤ 17) (em : mI = nI m - 1) {post : Int32 → Prop} (H : ∀ r, pr_ix h fa b p 32 r (pr_lg (pr_xl h fa b p 32) (pr_a a) m) → post r) : wpX_longestCover post (h, fa, b, p) a mI := by
  unfold wpX_longestCover
  dsimp only
  refine loop_0 (fun n i r => wX_longestCover_5 post a mI h fa b p n r (nI i)) (fun i r => ∃ o, pr_ix h fa b p i r o ∧ pr_sp (pr_xl h fa b p i) (pr_a a) m o) 32 (-1) ⟨none, rfl, fun e he => nomatch he⟩ ?_ ?_
  · intro n r ⟨o, h1, h2⟩
    rw [wX_longestCover_5]
    refine br_t (by decide) (H r ?_)
    rw [← pr_lgUn g h2]
    exact h1
  · intro n i r hi ⟨o, h1, h2⟩ K
    have hv : vp_in (nI i) 32 := vp_in_nI hi (by decide)
    rw [wX_longestCover_5]
    refine br_f (nI_ge (b := 32) hi (by decide)) ⟨hv, ?_⟩
    rw [nI_clamp (n := i) (by omega)]
    by_cases z : h i = 0
    · have K1 := K r ⟨o, pr_ixUp h1, by rw [pr_xl0 z]; exact h2⟩
      exact br_c (fun _ => nm_r (nI_1 i) K1) (fun _ => pr_xcov hi a (fun c => absurd z c) (fun c => absurd z c) (fun _ => br_t rfl (nm_r (nI_1 i) K1)))
    · have ok := g.1 _ (pr_at (fa := fa) (b := b) (p := p) hi z)
      have e2 : b i = nI (pr_l (fa i, b i, p i)) := ok.2.1
      have hl : pr_l (fa i, b i, p i) ≤ 16 := ok.2.2.1
      have skip : ¬ (pr_cv (fa i, b i, p i) (pr_a a) ∧ pr_l (fa i, b i, p i) < m) → wX_longestCover_5 post a mI h fa b p n r (nI (i + 1)) := fun c => K r ⟨o, pr_ixUp h1, by rw [pr_xl1 z]; exact pr_spSkip h2 c⟩
      have hc : mI < b i ↔ m ≤ pr_l (fa i, b i, p i) := by
        have k := pr_lt1 hm hl
        rw [← em, ← e2] at k
        exact k
      refine br_c (fun c => nm_r (nI_1 i) (skip (fun d => ?_))) (fun c => pr_xcov hi a (fun _ => ok) (fun _ cv => br_f (by decide) ?_) (fun d => br_t rfl (nm_r (nI_1 i) (skip (fun q => d ⟨z, q.1⟩)))))
      · have := hc.mp c
        omega
      · have cl : pr_l (fa i, b i, p i) < m := by
          have : ¬ m ≤ pr_l (fa i, b i, p i) := fun q => c (hc.mpr q)
          omega
        cases o with
        | none =>
          have e : r = -1 := h1
          exact br_t e (nm_r (nI_1 i) (K (nI i) ⟨some _, ⟨i, by omega, z, rfl, rfl⟩, by rw [pr_xl1 z]; exact pr_spNew h2 ⟨cv, cl⟩⟩))
        | some x =>
          have h1' := h1
          obtain ⟨j, hj, zj, rfl, ej⟩ := h1
          have okj := g.1 _ (pr_at (fa := fa) (b := b) (p := p) (n := 32) (i := j) (by omega) zj)
          have e3 : b j = nI (pr_l (fa j, b j, p j)) := okj.2.1
          have hlj : pr_l (fa j, b j, p j) ≤ 16 := okj.2.2.1
          refine br_f (fun c => pr_m1 (i := j) (by omega) c.symm) ⟨hv, vp_in_nI (by omega) (by decide), ?_⟩
          rw [nI_clamp (n := j) (by omega)]
          have hle : b i ≤ b j ↔ pr_l (fa i, b i, p i) ≤ pr_l x := by
            rw [ej]
            have k := nI_leI (a := pr_l (fa i, b i, p i)) (b := pr_l (fa j, b j, p j)) (by omega) (by omega)
            rw [← e2, ← e3] at k
            exact k
          refine br_c (fun q => nm_r (nI_1 i) (K (nI j) ⟨some x, pr_ixUp h1', ?_⟩)) (fun q => nm_r (nI_1 i) (K (nI i) ⟨some _, ⟨i, by omega, z, rfl, rfl⟩, ?_⟩))
          · rw [pr_xl1 z]; exact pr_spKeep h2 (hle.mp q)
          · rw [pr_xl1 z]; exact pr_spRep h2 ⟨cv, cl⟩ (fun w => q (hle.mpr w))
theorem pr_ixIn {n : Nat} (hn : n ≤ 32) {r : Int32} {e : pr_E} (H : pr_ix h fa b p n r (some e)) : ∃ i, i < n ∧ ¬ h i = 0 ∧ r = nI i ∧ e = (fa i, b i, p i) ∧ ¬ r = -1 ∧ ¬ r < 0 ∧ 0 ≤ r ∧ vp_in r 32 ∧ r.toNatClampNeg = i := by
  obtain ⟨i, hi, z, rfl, e⟩ := H
  exact ⟨i, hi, z, rfl, e, fun c => pr_m1 (i := i) (by omega) c.symm, nI_pos (by omega), nI_pos' (by omega), vp_in_nI (by omega) (by decide), nI_clamp (by omega)⟩
theorem pr_xow (g : pr_good (pr_xl h fa b p 32)) (a : Int32) {post : Int32 → Prop} (H : post (pr_ow (pr_xl h fa b p 32) (pr_a a))) : wpX_owner post (h, fa, b, p) a := by
  unfold wpX_owner
  dsimp only
  refine pr_xlong g a 16 17 (by omega) (by decide) (fun r hr => ?_)
  unfold pr_ow at H
  cases ho : pr_lg (pr_xl h fa b p 32) (pr_a a) 17 with
  | none =>
    rw [ho] at hr H
    exact br_t hr H
  | some e =>
    rw [ho] at hr H
    obtain ⟨i, hi, z, er, ee, hm, _, _, hv, hcl⟩ := pr_ixIn (by omega) hr
    refine br_f hm ⟨hv, ?_⟩
    rw [hcl]
    rw [ee] at H
    exact H
theorem pr_xln (g : pr_good (pr_xl h fa b p 32)) (a : Int32) {post : Int32 → Prop} (H : post (pr_ln (pr_xl h fa b p 32) (pr_a a))) : wpX_length post (h, fa, b, p) a := by
  unfold wpX_length
  dsimp only
  refine pr_xlong g a 16 17 (by omega) (by decide) (fun r hr => ?_)
  unfold pr_ln at H
  cases ho : pr_lg (pr_xl h fa b p 32) (pr_a a) 17 with
  | none =>
    rw [ho] at hr H
    exact br_t hr H
  | some e =>
    rw [ho] at hr H
    obtain ⟨i, hi, z, er, ee, hm, _, _, hv, hcl⟩ := pr_ixIn (by omega) hr
    refine br_f hm ⟨hv, ?_⟩
    rw [hcl]
    rw [ee] at H
    exact H
theorem pr_xenc (g : pr_good (pr_xl h fa b p 32)) {i : Nat} (hi : i < 32) (z : ¬ h i = 0) {post : Int32 → Prop} (H : ∀ r, pr_ix h fa b p 32 r (pr_lg (pr_xl h fa b p 32) (pr_s (fa i, b i, p i)) (pr_l (fa i, b i, p i))) → post r) : wpX_enclosingSlot post (h, fa, b, p) (nI i) := by
  have hv : vp_in (nI i) 32 := vp_in_nI hi (by decide)
  have ok := g.1 _ (pr_at (fa := fa) (b := b) (p := p) hi z)
  have e1 : fa i = nI (pr_s (fa i, b i, p i)) := ok.1
  have e2 : b i = nI (pr_l (fa i, b i, p i)) := ok.2.1
  have hz := (pr_zb (fa i, b i, p i)).1
  have hs : pr_s (fa i, b i, p i) < 65536 := by have := ok.2.2.2.1; omega
  have ea : pr_a (fa i) = pr_s (fa i, b i, p i) := by
    have k := pr_aN hs
    rw [← e1] at k
    exact k
  unfold wpX_enclosingSlot
  dsimp only
  rw [nI_clamp (n := i) (by omega)]
  refine ⟨hv, hv, pr_xlong g (fa i) (b i - 1) (pr_l (fa i, b i, p i)) (by have := ok.2.2.1; omega) (by rw [← e2]) (fun r hr => H r ?_)⟩
  rw [ea] at hr
  exact hr
theorem pr_xsize (g : pr_good (pr_xl h fa b p 32)) {i : Nat} (hi : i < 32) (z : ¬ h i = 0) {post : Int32 → Prop} (H : post (nI (pr_z (fa i, b i, p i)))) : wpX_sizeOf post (h, fa, b, p) (nI i) := by
  have hv : vp_in (nI i) 32 := vp_in_nI hi (by decide)
  have ok := g.1 _ (pr_at (fa := fa) (b := b) (p := p) hi z)
  have e2 : b i = nI (pr_l (fa i, b i, p i)) := ok.2.1
  have hl : pr_l (fa i, b i, p i) ≤ 16 := ok.2.2.1
  have hz := (pr_zb (fa i, b i, p i)).2
  unfold pr_z at hz H
  unfold wpX_sizeOf
  dsimp only
  rw [nI_clamp (n := i) (by omega)]
  refine ⟨hv, ?_⟩
  have k : (1 : Int32) <<< ((16 - b i) &&& 31) = nI (1 * 2 ^ (16 - pr_l (fa i, b i, p i))) := by
    have k1 := pr_16 hl
    rw [← e2] at k1
    rw [k1]
    exact pk_shlN (n := 1) _ _ (s_l _ (by omega)) (by omega)
  rw [k, Nat.one_mul]
  exact H
theorem pr_xcd (g : pr_good (pr_xl h fa b p 32)) {r0 : Int32} {o0 : Option pr_E} (h0 : pr_ix h fa b p 32 r0 o0) {post : Int32 → Prop} (H : post (pr_cd (pr_xl h fa b p 32) o0)) : wpX_coveredDirectlyInside post (h, fa, b, p) r0 := by
  unfold wpX_coveredDirectlyInside
  dsimp only
  unfold pr_cd at H
  generalize hf : (fun f => if pr_lg (pr_xl h fa b p 32) (pr_s f) (pr_l f) = o0 then nI (pr_z f) else 0) = f at H
  refine loop_0 (fun n i x => wX_coveredDirectlyInside_4 post r0 h fa b p n x (nI i)) (fun i x => x = pr_sm f (pr_xl h fa b p i)) 32 0 rfl ?_ ?_
  · intro n x ex
    rw [wX_coveredDirectlyInside_4]
    rw [← ex] at H
    exact br_t (by decide) H
  · intro n i x hi ex K
    have hv : vp_in (nI i) 32 := vp_in_nI hi (by decide)
    rw [wX_coveredDirectlyInside_4]
    refine br_f (nI_ge (b := 32) hi (by decide)) ⟨hv, ?_⟩
    rw [nI_clamp (n := i) (by omega)]
    refine br_c (fun z => nm_r (nI_1 i) (K x (pr_st0 z ex))) (fun z => pr_xenc g hi z (fun r hr => ?_))
    have k := pr_ixIff (by omega) g hr h0
    refine br_c (fun c => pr_xsize g hi z (nm_e (nm_r (nI_1 i) (K _ (pr_st1 z ex ?_))))) (fun c => nm_r (nI_1 i) (K x (pr_st2 z ex ?_)))
    · rw [← hf]; exact if_pos (k.mp c)
    · rw [← hf]; exact if_neg (fun d => c (k.mpr d))
end
