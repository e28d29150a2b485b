theorem pr_ysize {l : Nat} (hl : l ≤ 16) {post : Int32 → Prop} (H : post (nI (2 ^ (16 - l)))) : wpY_sizeOf post (nI l) := by
  unfold wpY_sizeOf
  refine pk_loop (fun n i x => wY_sizeOf_4 post n x (nI i)) (fun i x => x = nI (2 ^ (i - l)) ∧ l ≤ i) 16 l 1 hl ⟨by rw [Nat.sub_self]; rfl, Nat.le_refl l⟩ ?_ ?_
  · intro n x ex
    rw [wY_sizeOf_4]
    rw [← ex.1] at H
    exact br_t (by decide) H
  · intro n i x hi ex K
    rw [wY_sizeOf_4]
    refine br_f (nI_ge (b := 16) hi (by decide)) (nm_e (nm_r (nI_1 i) (K _ ⟨?_, by have := ex.2; omega⟩)))
    have e : i + 1 - l = (i - l) + 1 := by have := ex.2; omega
    rw [ex.1, e, Nat.pow_succ, Nat.mul_comm, ← pk_mul]
    rfl
theorem pr_ystart (a : Int32) {l : Nat} (hl : l ≤ 16) {post : Int32 → Prop} (H : post (pr_k a l).1) : wpY_start post a (nI l) := by
  have hz := pr_pw (t := 16 - l) (by omega)
  have hA := pr_aLt a
  unfold wpY_start
  refine pr_ysize hl (br_f (nI_nle hz.1 (by omega)) ⟨nI_ne0 hz.1 (by omega), ?_⟩)
  rw [pr_aAnd, pk_div (by omega) hz.1 (by omega), pk_mul]
  exact H
section
variable {s l q : Nat → Int32} {n : Nat}
theorem pr_ycov (hn : n ≤ 32) (g : pr_good (pr_xl pr_on s l q n)) {i : Nat} (hi : i < n) {A : Nat} (hA : A < 65536) {post : Int32 → Prop} (f : pr_cv (s i, l i, q i) A → post 1) (k : ¬ pr_cv (s i, l i, q i) A → post 0) : wpY_covers post (nI n, s, l, q) (nI i) (nI A) := by
  have hv : vp_in (nI i) 32 := vp_in_nI (by omega) (by decide)
  have ok := g.1 _ (pr_at hi (pr_onN i))
  have e1 : s i = nI (pr_s (s i, l i, q i)) := ok.1
  have e2 : l i = nI (pr_l (s i, l i, q i)) := ok.2.1
  have hz := pr_zb (s i, l i, q i)
  have hs := ok.2.2.2.1
  unfold wpY_covers
  dsimp only
  rw [nI_clamp (n := i) (by omega)]
  refine ⟨hv, pk_lt A (pr_s (s i, l i, q i)) (fun c => k (fun d => ?_)) (fun c => ⟨hv, hv, ?_⟩) rfl e1⟩
  · have := d.1
    omega
  · have body : wpY_sizeOf (fun r_5 => ((s i + r_5 ≤ nI A → post 0) ∧ (¬ s i + r_5 ≤ nI A → post 1))) (nI (pr_l (s i, l i, q i))) := by
      refine pr_ysize ok.2.2.1 (pk_le (pr_s (s i, l i, q i) + pr_z (s i, l i, q i)) A (fun d => k (fun w => ?_)) (fun d => f ⟨c, d⟩) ?_ rfl)
      · have := w.2
        omega
      · rw [← nI_add, ← e1]
        rfl
    rw [← e2] at body
    exact body
theorem pr_ylong (hn : n ≤ 32) (g : pr_good (pr_xl pr_on s l q n)) {A : Nat} (hA : A < 65536) {m : Nat} (hm : m ≤ 17) {post : Int32 → Prop} (H : ∀ r, pr_ix pr_on s l q n r (pr_lg (pr_xl pr_on s l q n) A m) → post r) : wpY_longest post (nI n, s, l, q) (nI A) (nI m) := by
  unfold wpY_longest
  dsimp only
  refine loop_0 (fun k i r => wY_longest_5 post (nI A) (nI m) (nI n) s l q k r (nI i)) (fun i r => ∃ o, pr_ix pr_on s l q i r o ∧ pr_sp (pr_xl pr_on s l q i) A m o) n (-1) ⟨none, rfl, fun e he => nomatch he⟩ ?_ ?_
  · intro k r ⟨o, h1, h2⟩
    rw [wY_longest_5]
    refine br_t (nI_le (Nat.le_refl n) (by omega)) (H r ?_)
    rw [← pr_lgUn g h2]
    exact h1
  · intro k i r hi ⟨o, h1, h2⟩ K
    have hv : vp_in (nI i) 32 := vp_in_nI (by omega) (by decide)
    have ok := g.1 _ (pr_at (fa := s) (b := l) (p := q) hi (pr_onN i))
    have e2 : l i = nI (pr_l (s i, l i, q i)) := ok.2.1
    have hl : pr_l (s i, l i, q i) ≤ 16 := ok.2.2.1
    have skip : ¬ (pr_cv (s i, l i, q i) A ∧ pr_l (s i, l i, q i) < m) → wY_longest_5 post (nI A) (nI m) (nI n) s l q k r (nI (i + 1)) := fun c => K r ⟨o, pr_ixUp h1, by rw [pr_yl1]; exact pr_spSkip h2 c⟩
    rw [wY_longest_5]
    refine br_f (nI_ge hi (by omega)) (pr_ycov hn g hi hA (fun cv => br_f (by decide) ⟨hv, ?_⟩) (fun c => br_t rfl (nm_r (nI_1 i) (skip (fun d => c d.1)))))
    rw [nI_clamp (n := i) (by omega)]
    refine pk_le m (pr_l (s i, l i, q i)) (fun c => nm_r (nI_1 i) (skip (fun d => by omega))) (fun cl => ?_) rfl e2
    cases o with
    | none =>
      have e : r = -1 := h1
      refine br_t (by rw [e]; decide) (nm_r (nI_1 i) (K (nI i) ⟨some _, ⟨i, by omega, pr_onN i, rfl, rfl⟩, by rw [pr_yl1]; exact pr_spNew h2 ⟨cv, cl⟩⟩))
    | some x =>
      have h1' := h1
      obtain ⟨j, hj, zj, rfl, ej⟩ := h1
      have okj := g.1 _ (pr_at (fa := s) (b := l) (p := q) (n := n) (i := j) (by omega) zj)
      have e3 : l j = nI (pr_l (s j, l j, q j)) := okj.2.1
      have hlj : pr_l (s j, l j, q j) ≤ 16 := okj.2.2.1
      refine br_f (nI_pos (by omega)) ⟨hv, vp_in_nI (by omega) (by decide), ?_⟩
      rw [nI_clamp (n := j) (by omega)]
      have hle : l i ≤ l j ↔ pr_l (s i, l i, q i) ≤ pr_l x := by
        rw [ej]
        have k := nI_leI (a := pr_l (s i, l i, q i)) (b := pr_l (s j, l j, q j)) (by omega) (by omega)
        rw [← e2, ← e3] at k
        exact k
      refine br_c (fun w => nm_r (nI_1 i) (K (nI j) ⟨some x, pr_ixUp h1', ?_⟩)) (fun w => nm_r (nI_1 i) (K (nI i) ⟨some _, ⟨i, by omega, pr_onN i, rfl, rfl⟩, ?_⟩))
      · rw [pr_yl1]; exact pr_spKeep h2 (hle.mp w)
      · rw [pr_yl1]; exact pr_spRep h2 ⟨cv, cl⟩ (fun v => w (hle.mpr v))
theorem pr_yow (hn : n ≤ 32) (g : pr_good (pr_xl pr_on s l q n)) (a : Int32) {post : Int32 → Prop} (H : post (pr_ow (pr_xl pr_on s l q n) (pr_a a))) : wpY_owner post (nI n, s, l, q) a := by
  unfold wpY_owner
  dsimp only
  rw [pr_aAnd]
  refine pr_ylong (m := 17) hn g (pr_aLt a) (by omega) (fun r hr => ?_)
  unfold pr_ow at H
  cases ho : pr_lg (pr_xl pr_on s l q n) (pr_a a) 17 with
  | none =>
    rw [ho] at hr H
    have e : r = -1 := hr
    exact br_f (by rw [e]; decide) H
  | some e =>
    rw [ho] at hr H
    obtain ⟨i, hi, z, er, ee, hm, _, h0, hv, hcl⟩ := pr_ixIn hn hr
    refine br_t h0 ⟨hv, ?_⟩
    rw [hcl]
    rw [ee] at H
    exact H
theorem pr_yln (hn : n ≤ 32) (g : pr_good (pr_xl pr_on s l q n)) (a : Int32) {post : Int32 → Prop} (H : post (pr_ln (pr_xl pr_on s l q n) (pr_a a))) : wpY_length post (nI n, s, l, q) a := by
  unfold wpY_length
  dsimp only
  rw [pr_aAnd]
  refine pr_ylong (m := 17) hn g (pr_aLt a) (by omega) (fun r hr => ?_)
  unfold pr_ln at H
  cases ho : pr_lg (pr_xl pr_on s l q n) (pr_a a) 17 with
  | none =>
    rw [ho] at hr H
    have e : r = -1 := hr
    exact br_f (by rw [e]; decide) H
  | some e =>
    rw [ho] at hr H
    obtain ⟨i, hi, z, er, ee, hm, _, h0, hv, hcl⟩ := pr_ixIn hn hr
    refine br_t h0 ⟨hv, ?_⟩
    rw [hcl]
    rw [ee] at H
    exact H
/-- what an entry, or nothing, has to hand out -/
def pr_tot : Option pr_E → Int32
  | none => 65536
  | some e => nI (pr_z e)
theorem pr_yset (hn : n ≤ 32) (g : pr_good (pr_xl pr_on s l q n)) {r0 : Int32} {o0 : Option pr_E} (h0 : pr_ix pr_on s l q n r0 o0) {post : Int32 → Prop} (H : post (pr_tot o0 - pr_cd (pr_xl pr_on s l q n) o0)) : wpY_settled post (nI n, s, l, q) r0 := by
  have body : ∃ k, wY_settled_21 post r0 (nI n) s l q k (pr_tot o0) 0 := by
    unfold pr_cd at H
    generalize hf : (fun f => if pr_lg (pr_xl pr_on s l q n) (pr_s f) (pr_l f) = o0 then nI (pr_z f) else 0) = f at H
    refine loop_0 (fun k i x => wY_settled_21 post r0 (nI n) s l q k x (nI i)) (fun i x => x = pr_tot o0 - pr_sm f (pr_xl pr_on s l q i)) n (pr_tot o0) (Int32.sub_zero _).symm ?_ ?_
    · intro k x ex
      rw [wY_settled_21]
      rw [← ex] at H
      exact br_t (nI_le (Nat.le_refl n) (by omega)) H
    · intro k i x hi ex K
      have hv : vp_in (nI i) 32 := vp_in_nI (by omega) (by decide)
      have ok := g.1 _ (pr_at (fa := s) (b := l) (p := q) hi (pr_onN i))
      have e1 : s i = nI (pr_s (s i, l i, q i)) := ok.1
      have e2 : l i = nI (pr_l (s i, l i, q i)) := ok.2.1
      have hz := (pr_zb (s i, l i, q i)).1
      have hs := ok.2.2.2.1
      have hl := ok.2.2.1
      rw [wY_settled_21]
      refine br_f (nI_ge hi (by omega)) ⟨hv, hv, ?_⟩
      rw [nI_clamp (n := i) (by omega)]
      have hyl := fun P H => pr_ylong hn g (A := pr_s (s i, l i, q i)) (by omega) (m := pr_l (s i, l i, q i)) (by omega) (post := P) H
      rw [← e1, ← e2] at hyl
      refine hyl _ (fun r hr => ?_)
      have kk := pr_ixIff hn g hr h0
      refine br_c (fun c => ⟨hv, ?_⟩) (fun c => nm_r (nI_1 i) (K x ?_))
      · have hys := fun P H => pr_ysize (l := pr_l (s i, l i, q i)) hl (post := P) H
        rw [← e2] at hys
        refine hys _ (nm_e (nm_r (nI_1 i) (K _ ?_)))
        have fv : f (s i, l i, q i) = nI (2 ^ (16 - pr_l (s i, l i, q i))) := by
          rw [← hf]
          exact if_pos (kk.mp c)
        rw [← pr_st1 (f := f) (pr_onN i) rfl fv, ← Int32.sub_sub, ← ex]
      · have fv : f (s i, l i, q i) = 0 := by
          rw [← hf]
          exact if_neg (fun d => c (kk.mpr d))
        rw [← pr_st2 (f := f) (pr_onN i) rfl fv]
        exact ex
  unfold wpY_settled
  dsimp only
  cases o0 with
  | none =>
    have e : r0 = -1 := h0
    exact br_f (by rw [e]; decide) body
  | some e =>
    obtain ⟨i, hi, z, er, ee, hm, _, hp, hv, hcl⟩ := pr_ixIn hn h0
    have ok := g.1 _ (pr_at (fa := s) (b := l) (p := q) hi (pr_onN i))
    have e2 : l i = nI (pr_l (s i, l i, q i)) := ok.2.1
    refine br_t hp ⟨hv, ?_⟩
    rw [hcl]
    have hys := fun P H => pr_ysize (l := pr_l (s i, l i, q i)) ok.2.2.1 (post := P) H
    rw [← e2] at hys
    refine hys _ ?_
    rw [ee] at body
    exact body
end
