section
variable {h fa b p : Nat → Int32}
theorem pr_xent {i : Nat} (hi : i < 32) (v : Int32) {post : Int32 → Prop} (f : ¬ h i = 0 → p i = v → post 1) (g : h i = 0 → post 0) (g' : ¬ h i = 0 → ¬ p i = v → post 0) : wpX_isEntryOf post (h, fa, b, p) (nI i) v := by
  have hv : vp_in (nI i) 32 := vp_in_nI hi (by decide)
  unfold wpX_isEntryOf
  dsimp only
  rw [nI_clamp (n := i) (by omega)]
  exact ⟨hv, br_c g (fun z => ⟨hv, br_c (f z) (g' z)⟩)⟩
theorem pr_xheld {post : Int32 → Prop} (H : post (nI (pr_xl h fa b p 32).length)) : wpX_heldEntries post (h, fa, b, p) := by
  unfold wpX_heldEntries
  dsimp only
  rw [← pr_smLen] at H
  refine loop_0 (fun n i x => wX_heldEntries_4 post h fa b p n x (nI i)) (fun i x => x = pr_sm (fun _ => 1) (pr_xl h fa b p i)) 32 0 rfl ?_ ?_
  · intro n x ex
    rw [wX_heldEntries_4]
    rw [← ex] at H
    exact br_t (by decide) H
  · intro n i x hi ex K
    have hv : vp_in (nI i) 32 := vp_in_nI hi (by decide)
    rw [wX_heldEntries_4]
    refine br_f (nI_ge (b := 32) hi (by decide)) ⟨hv, ?_⟩
    rw [nI_clamp (n := i) (by omega)]
    exact br_c (fun z => nm_r (nI_1 i) (K x (pr_st0 z ex))) (fun z => nm_e (nm_r (nI_1 i) (K _ (pr_st1 z ex rfl))))
theorem pr_xfree {post : Int32 → Prop} (f : (∀ i, i < 32 → ¬ h i = 0) → post (-1)) (g : ∀ i, i < 32 → h i = 0 → post (nI i)) : wpX_freeSlot post (h, fa, b, p) := by
  unfold wpX_freeSlot
  dsimp only
  refine loop_0 (fun n i (_ : Unit) => wX_freeSlot_2 post h fa b p n (nI i)) (fun i _ => ∀ j, j < i → ¬ h j = 0) 32 () (fun j hj => absurd hj (Nat.not_lt_zero j)) ?_ ?_
  · intro n x ex
    rw [wX_freeSlot_2]
    exact br_t (by decide) (f ex)
  · intro n i x hi ex K
    have hv : vp_in (nI i) 32 := vp_in_nI hi (by decide)
    rw [wX_freeSlot_2]
    refine br_f (nI_ge (b := 32) hi (by decide)) ⟨hv, ?_⟩
    rw [nI_clamp (n := i) (by omega)]
    exact br_c (fun z => g i hi z) (fun z => nm_r (nI_1 i) (K () (lt_s ex z)))
/-- the key that (address, bits) names -/
def pr_k (a : Int32) (l : Nat) : Int32 × Int32 := (nI (pr_a a / 2 ^ (16 - l) * 2 ^ (16 - l)), nI l)
theorem pr_kOk (a : Int32) {l : Nat} (hl : l ≤ 16) (v : Int32) : pr_ok ((pr_k a l).1, (pr_k a l).2, v) ∧ pr_key ((pr_k a l).1, (pr_k a l).2, v) = pr_k a l := by
  refine ⟨?_, rfl⟩
  have hA := pr_aLt a
  have hz := pr_pw (t := 16 - l) (by omega)
  have h1 : pr_a a / 2 ^ (16 - l) * 2 ^ (16 - l) ≤ pr_a a := Nat.div_mul_le_self _ _
  have es : pr_s ((pr_k a l).1, (pr_k a l).2, v) = pr_a a / 2 ^ (16 - l) * 2 ^ (16 - l) := nI_clamp (by omega)
  have el : pr_l ((pr_k a l).1, (pr_k a l).2, v) = l := nI_clamp (by omega)
  have ez : pr_z ((pr_k a l).1, (pr_k a l).2, v) = 2 ^ (16 - l) := by unfold pr_z; rw [el]
  unfold pr_ok
  rw [es, el, ez]
  refine ⟨rfl, rfl, hl, ?_, Nat.mul_mod_left _ _⟩
  have hd : 2 ^ (16 - l) * 2 ^ l = 65536 := by
    rw [← Nat.pow_add, show 16 - l + l = 16 from by omega]
  have hq : pr_a a / 2 ^ (16 - l) < 2 ^ l := by
    apply Nat.div_lt_of_lt_mul
    omega
  have k := Nat.mul_le_mul_right (2 ^ (16 - l)) (Nat.succ_le_of_lt hq)
  rw [Nat.succ_mul, Nat.mul_comm (2 ^ l), hd] at k
  exact k
theorem pr_kCv {e : pr_E} (ok : pr_ok e) (a : Int32) {l : Nat} (hl : l ≤ 16) (eb : e.2.1 = nI l) : pr_cv e (pr_a a) ↔ pr_key e = pr_k a l := by
  have e1 : pr_l e = l := by
    unfold pr_l
    rw [eb]
    exact nI_clamp (by omega)
  have k := pr_cvI (a := pr_a a) (pr_zb e).1 ok.2.2.2.2
  have hz : pr_z e = 2 ^ (16 - l) := by unfold pr_z; rw [e1]
  have h1 : pr_a a / 2 ^ (16 - l) * 2 ^ (16 - l) ≤ pr_a a := Nat.div_mul_le_self _ _
  have hA := pr_aLt a
  have hs := ok.2.2.2.1
  refine k.trans ?_
  unfold pr_key pr_k
  rw [eb, hz, ok.1]
  constructor
  · intro q; rw [q]
  · intro q
    have q1 := congrArg Prod.fst q
    exact ((nI_eq (by omega) (by omega)).mp q1).symm
theorem pr_xfind (g : pr_good (pr_xl h fa b p 32)) (a : Int32) {l : Nat} (hl : l ≤ 16) {post : Int32 → Prop} (H0 : (∀ e, e ∈ pr_xl h fa b p 32 → pr_key e ≠ pr_k a l) → post (-1)) (H1 : ∀ i, i < 32 → ¬ h i = 0 → pr_key (fa i, b i, p i) = pr_k a l → post (nI i)) : wpX_slotOfPrefix post (h, fa, b, p) a (nI l) := by
  unfold wpX_slotOfPrefix
  dsimp only
  refine loop_0 (fun n i (_ : Unit) => wX_slotOfPrefix_2 post a (nI l) h fa b p n (nI i)) (fun i _ => ∀ e, e ∈ pr_xl h fa b p i → pr_key e ≠ pr_k a l) 32 () (fun e he => nomatch he) ?_ ?_
  · intro n x ex
    rw [wX_slotOfPrefix_2]
    exact br_t (by decide) (H0 ex)
  · intro n i x hi ex K
    have hv : vp_in (nI i) 32 := vp_in_nI hi (by decide)
    rw [wX_slotOfPrefix_2]
    refine br_f (nI_ge (b := 32) hi (by decide)) ⟨hv, ?_⟩
    rw [nI_clamp (n := i) (by omega)]
    have next : (¬ h i = 0 → pr_key (fa i, b i, p i) ≠ pr_k a l) → wX_slotOfPrefix_2 post a (nI l) h fa b p n (nI (i + 1)) := by
      intro hn
      refine K () (fun e he => ?_)
      by_cases z : h i = 0
      · rw [pr_xl0 z] at he
        exact ex e he
      · rw [pr_xl1 z] at he
        rcases List.mem_cons.mp he with rfl | he'
        · exact hn z
        · exact ex e he'
    refine br_c (fun c => pr_xcov hi a (fun z => g.1 _ (pr_at hi z)) (fun z cv => br_f (by decide) (H1 i hi z ?_)) (fun d => br_t rfl (nm_r (nI_1 i) (next (fun z q => d ⟨z, ?_⟩))))) (fun c => nm_r (nI_1 i) (next (fun z q => c ?_)))
    · exact (pr_kCv (g.1 _ (pr_at hi z)) a hl c).mp cv
    · exact (pr_kCv (g.1 _ (pr_at hi z)) a hl c).mpr q
    · exact congrArg Prod.snd q
theorem pr_xentries {post : Int32 → Prop} (v : Int32) (H : post (pr_sm (fun e => if e.2.2 = v then 1 else 0) (pr_xl h fa b p 32))) : ∃ n, wX_entries_13 post v h fa b p n 0 0 := by
  refine loop_0 (fun n i x => wX_entries_13 post v h fa b p n x (nI i)) (fun i x => x = pr_sm (fun e => if e.2.2 = v then 1 else 0) (pr_xl h fa b p i)) 32 0 rfl ?_ ?_
  · intro n x ex
    rw [wX_entries_13]
    rw [← ex] at H
    exact br_t (by decide) H
  · intro n i x hi ex K
    rw [wX_entries_13]
    refine br_f (nI_ge (b := 32) hi (by decide)) (pr_xent hi v (fun z c => br_f (by decide) (nm_e (nm_r (nI_1 i) (K _ (pr_st1 z ex (if_pos c)))))) (fun z => br_t rfl (nm_r (nI_1 i) (K x (pr_st0 z ex)))) (fun z c => br_t rfl (nm_r (nI_1 i) (K x (pr_st2 z ex (if_neg c))))))
theorem pr_xowned (g : pr_good (pr_xl h fa b p 32)) {post : Int32 → Prop} (v : Int32) (H : post (pr_sm (pr_of (pr_xl h fa b p 32) v) (pr_xl h fa b p 32))) : ∃ n, wX_owned_28 post v h fa b p n 0 0 := by
  generalize hf : pr_of (pr_xl h fa b p 32) v = f at H
  refine loop_0 (fun n i x => wX_owned_28 post v h fa b p n x (nI i)) (fun i x => x = pr_sm f (pr_xl h fa b p i)) 32 0 rfl ?_ ?_
  · intro n x ex
    rw [wX_owned_28]
    rw [← ex] at H
    exact br_t (by decide) H
  · intro n i x hi ex K
    rw [wX_owned_28]
    refine br_f (nI_ge (b := 32) hi (by decide)) (pr_xent hi v (fun z c => br_f (by decide) (pr_xsize g hi z (pr_xcd g (o0 := some (fa i, b i, p i)) ⟨i, hi, z, rfl, rfl⟩ (nm_e (nm_r (nI_1 i) (K _ (pr_st1 z ex ?_))))))) (fun z => br_t rfl (nm_r (nI_1 i) (K x (pr_st0 z ex)))) (fun z c => br_t rfl (nm_r (nI_1 i) (K x (pr_st2 z ex ?_)))))
    · rw [← hf]; exact if_pos c
    · rw [← hf]; exact if_neg c
theorem pr_xisU (g : pr_good (pr_xl h fa b p 32)) {i : Nat} (hi : i < 32) (z : ¬ h i = 0) {post : Int32 → Prop} (H : post (pr_uf (pr_xl h fa b p 32) (fa i, b i, p i))) : wpX_isUseless post (h, fa, b, p) (nI i) := by
  have hv : vp_in (nI i) 32 := vp_in_nI hi (by decide)
  unfold wpX_isUseless
  dsimp only
  refine pr_xenc g hi z (fun r hr => ?_)
  have rest : ¬ (pr_lg (pr_xl h fa b p 32) (pr_s (fa i, b i, p i)) (pr_l (fa i, b i, p i))).map (fun o => o.2.2) = some (p i) → wX_isUseless_28 post (nI i) h fa b p := by
    intro hn
    unfold wX_isUseless_28
    refine pr_xcd g (o0 := some (fa i, b i, p i)) ⟨i, hi, z, rfl, rfl⟩ (pr_xsize g hi z (br_c (fun c => ?_) (fun c => ?_)))
    · have k : pr_uf (pr_xl h fa b p 32) (fa i, b i, p i) = 1 := if_pos (.inl c)
      rw [k] at H
      exact H
    · have k : pr_uf (pr_xl h fa b p 32) (fa i, b i, p i) = 0 := if_neg (fun d => d.elim c hn)
      rw [k] at H
      exact H
  cases ho : pr_lg (pr_xl h fa b p 32) (pr_s (fa i, b i, p i)) (pr_l (fa i, b i, p i)) with
  | none =>
    rw [ho] at hr rest
    exact br_t hr (rest (fun c => nomatch c))
  | some e =>
    rw [ho] at hr rest
    obtain ⟨j, hj, zj, er, ee, hm, _, _, hvj, hcl⟩ := pr_ixIn (by omega) hr
    refine br_f hm ⟨hvj, hv, ?_⟩
    rw [hcl, nI_clamp (n := i) (by omega)]
    have ep : e.2.2 = p j := by rw [ee]
    refine br_c (fun c => ?_) (fun c => rest (fun d => c ?_))
    · have k : pr_uf (pr_xl h fa b p 32) (fa i, b i, p i) = 1 := if_pos (.inr (by rw [ho, ← c, ← ep]; rfl))
      rw [k] at H
      exact H
    · rw [← ep]
      exact Option.some.inj d
theorem pr_xuseless (g : pr_good (pr_xl h fa b p 32)) {post : Int32 → Prop} (H : post (pr_sm (pr_uf (pr_xl h fa b p 32)) (pr_xl h fa b p 32))) : wpX_useless post (h, fa, b, p) := by
  unfold wpX_useless
  dsimp only
  generalize hf : pr_uf (pr_xl h fa b p 32) = f at H
  refine loop_0 (fun n i x => wX_useless_4 post h fa b p n x (nI i)) (fun i x => x = pr_sm f (pr_xl h fa b p i)) 32 0 rfl ?_ ?_
  · intro n x ex
    rw [wX_useless_4]
    rw [← ex] at H
    exact br_t (by decide) H
  · intro n i x hi ex K
    have hv : vp_in (nI i) 32 := vp_in_nI hi (by decide)
    rw [wX_useless_4]
    refine br_f (nI_ge (b := 32) hi (by decide)) ⟨hv, ?_⟩
    rw [nI_clamp (n := i) (by omega)]
    refine br_c (fun z => nm_r (nI_1 i) (K x (pr_st0 z ex))) (fun z => pr_xisU g hi z ?_)
    rw [hf]
    refine br_c (fun c => nm_r (nI_1 i) (K x (pr_st2 z ex c))) (fun c => nm_e (nm_r (nI_1 i) (K _ (pr_st1 z ex ?_))))
    rw [← hf] at c ⊢
    unfold pr_uf at c ⊢
    by_cases d : pr_cd (pr_xl h fa b p 32) (some (fa i, b i, p i)) = nI (pr_z (fa i, b i, p i)) ∨ (pr_lg (pr_xl h fa b p 32) (pr_s (fa i, b i, p i)) (pr_l (fa i, b i, p i))).map (fun o => o.2.2) = some (fa i, b i, p i).2.2
    · exact if_pos d
    · rw [if_neg d] at c
      exact absurd rfl c
theorem pr_nar1 : ¬ vp_nar .boolean 1 = 0 := by decide
theorem pr_nar0 : vp_nar .boolean 0 = 0 := by decide
theorem pr_xforget {post : Int32 → SX → Prop} (v : Int32) (H : ∀ h', pr_xl h' fa b p 32 = (pr_xl h fa b p 32).filter (fun e => !decide (e.2.2 = v)) → post (pr_sm (fun e => if e.2.2 = v then 1 else 0) (pr_xl h fa b p 32)) (h', fa, b, p)) : ∃ n, wX_forget_13 post v n 0 0 h fa b p := by
  refine loop_0 (fun n i (x : Int32 × (Nat → Int32)) => wX_forget_13 post v n x.1 (nI i) x.2 fa b p) (fun i x => x.1 = pr_sm (fun e => if e.2.2 = v then 1 else 0) (pr_xl h fa b p i) ∧ pr_xl x.2 fa b p i = (pr_xl h fa b p i).filter (fun e => !decide (e.2.2 = v)) ∧ ∀ j, i ≤ j → x.2 j = h j) 32 (0, h) ⟨rfl, rfl, fun _ _ => rfl⟩ ?_ ?_
  · intro n ⟨x, k⟩ ⟨ex, ek, _⟩
    rw [wX_forget_13]
    dsimp only at ex ek
    rw [ex]
    exact br_t (by decide) (H k ek)
  · intro n i ⟨x, k⟩ hi ⟨ex, ek, er⟩ K
    dsimp only at ex ek er
    have hv : vp_in (nI i) 32 := vp_in_nI hi (by decide)
    have ei : k i = h i := er i (Nat.le_refl i)
    rw [wX_forget_13]
    refine br_f (nI_ge (b := 32) hi (by decide)) (pr_xent hi v (fun z c => br_f (by decide) ⟨hv, ?_⟩) (fun z => br_t rfl (nm_r (nI_1 i) (K (x, k) ⟨?_, ?_, ?_⟩))) (fun z c => br_t rfl (nm_r (nI_1 i) (K (x, k) ⟨?_, ?_, ?_⟩))))
    · dsimp only
      rw [nI_clamp (n := i) (by omega)]
      refine nm_e (nm_e (nm_r (nI_1 i) (K (x + 1, upd k i (vp_nar .boolean 0)) ⟨?_, ?_, ?_⟩)))
      · dsimp only at z; rw [ei] at z
        exact pr_st1 z ex (if_pos c)
      · dsimp only at z; rw [ei] at z
        dsimp only
        rw [pr_nar0, pr_xl0 (h := upd k i 0) pk_us, pr_xl1 z, List.filter_cons_of_neg (by simp [c]), ← ek]
        exact pr_xlCon (fun j hj => ⟨by rw [pk_un (by omega)], fun _ => ⟨rfl, rfl, rfl⟩⟩)
      · intro j hj
        dsimp only
        rw [pk_un (by omega)]
        exact er j (by omega)
    · dsimp only at z; rw [ei] at z
      exact pr_st0 z ex
    · dsimp only
      rw [pr_xl0 z, pr_xl0 (ei ▸ z)]
      exact ek
    · exact fun j hj => er j (by omega)
    · dsimp only at z; rw [ei] at z
      exact pr_st2 z ex (if_neg c)
    · dsimp only
      rw [pr_xl1 z, pr_xl1 (ei ▸ z), List.filter_cons_of_pos (by simp [c]), ek]
    · exact fun j hj => er j (by omega)
end
