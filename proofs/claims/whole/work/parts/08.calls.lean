theorem pr_lt1m {v : Int32} (h : v < 0) (c : ¬ v = -1) : v < -1 := by
  rw [Int32.lt_iff_toInt_lt] at h ⊢
  have e : (-1 : Int32).toInt = -1 := by decide
  have e0 : (0 : Int32).toInt = 0 := by decide
  have : v.toInt ≠ -1 := fun d => c (Int32.toInt_inj.mp (d.trans e.symm))
  omega
theorem pr_gt1m {v : Int32} (h : ¬ v < 0) : ¬ v < -1 := by
  rw [Int32.lt_iff_toInt_lt] at h ⊢
  have e : (-1 : Int32).toInt = -1 := by decide
  have e0 : (0 : Int32).toInt = 0 := by decide
  omega
theorem pr_n0m1 {v : Int32} (h : ¬ v < 0) : ¬ v = -1 := by
  intro c
  rw [c] at h
  exact h (by decide)
/-- owned, of a list -/
def pr_fO (L : List pr_E) (v : Int32) : Int32 := if v < -1 ∨ 7 < v then -2 else if v = -1 then 65536 - pr_cd L none else pr_sm (pr_of L v) L
theorem pr_fOPerm {L M : List pr_E} (p : L.Perm M) (g : pr_good L) (v : Int32) : pr_fO L v = pr_fO M v := by
  unfold pr_fO
  rw [pr_cdPerm p g, pr_ofPerm p g]
theorem pr_plPerm {L M : List pr_E} (p : L.Perm M) (c : Nat) : pr_pl L c ↔ pr_pl M c := by
  unfold pr_pl
  constructor
  · intro ⟨e, he, q⟩; exact ⟨e, p.mem_iff.mp he, q⟩
  · intro ⟨e, he, q⟩; exact ⟨e, p.mem_iff.mpr he, q⟩
theorem pr_mnPerm {L M : List pr_E} (p : L.Perm M) (g : pr_good L) {v : Int32} {w m : Nat} (h : pr_mn L v w (fun c => pr_pl L c ∨ c = w) m) : pr_mn M v w (fun c => pr_pl M c ∨ c = w) m := by
  obtain ⟨h1, h2, h3⟩ := h
  refine ⟨h1, h2.imp id (fun q => ⟨q.1, ?_, q.2.2.imp (pr_plPerm p m).mp id⟩), fun c hc h4 h5 h6 => h3 c (hc.imp (pr_plPerm p c).mpr id) h4 ?_ h6⟩
  · rw [← pr_owPerm p g]; exact q.2.1
  · rw [pr_owPerm p g]; exact h5
section
variable {h fa b p : Nat → Int32}
theorem pr_xfO (g : pr_good (pr_xl h fa b p 32)) (v : Int32) {post : Int32 → Prop} (H : post (pr_fO (pr_xl h fa b p 32) v)) : wpX_owned post (h, fa, b, p) v := by
  unfold wpX_owned
  dsimp only
  unfold wpX_isOwner wpX_isPeer
  unfold pr_fO at H
  refine br_c (fun c => br_f (by decide) (br_t c (pr_xcd (o0 := none) g rfl ?_))) (fun c => br_c (fun d => br_t rfl (br_t rfl ?_)) (fun d => br_c (fun e => br_t rfl (br_t rfl ?_)) (fun e => br_f (by decide) (br_f (by decide) (br_f c (pr_xowned g v ?_))))))
  · rw [if_neg (by rw [c]; decide), if_pos c] at H
    exact H
  · rw [if_pos (.inl (pr_lt1m d c))] at H
    exact H
  · rw [if_pos (.inr e)] at H
    exact H
  · rw [if_neg (fun k => k.elim (pr_gt1m d) e), if_neg c] at H
    exact H
theorem pr_xnextM (g : pr_good (pr_xl h fa b p 32)) (v x : Int32) {post : Int32 → Prop} (H0 : (v < -1 ∨ 7 < v) → post (-2)) (H : ¬ (v < -1 ∨ 7 < v) → ∀ w, w < 2 ^ 31 → ((0 ≤ x ∧ x = nI w) ∨ (¬ 0 ≤ x ∧ 0 = nI w)) → ∀ m, pr_mn (pr_xl h fa b p 32) v w (fun c => pr_pl (pr_xl h fa b p 32) c ∨ c = w) m → post (pr_bI m)) : wpX_next post (h, fa, b, p) v x := by
  have body : ¬ (v < -1 ∨ 7 < v) → ((0 ≤ x → wX_next_19 post v x h fa b p) ∧ (¬ 0 ≤ x → wX_next_19 post v 0 h fa b p)) := by
    intro k
    refine br_c (fun c => ?_) (fun c => ?_)
    · obtain ⟨w, hw, ew⟩ := nI_of (x := x) (Int32.not_lt.mpr c)
      rw [ew]
      exact pr_xnext g v hw (H k w hw (.inl ⟨c, ew⟩))
    · exact pr_xnext (w := 0) g v (by decide) (H k 0 (by decide) (.inr ⟨c, rfl⟩))
  unfold wpX_next
  dsimp only
  unfold wpX_isOwner wpX_isPeer
  exact br_c (fun c => br_f (by decide) (body (by rw [c]; decide))) (fun c => br_c (fun d => br_t rfl (br_t rfl (H0 (.inl (pr_lt1m d c))))) (fun d => br_c (fun e => br_t rfl (br_t rfl (H0 (.inr e)))) (fun e => br_f (by decide) (br_f (by decide) (body (fun k => k.elim (pr_gt1m d) e))))))
theorem pr_xfirst (a : Int32) {l : Nat} (hl : l ≤ 16) {post : Int32 → Prop} (H : post (pr_k a l).1) : wpX_firstCovered post a (nI l) := by
  unfold wpX_firstCovered
  intro y ey
  rw [ey, pr_first a hl]
  exact H
theorem pr_x36 (a : Int32) {l : Nat} (hl : l ≤ 16) (v : Int32) {i : Nat} (hi : i < 32) {post : Int32 → SX → Prop} (H : post (nI (pr_xl (upd h i (vp_nar .boolean 1)) (upd fa i (pr_k a l).1) (upd b i (nI l)) (upd p i v) 32).length) (upd h i (vp_nar .boolean 1), upd fa i (pr_k a l).1, upd b i (nI l), upd p i v)) : wX_allow_36 post a (nI l) v (nI i) h fa b p := by
  have hv : vp_in (nI i) 32 := vp_in_nI hi (by decide)
  unfold wX_allow_36
  rw [nI_clamp (n := i) (by omega)]
  exact br_f (fun c => pr_m1 (i := i) (by omega) c.symm) ⟨hv, nm_e (pr_xfirst a hl ⟨hv, nm_e ⟨hv, nm_e ⟨hv, nm_e (pr_xheld H)⟩⟩⟩)⟩
theorem pr_xal (g : pr_good (pr_xl h fa b p 32)) (a : Int32) {l : Nat} (hl : l ≤ 16) (v : Int32) (hv0 : ¬ v < 0) (hv7 : ¬ 7 < v) {post : Int32 → SX → Prop}
    (H0 : (∀ e, e ∈ pr_xl h fa b p 32 → pr_key e ≠ pr_k a l) → (∀ i, i < 32 → ¬ h i = 0) → post (-1) (h, fa, b, p))
    (H1 : ∀ i, i < 32 → h i = 0 → (∀ e, e ∈ pr_xl h fa b p 32 → pr_key e ≠ pr_k a l) → post (nI (pr_xl (upd h i (vp_nar .boolean 1)) (upd fa i (pr_k a l).1) (upd b i (nI l)) (upd p i v) 32).length) (upd h i (vp_nar .boolean 1), upd fa i (pr_k a l).1, upd b i (nI l), upd p i v))
    (H2 : ∀ i, i < 32 → ¬ h i = 0 → pr_key (fa i, b i, p i) = pr_k a l → post (nI (pr_xl (upd h i (vp_nar .boolean 1)) (upd fa i (pr_k a l).1) (upd b i (nI l)) (upd p i v) 32).length) (upd h i (vp_nar .boolean 1), upd fa i (pr_k a l).1, upd b i (nI l), upd p i v)) : wpX_allow post (h, fa, b, p) a (nI l) v := by
  unfold wpX_allow
  dsimp only
  unfold wpX_isLength wpX_isPeer
  refine br_f (nI_pos (by omega)) (br_f (nI_nlt (a := 16) hl (by decide)) (br_f (by decide) (br_f hv0 (br_f hv7 (br_f (by decide) (pr_xfind g a hl (fun hno => br_t rfl (pr_xfree (fun full => ?_) (fun i hi z => pr_x36 a hl v hi (H1 i hi z hno)))) (fun i hi z hk => br_f (fun c => pr_m1 (i := i) (by omega) c.symm) (pr_x36 a hl v hi (H2 i hi z hk)))))))))
  unfold wX_allow_36
  exact br_t rfl (H0 hno full)
theorem pr_xde (g : pr_good (pr_xl h fa b p 32)) (a : Int32) {l : Nat} (hl : l ≤ 16) {post : Int32 → SX → Prop} (H0 : (∀ e, e ∈ pr_xl h fa b p 32 → pr_key e ≠ pr_k a l) → post (-1) (h, fa, b, p))
    (H2 : ∀ i, i < 32 → ¬ h i = 0 → pr_key (fa i, b i, p i) = pr_k a l → post (nI (pr_xl (upd h i 0) fa b p 32).length) (upd h i 0, fa, b, p)) : wpX_deny post (h, fa, b, p) a (nI l) := by
  unfold wpX_deny
  dsimp only
  unfold wpX_isLength
  refine br_f (nI_pos (by omega)) (br_f (nI_nlt (a := 16) hl (by decide)) (br_f (by decide) (pr_xfind g a hl (fun hno => br_t rfl (H0 hno)) (fun i hi z hk => br_f (fun c => pr_m1 (i := i) (by omega) c.symm) ⟨vp_in_nI hi (by decide), ?_⟩))))
  rw [nI_clamp (n := i) (by omega), pr_nar0]
  exact nm_e (pr_xheld (H2 i hi z hk))
end
section
variable {s l q : Nat → Int32} {n : Nat}
theorem pr_yfO (hn : n ≤ 32) (g : pr_good (pr_xl pr_on s l q n)) (v : Int32) {post : Int32 → Prop} (H : post (pr_fO (pr_xl pr_on s l q n) v)) : wpY_owned post (nI n, s, l, q) v := by
  unfold wpY_owned
  dsimp only
  unfold pr_fO at H
  refine br_c (fun c => ?_) (fun c => br_c (fun d => br_c (fun e => pr_yset (o0 := none) hn g rfl ?_) (fun e => pr_yowned hn g v ?_)) (fun d => ?_))
  · rw [if_pos (.inl c)] at H
    exact H
  · rw [if_neg (fun k => k.elim c (Int32.not_lt.mpr d)), if_pos e] at H
    exact H
  · rw [if_neg (fun k => k.elim c (Int32.not_lt.mpr d)), if_neg e] at H
    exact H
  · rw [if_pos (.inr (Int32.not_le.mp d))] at H
    exact H
theorem pr_y23 (hn : n ≤ 32) (g : pr_good (pr_xl pr_on s l q n)) (v : Int32) {w m : Nat} (hw : w < 2 ^ 31) (hm : pr_mn (pr_xl pr_on s l q n) v w (fun c => pr_pl (pr_xl pr_on s l q n) c ∨ c = w) m) {post : Int32 → Prop} (H : post (pr_bI m)) : wY_next_23 post v (nI w) (nI n) s l q := by
  obtain ⟨h1, h2, h3⟩ := hm
  unfold wY_next_23
  refine pk_le w 65535 (fun c => pr_yow hn g (nI w) ?_) (fun c => ?_)
  · rw [pr_aN (by omega)]
    refine br_c (fun d => ?_) (fun d => pr_ynext hn g v (by omega) (fun m' hm' => ?_))
    · have k := h3 w (.inr rfl) (Nat.le_refl w) d (by omega)
      have e : m = w := by omega
      have eb : pr_bI m = nI w := by rw [e]; exact if_pos (by omega)
      rw [eb] at H
      exact H
    · have e : m = m' := pr_mnUn (fun x => by
        constructor
        · intro ⟨a1, a2, a3⟩
          rcases a3 with a3 | a3
          · refine ⟨?_, a2, a3⟩
            have : x ≠ w := fun k => d (k ▸ a2)
            omega
          · exact absurd (a3 ▸ a2) d
        · intro ⟨a1, a2, a3⟩
          exact ⟨by omega, a2, .inl a3⟩) ⟨h1, h2, h3⟩ hm'
      rw [← e]
      exact H
  · have eb : pr_bI m = -1 := if_neg (by omega)
    rw [eb] at H
    exact H
theorem pr_ynextM (v x : Int32) {post : Int32 → Prop} (H0 : (v < -1 ∨ 7 < v) → post (-2)) (H : ¬ (v < -1 ∨ 7 < v) → ((0 ≤ x → wY_next_23 post v x (nI n) s l q) ∧ (¬ 0 ≤ x → wY_next_23 post v 0 (nI n) s l q))) : wpY_next post (nI n, s, l, q) v x := by
  unfold wpY_next
  dsimp only
  exact br_c (fun c => H0 (.inl c)) (fun c => br_c (fun d => H (fun k => k.elim c (Int32.not_lt.mpr d))) (fun d => H0 (.inr (Int32.not_le.mp d))))
theorem pr_yal (hn : n ≤ 32) (a : Int32) {l0 : Nat} (hl : l0 ≤ 16) (v : Int32) (hv0 : ¬ v < 0) (hv7 : ¬ 7 < v) {post : Int32 → SY → Prop}
    (H0 : (∀ e, e ∈ pr_xl pr_on s l q n → pr_key e ≠ pr_k a l0) → n = 32 → post (-1) (nI n, s, l, q))
    (H1 : (∀ e, e ∈ pr_xl pr_on s l q n → pr_key e ≠ pr_k a l0) → n < 32 → post (nI (n + 1)) (nI (n + 1), upd s n (pr_k a l0).1, upd l n (nI l0), upd q n v))
    (H2 : ∀ j, j < n → pr_key (s j, l j, q j) = pr_k a l0 → post (nI n) (nI n, s, l, upd q j v)) : wpY_allow post (nI n, s, l, q) a (nI l0) v := by
  unfold wpY_allow
  dsimp only
  unfold wpY_badLength
  refine br_f (nI_pos (by omega)) (br_t (nI_le (b := 16) hl (by decide)) (br_t rfl (br_f hv0 (br_t (Int32.not_lt.mp hv7) (pr_yfind hn a hl (fun hno => br_f (by decide) (pk_eq n 32 (fun c => H0 hno c) (fun c => ?_))) (fun j hj hk => br_t (nI_pos' (by omega)) ?_))))))
  · have hw : vp_in (nI n) 32 := vp_in_nI (by omega) (by decide)
    unfold wY_allow_43 wY_allow_84
    rw [nI_clamp (n := n) (by omega)]
    exact br_f (by decide) (pr_ystart a hl ⟨hw, nm_e ⟨hw, nm_e (nm_r (nI_1 n) ⟨hw, nm_e (H1 hno (by omega))⟩)⟩⟩)
  · unfold wY_allow_43 wY_allow_84
    rw [nI_clamp (n := j) (by omega)]
    exact br_t (nI_pos' (by omega)) ⟨vp_in_nI (by omega) (by decide), nm_e (H2 j hj hk)⟩
theorem pr_yde (hn : n ≤ 32) (a : Int32) {l0 : Nat} (hl : l0 ≤ 16) {post : Int32 → SY → Prop}
    (H0 : (∀ e, e ∈ pr_xl pr_on s l q n → pr_key e ≠ pr_k a l0) → post (-1) (nI n, s, l, q))
    (H2 : ∀ j m, n = m + 1 → j < n → pr_key (s j, l j, q j) = pr_k a l0 → post (nI m) (nI m, upd s j (s m), upd l j (l m), upd q j (q m))) : wpY_deny post (nI n, s, l, q) a (nI l0) := by
  unfold wpY_deny
  dsimp only
  unfold wpY_badLength
  refine br_f (nI_pos (by omega)) (br_t (nI_le (b := 16) hl (by decide)) (br_t rfl (pr_yfind hn a hl (fun hno => ?_) (fun j hj hk => ?_))))
  · unfold wY_deny_17
    exact br_f (by decide) (H0 hno)
  · unfold wY_deny_17
    obtain ⟨m, rfl⟩ : ∃ m, n = m + 1 := ⟨n - 1, by omega⟩
    exact br_t (nI_pos' (by omega)) (pr_ydrop (by omega) hj (H2 j m rfl hj hk))
end
