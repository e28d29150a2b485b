def pr_R (h fa b p : Nat → Int32) (f : Int32) (s l q : Nat → Int32) : Prop := ∃ n, n ≤ 32 ∧ f = nI n ∧ (pr_xl h fa b p 32).Perm (pr_xl pr_on s l q n) ∧ pr_good (pr_xl pr_on s l q n)
/-- the held slots' entries are the reference's, in some order; each well made, no two alike -/
def i_Rel (_ : Nat) (u : SX) (v : SY) : Prop := pr_R u.1 u.2.1 u.2.2.1 u.2.2.2 v.1 v.2.1 v.2.2.1 v.2.2.2
theorem i_up {k : Nat} {u : SX} {v : SY} (h : i_Rel k u v) : i_Rel (k + 4) u v := h
theorem pr_nil (n : Nat) : pr_xl (fun _ => 0) (fun _ => 0) (fun _ => 0) (fun _ => 0) n = [] := by
  induction n with
  | zero => rfl
  | succ n ih => rw [pr_xl0 rfl, ih]
theorem i_vc0 : wpX_init (fun u => wpY_init (fun v => i_Rel 0 u v)) := by
  refine ⟨0, by omega, rfl, ?_, ?_⟩
  · show (pr_xl (fun _ => 0) (fun _ => 0) (fun _ => 0) (fun _ => 0) 32).Perm []
    rw [pr_nil]
  · exact ⟨(fun e he => nomatch he), List.Pairwise.nil⟩
theorem pr_un {k : Nat} {h fa b p : Nat → Int32} {f : Int32} {s l q : Nat → Int32} (I : i_Rel k (h, fa, b, p) (f, s, l, q)) : ∃ n, n ≤ 32 ∧ f = nI n ∧ (pr_xl h fa b p 32).Perm (pr_xl pr_on s l q n) ∧ pr_good (pr_xl pr_on s l q n) ∧ pr_good (pr_xl h fa b p 32) := by
  obtain ⟨n, hn, e, P, g⟩ := I
  exact ⟨n, hn, e, P, g, pr_gperm P.symm g⟩
theorem i_vc_owner {k : Nat} {u : SX} {v : SY} (I : i_Rel k u v) (hk : k + 4 ≤ 2048) (v1 : Int32) : wpX_owner (fun r => wpY_owner (fun r' => r' = r ∧ i_Rel (k + 4) u v) v v1) u v1 := by
  obtain ⟨h, fa, b, p⟩ := u
  obtain ⟨f, s, l, q⟩ := v
  have J := i_up I
  obtain ⟨n, hn, rfl, P, g, gx⟩ := pr_un I
  exact pr_xow gx v1 (pr_yow hn g v1 ⟨(pr_owPerm P gx _).symm, J⟩)
theorem i_vc_length {k : Nat} {u : SX} {v : SY} (I : i_Rel k u v) (hk : k + 4 ≤ 2048) (v1 : Int32) : wpX_length (fun r => wpY_length (fun r' => r' = r ∧ i_Rel (k + 4) u v) v v1) u v1 := by
  obtain ⟨h, fa, b, p⟩ := u
  obtain ⟨f, s, l, q⟩ := v
  have J := i_up I
  obtain ⟨n, hn, rfl, P, g, gx⟩ := pr_un I
  exact pr_xln gx v1 (pr_yln hn g v1 ⟨(pr_lnPerm P gx _).symm, J⟩)
theorem i_vc_owned {k : Nat} {u : SX} {v : SY} (I : i_Rel k u v) (hk : k + 4 ≤ 2048) (v1 : Int32) : wpX_owned (fun r => wpY_owned (fun r' => r' = r ∧ i_Rel (k + 4) u v) v v1) u v1 := by
  obtain ⟨h, fa, b, p⟩ := u
  obtain ⟨f, s, l, q⟩ := v
  have J := i_up I
  obtain ⟨n, hn, rfl, P, g, gx⟩ := pr_un I
  exact pr_xfO gx v1 (pr_yfO hn g v1 ⟨(pr_fOPerm P gx _).symm, J⟩)
theorem i_vc_next {k : Nat} {u : SX} {v : SY} (I : i_Rel k u v) (hk : k + 4 ≤ 2048) (v1 : Int32) (v2 : Int32) : wpX_next (fun r => wpY_next (fun r' => r' = r ∧ i_Rel (k + 4) u v) v v1 v2) u v1 v2 := by
  obtain ⟨h, fa, b, p⟩ := u
  obtain ⟨f, s, l, q⟩ := v
  have J := i_up I
  obtain ⟨n, hn, rfl, P, g, gx⟩ := pr_un I
  refine pr_xnextM gx v1 v2 (fun c => pr_ynextM v1 v2 (fun _ => ⟨rfl, J⟩) (fun d => absurd c d)) (fun c w hw hx m hm => pr_ynextM v1 v2 (fun d => absurd d c) (fun _ => ?_))
  have hm' := pr_mnPerm P gx hm
  rcases hx with ⟨h0, rfl⟩ | ⟨h0, e⟩
  · exact br_t h0 (pr_y23 hn g v1 hw hm' ⟨rfl, J⟩)
  · refine br_f h0 ?_
    rw [e]
    exact pr_y23 hn g v1 hw hm' ⟨rfl, J⟩
theorem i_vc_useless {k : Nat} {u : SX} {v : SY} (I : i_Rel k u v) (hk : k + 4 ≤ 2048) : wpX_useless (fun r => wpY_useless (fun r' => r' = r ∧ i_Rel (k + 4) u v) v) u := by
  obtain ⟨h, fa, b, p⟩ := u
  obtain ⟨f, s, l, q⟩ := v
  have J := i_up I
  obtain ⟨n, hn, rfl, P, g, gx⟩ := pr_un I
  exact pr_xuseless gx (pr_yuseless hn g ⟨(pr_ufPerm P gx).symm, J⟩)
theorem i_vc_entries {k : Nat} {u : SX} {v : SY} (I : i_Rel k u v) (hk : k + 4 ≤ 2048) (v1 : Int32) : wpX_entries (fun r => wpY_entries (fun r' => r' = r ∧ i_Rel (k + 4) u v) v v1) u v1 := by
  obtain ⟨h, fa, b, p⟩ := u
  obtain ⟨f, s, l, q⟩ := v
  have J := i_up I
  obtain ⟨n, hn, rfl, P, g, gx⟩ := pr_un I
  unfold wpX_entries wpY_entries
  dsimp only
  unfold wpX_isPeer
  exact br_c (fun c => br_t rfl (br_t c ⟨rfl, J⟩)) (fun c => br_c (fun d => br_t rfl (br_f c (br_f (Int32.not_le.mpr d) ⟨rfl, J⟩))) (fun d => br_f (by decide) (pr_xentries v1 (br_f c (br_t (Int32.not_lt.mp d) (pr_yentries hn v1 ⟨(pr_smPerm _ P).symm, J⟩))))))
theorem i_vc_forget {k : Nat} {u : SX} {v : SY} (I : i_Rel k u v) (hk : k + 4 ≤ 2048) (v1 : Int32) : wpX_forget (fun r u' => wpY_forget (fun r' v' => r' = r ∧ i_Rel (k + 4) u' v') v v1) u v1 := by
  obtain ⟨h, fa, b, p⟩ := u
  obtain ⟨f, s, l, q⟩ := v
  have J := i_up I
  obtain ⟨n, hn, rfl, P, g, gx⟩ := pr_un I
  unfold wpX_forget wpY_forget
  dsimp only
  unfold wpX_isPeer
  refine br_c (fun c => br_t rfl (br_t c ⟨rfl, J⟩)) (fun c => br_c (fun d => br_t rfl (br_f c (br_f (Int32.not_le.mpr d) ⟨rfl, J⟩))) (fun d => br_f (by decide) (pr_xforget v1 (fun h' e' => br_f c (br_t (Int32.not_lt.mp d) (nm_e (pr_yforget hn v1 (fun m s' l' q' hm Q => ⟨?_, m, hm, rfl, ?_, ?_⟩))))))))
  · rw [pr_smFil, P.length_eq, (P.filter _).length_eq, ← Q.length_eq, pr_ylLen, pr_ylLen]
  · show (pr_xl h' fa b p 32).Perm (pr_xl pr_on s' l' q' m)
    rw [e']
    exact (P.filter _).trans Q.symm
  · exact pr_gperm Q.symm (pr_gfil _ g)
theorem i_vc_allow {k : Nat} {u : SX} {v : SY} (I : i_Rel k u v) (hk : k + 4 ≤ 2048) (v1 : Int32) (v2 : Int32) (v3 : Int32) : wpX_allow (fun r u' => wpY_allow (fun r' v' => r' = r ∧ i_Rel (k + 4) u' v') v v1 v2 v3) u v1 v2 v3 := by
  obtain ⟨h, fa, b, p⟩ := u
  obtain ⟨f, s, l, q⟩ := v
  have J := i_up I
  obtain ⟨n, hn, rfl, P, g, gx⟩ := pr_un I
  by_cases c1 : v2 < 0
  · unfold wpX_allow wpY_allow
    dsimp only
    unfold wpX_isLength wpY_badLength
    exact br_t c1 (br_t rfl (br_t c1 (br_f (by decide) ⟨rfl, J⟩)))
  by_cases c2 : 16 < v2
  · unfold wpX_allow wpY_allow
    dsimp only
    unfold wpX_isLength wpY_badLength
    exact br_f c1 (br_t c2 (br_t rfl (br_f c1 (br_f (Int32.not_le.mpr c2) (br_f (by decide) ⟨rfl, J⟩)))))
  by_cases c3 : v3 < 0
  · unfold wpX_allow wpY_allow
    dsimp only
    unfold wpX_isLength wpY_badLength wpX_isPeer
    exact br_f c1 (br_f c2 (br_f (by decide) (br_t c3 (br_t rfl (br_f c1 (br_t (Int32.not_lt.mp c2) (br_t rfl (br_t c3 ⟨rfl, J⟩))))))))
  by_cases c4 : 7 < v3
  · unfold wpX_allow wpY_allow
    dsimp only
    unfold wpX_isLength wpY_badLength wpX_isPeer
    exact br_f c1 (br_f c2 (br_f (by decide) (br_f c3 (br_t c4 (br_t rfl (br_f c1 (br_t (Int32.not_lt.mp c2) (br_t rfl (br_f c3 (br_f (Int32.not_le.mpr c4) ⟨rfl, J⟩))))))))))
  obtain ⟨l0, hl, rfl⟩ := nI_of2 (M := 16) (n := 16) (by decide) c1 (Int32.not_lt.mp c2)
  have mem : ∀ e, e ∈ pr_xl h fa b p 32 ↔ e ∈ pr_xl pr_on s l q n := fun e => P.mem_iff
  have len := P.length_eq
  rw [pr_ylLen] at len
  refine pr_xal gx v1 hl v3 c3 c4 (fun no full => pr_yal hn v1 hl v3 c3 c4 (fun _ _ => ⟨rfl, J⟩) (fun _ c => ?_) (fun j hj hk => ?_)) (fun i hi z no => pr_yal hn v1 hl v3 c3 c4 (fun _ c => ?_) (fun no' c => ?_) (fun j hj hk => ?_)) (fun i hi z hk => pr_yal hn v1 hl v3 c3 c4 (fun no c => ?_) (fun no c => ?_) (fun j hj hkj => ?_))
  · rw [pr_xlFull full] at len
    omega
  · exact absurd hk (no _ ((mem _).mpr (pr_at hj (pr_onN j))))
  · have := pr_xlRoom (fa := fa) (b := b) (p := p) hi z
    omega
  · have hset := pr_xlSet (h := h) (fa := fa) (b := b) (p := p) hi (x := vp_nar .boolean 1) (y := (pr_k v1 l0).1) (w := nI l0) (v := v3) pr_nar1
    have e1 : pr_xl (upd h i 0) fa b p 32 = pr_xl h fa b p 32 := pr_xlCon (fun j hj => by
      by_cases d : j = i
      · subst d
        rw [pk_us]
        exact ⟨⟨fun _ => z, fun _ => rfl⟩, fun w => absurd rfl w⟩
      · rw [pk_un d]
        exact ⟨Iff.rfl, fun _ => ⟨rfl, rfl, rfl⟩⟩)
    rw [e1] at hset
    have e2 : pr_xl pr_on (upd s n (pr_k v1 l0).1) (upd l n (nI l0)) (upd q n v3) (n + 1) = ((pr_k v1 l0).1, nI l0, v3) :: pr_xl pr_on s l q n := by
      rw [pr_yl1, pk_us, pk_us, pk_us]
      congr 1
      exact pr_xlCon (fun j hj => ⟨Iff.rfl, fun _ => ⟨pk_un (by omega), pk_un (by omega), pk_un (by omega)⟩⟩)
    have P' := hset.trans (P.cons ((pr_k v1 l0).1, nI l0, v3))
    rw [← e2] at P'
    have kk := pr_kOk v1 hl v3
    refine ⟨?_, n + 1, by omega, rfl, P', ?_⟩
    · rw [P'.length_eq, pr_ylLen]
    · dsimp only
      rw [e2]
      exact pr_gcons.mpr ⟨⟨kk.1, fun f hf => kk.2 ▸ (no' f hf).symm⟩, g⟩
  · exact absurd hk (no _ ((mem _).mpr (pr_at hj (pr_onN j))))
  · exact absurd hk (no _ ((mem _).mp (pr_at hi z)))
  · exact absurd hk (no _ ((mem _).mp (pr_at hi z)))
  · have hset := pr_xlSet (h := h) (fa := fa) (b := b) (p := p) hi (x := vp_nar .boolean 1) (y := (pr_k v1 l0).1) (w := nI l0) (v := v3) pr_nar1
    have r1 := pr_xlRem (fa := fa) (b := b) (p := p) hi z
    have r2 := pr_xlRem (h := pr_on) (fa := s) (b := l) (p := q) hj (pr_onN j)
    have ee : (fa i, b i, p i) = (s j, l j, q j) := pr_uni g.2 ((mem _).mp (pr_at hi z)) (pr_at hj (pr_onN j)) (hk.trans hkj.symm)
    rw [ee] at r1
    have rr := (List.perm_cons _).mp (r1.symm.trans (P.trans r2))
    have r3 := pr_xlRem (h := pr_on) (fa := s) (b := l) (p := upd q j v3) hj (pr_onN j)
    have e3 : pr_xl (upd pr_on j 0) s l (upd q j v3) n = pr_xl (upd pr_on j 0) s l q n := pr_xlCon (fun x hx => by
      by_cases d : x = j
      · subst d
        rw [pk_us]
        exact ⟨Iff.rfl, fun w => absurd rfl w⟩
      · exact ⟨Iff.rfl, fun _ => ⟨rfl, rfl, pk_un d⟩⟩)
    have k1 : s j = (pr_k v1 l0).1 := congrArg Prod.fst hkj
    have k2 : l j = nI l0 := congrArg Prod.snd hkj
    rw [e3, pk_us, k1, k2] at r3
    have P' := hset.trans ((rr.cons ((pr_k v1 l0).1, nI l0, v3)).trans r3.symm)
    have kk := pr_kOk v1 hl v3
    have gg := pr_gcons.mp (pr_gperm r2 g)
    refine ⟨?_, n, hn, rfl, P', ?_⟩
    · rw [P'.length_eq, pr_ylLen]
    · refine pr_gperm r3.symm (pr_gcons.mpr ⟨⟨kk.1, fun f hf => ?_⟩, gg.2⟩)
      have t := gg.1.2 f hf
      rw [hkj] at t
      exact t
theorem i_vc_deny {k : Nat} {u : SX} {v : SY} (I : i_Rel k u v) (hk : k + 4 ≤ 2048) (v1 : Int32) (v2 : Int32) : wpX_deny (fun r u' => wpY_deny (fun r' v' => r' = r ∧ i_Rel (k + 4) u' v') v v1 v2) u v1 v2 := by
  obtain ⟨h, fa, b, p⟩ := u
  obtain ⟨f, s, l, q⟩ := v
  have J := i_up I
  obtain ⟨n, hn, rfl, P, g, gx⟩ := pr_un I
  by_cases c1 : v2 < 0
  · unfold wpX_deny wpY_deny
    dsimp only
    unfold wpX_isLength wpY_badLength wY_deny_17
    exact br_t c1 (br_t rfl (br_t c1 (br_f (by decide) (br_f (by decide) ⟨rfl, J⟩))))
  by_cases c2 : 16 < v2
  · unfold wpX_deny wpY_deny
    dsimp only
    unfold wpX_isLength wpY_badLength wY_deny_17
    exact br_f c1 (br_t c2 (br_t rfl (br_f c1 (br_f (Int32.not_le.mpr c2) (br_f (by decide) (br_f (by decide) ⟨rfl, J⟩))))))
  obtain ⟨l0, hl, rfl⟩ := nI_of2 (M := 16) (n := 16) (by decide) c1 (Int32.not_lt.mp c2)
  have mem : ∀ e, e ∈ pr_xl h fa b p 32 ↔ e ∈ pr_xl pr_on s l q n := fun e => P.mem_iff
  refine pr_xde gx v1 hl (fun no => pr_yde hn v1 hl (fun _ => ⟨rfl, J⟩) (fun j m em hj hk => ?_)) (fun i hi z hk => pr_yde hn v1 hl (fun no => ?_) (fun j m em hj hkj => ?_))
  · exact absurd hk (no _ ((mem _).mpr (pr_at hj (pr_onN j))))
  · exact absurd hk (no _ ((mem _).mp (pr_at hi z)))
  · have ee : (fa i, b i, p i) = (s j, l j, q j) := pr_uni g.2 ((mem _).mp (pr_at hi z)) (pr_at hj (pr_onN j)) (hk.trans hkj.symm)
    subst em
    have r1 := pr_xlRem (fa := fa) (b := b) (p := p) hi z
    have r2 := pr_ylRem (s := s) (l := l) (q := q) hj
    rw [ee] at r1
    have rr := (List.perm_cons _).mp (r1.symm.trans (P.trans r2))
    refine ⟨?_, m, by omega, rfl, rr, (pr_gcons.mp (pr_gperm r2 g)).2⟩
    rw [rr.length_eq, pr_ylLen]
