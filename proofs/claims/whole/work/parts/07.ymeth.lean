section
variable {s l q : Nat → Int32} {n : Nat}
theorem pr_yfind (hn : n ≤ 32) (a : Int32) {l0 : Nat} (hl : l0 ≤ 16) {post : Int32 → Prop} (H0 : (∀ e, e ∈ pr_xl pr_on s l q n → pr_key e ≠ pr_k a l0) → post (-1)) (H1 : ∀ i, i < n → pr_key (s i, l i, q i) = pr_k a l0 → post (nI i)) : wpY_find post (nI n, s, l, q) a (nI l0) := by
  unfold wpY_find
  dsimp only
  refine loop_0 (fun k i (_ : Unit) => wY_find_2 post a (nI l0) (nI n) s l q k (nI i)) (fun i _ => ∀ e, e ∈ pr_xl pr_on s l q i → pr_key e ≠ pr_k a l0) n () (fun e he => nomatch he) ?_ ?_
  · intro k x ex
    rw [wY_find_2]
    exact br_t (nI_le (Nat.le_refl n) (by omega)) (H0 ex)
  · intro k i x hi ex K
    have hv : vp_in (nI i) 32 := vp_in_nI (by omega) (by decide)
    rw [wY_find_2]
    refine br_f (nI_ge hi (by omega)) ⟨hv, ?_⟩
    rw [nI_clamp (n := i) (by omega)]
    have next : pr_key (s i, l i, q i) ≠ pr_k a l0 → wY_find_2 post a (nI l0) (nI n) s l q k (nI (i + 1)) := by
      intro hx
      refine K () (fun e he => ?_)
      rw [pr_yl1] at he
      rcases List.mem_cons.mp he with rfl | he'
      · exact hx
      · exact ex e he'
    refine br_c (fun c => ⟨hv, pr_ystart a hl (br_c (fun d => H1 i hi ?_) (fun d => nm_r (nI_1 i) (next (fun w => d ?_))))⟩) (fun c => nm_r (nI_1 i) (next (fun w => c ?_)))
    · unfold pr_key
      dsimp only
      rw [c, d]
      rfl
    · exact congrArg Prod.fst w
    · exact congrArg Prod.snd w
theorem pr_ydrop {m i : Nat} (hm : m < 32) (hi : i < m + 1) {post : SY → Prop} (H : post (nI m, upd s i (s m), upd l i (l m), upd q i (q m))) : wpY_drop post (nI (m + 1), s, l, q) (nI i) := by
  have hv : vp_in (nI i) 32 := vp_in_nI (by omega) (by decide)
  have hw : vp_in (nI m) 32 := vp_in_nI (by omega) (by decide)
  unfold wpY_drop
  dsimp only
  refine nm_r (nI_pred m) ?_
  rw [nI_clamp (n := i) (by omega), nI_clamp (n := m) (by omega)]
  exact ⟨hw, hv, nm_e ⟨hw, hv, nm_e ⟨hw, hv, nm_e H⟩⟩⟩
theorem pr_yentries (hn : n ≤ 32) {post : Int32 → Prop} (v : Int32) (H : post (pr_sm (fun e => if e.2.2 = v then 1 else 0) (pr_xl pr_on s l q n))) : ∃ k, wY_entries_16 post v (nI n) s l q k 0 0 := by
  refine loop_0 (fun k i x => wY_entries_16 post v (nI n) s l q k x (nI i)) (fun i x => x = pr_sm (fun e => if e.2.2 = v then 1 else 0) (pr_xl pr_on s l q i)) n 0 rfl ?_ ?_
  · intro k x ex
    rw [wY_entries_16]
    rw [← ex] at H
    exact br_t (nI_le (Nat.le_refl n) (by omega)) H
  · intro k i x hi ex K
    have hv : vp_in (nI i) 32 := vp_in_nI (by omega) (by decide)
    rw [wY_entries_16]
    refine br_f (nI_ge hi (by omega)) ⟨hv, ?_⟩
    rw [nI_clamp (n := i) (by omega)]
    exact br_c (fun c => nm_e (nm_r (nI_1 i) (K _ (pr_st1 (pr_onN i) ex (if_pos c))))) (fun c => nm_r (nI_1 i) (K x (pr_st2 (pr_onN i) ex (if_neg c))))
theorem pr_yowned (hn : n ≤ 32) (g : pr_good (pr_xl pr_on s l q n)) {post : Int32 → Prop} (v : Int32) (H : post (pr_sm (pr_of (pr_xl pr_on s l q n) v) (pr_xl pr_on s l q n))) : ∃ k, wY_owned_29 post v (nI n) s l q k 0 0 := by
  generalize hf : pr_of (pr_xl pr_on s l q n) v = f at H
  refine loop_0 (fun k i x => wY_owned_29 post v (nI n) s l q k x (nI i)) (fun i x => x = pr_sm f (pr_xl pr_on s l q i)) n 0 rfl ?_ ?_
  · intro k x ex
    rw [wY_owned_29]
    rw [← ex] at H
    exact br_t (nI_le (Nat.le_refl n) (by omega)) H
  · intro k i x hi ex K
    have hv : vp_in (nI i) 32 := vp_in_nI (by omega) (by decide)
    rw [wY_owned_29]
    refine br_f (nI_ge hi (by omega)) ⟨hv, ?_⟩
    rw [nI_clamp (n := i) (by omega)]
    refine br_c (fun c => pr_yset hn g (o0 := some (s i, l i, q i)) ⟨i, hi, pr_onN i, rfl, rfl⟩ (nm_e (nm_r (nI_1 i) (K _ (pr_st1 (pr_onN i) ex ?_))))) (fun c => nm_r (nI_1 i) (K x (pr_st2 (pr_onN i) ex ?_)))
    · rw [← hf]; exact if_pos c
    · rw [← hf]; exact if_neg c
theorem pr_sub0 {a b : Int32} : a - b = 0 ↔ b = a := by
  rw [Int32.sub_eq_iff_eq_add, Int32.zero_add]
  exact eq_comm
theorem pr_yuseless (hn : n ≤ 32) (g : pr_good (pr_xl pr_on s l q n)) {post : Int32 → Prop} (H : post (pr_sm (pr_uf (pr_xl pr_on s l q n)) (pr_xl pr_on s l q n))) : wpY_useless post (nI n, s, l, q) := by
  unfold wpY_useless
  dsimp only
  generalize hf : pr_uf (pr_xl pr_on s l q n) = f at H
  refine loop_0 (fun k i x => wY_useless_4 post (nI n) s l q k x (nI i)) (fun i x => x = pr_sm f (pr_xl pr_on s l q i)) n 0 rfl ?_ ?_
  · intro k x ex
    rw [wY_useless_4]
    rw [← ex] at H
    exact br_t (nI_le (Nat.le_refl n) (by omega)) H
  · intro k i x hi ex K
    have hv : vp_in (nI i) 32 := vp_in_nI (by omega) (by decide)
    have ok := g.1 _ (pr_at (fa := s) (b := l) (p := q) hi (pr_onN i))
    have e1 : s i = nI (pr_s (s i, l i, q i)) := ok.1
    have e2 : l i = nI (pr_l (s i, l i, q i)) := ok.2.1
    have hz := (pr_zb (s i, l i, q i)).1
    have hs := ok.2.2.2.1
    have hl := ok.2.2.1
    rw [wY_useless_4]
    refine br_f (nI_ge hi (by omega)) ⟨hv, hv, ?_⟩
    rw [nI_clamp (n := i) (by omega)]
    have hyl := fun P H => pr_ylong hn g (A := pr_s (s i, l i, q i)) (by omega) (m := pr_l (s i, l i, q i)) (by omega) (post := P) H
    rw [← e1, ← e2] at hyl
    refine hyl _ (fun r hr => pr_yset hn g (o0 := some (s i, l i, q i)) ⟨i, hi, pr_onN i, rfl, rfl⟩ ?_)
    have yes : pr_cd (pr_xl pr_on s l q n) (some (s i, l i, q i)) = nI (pr_z (s i, l i, q i)) ∨ (pr_lg (pr_xl pr_on s l q n) (pr_s (s i, l i, q i)) (pr_l (s i, l i, q i))).map (fun o => o.2.2) = some (q i) → f (s i, l i, q i) = 1 := fun d => by rw [← hf]; exact if_pos d
    have no : ¬ (pr_cd (pr_xl pr_on s l q n) (some (s i, l i, q i)) = nI (pr_z (s i, l i, q i)) ∨ (pr_lg (pr_xl pr_on s l q n) (pr_s (s i, l i, q i)) (pr_l (s i, l i, q i))).map (fun o => o.2.2) = some (q i)) → f (s i, l i, q i) = 0 := fun d => by rw [← hf]; exact if_neg d
    refine br_c (fun c => nm_e (nm_r (nI_1 i) (K _ (pr_st1 (pr_onN i) ex (yes (.inl (pr_sub0.mp c))))))) (fun c => ?_)
    have c' : ¬ pr_cd (pr_xl pr_on s l q n) (some (s i, l i, q i)) = nI (pr_z (s i, l i, q i)) := fun d => c (pr_sub0.mpr d)
    cases ho : pr_lg (pr_xl pr_on s l q n) (pr_s (s i, l i, q i)) (pr_l (s i, l i, q i)) with
    | none =>
      rw [ho] at hr no
      have e : r = -1 := hr
      exact br_t (by rw [e]; decide) (nm_r (nI_1 i) (K x (pr_st2 (pr_onN i) ex (no (fun d => d.elim c' (fun w => nomatch w))))))
    | some e =>
      rw [ho] at hr no yes
      obtain ⟨j, hj, zj, er, ee, hm, hneg, _, hvj, hcl⟩ := pr_ixIn hn hr
      have ep : e.2.2 = q j := by rw [ee]
      refine br_f hneg ⟨hvj, hv, ?_⟩
      rw [hcl]
      refine br_c (fun d => nm_e (nm_r (nI_1 i) (K _ (pr_st1 (pr_onN i) ex (yes (.inr ?_)))))) (fun d => nm_r (nI_1 i) (K x (pr_st2 (pr_onN i) ex (no (fun w => w.elim c' (fun u => d ?_))))))
      · rw [← d, ← ep]
        rfl
      · rw [← ep]
        exact Option.some.inj u
theorem pr_yforget (hn : n ≤ 32) (v : Int32) {post : Int32 → SY → Prop} (H : ∀ m s' l' q', m ≤ 32 → (pr_xl pr_on s' l' q' m).Perm ((pr_xl pr_on s l q n).filter (fun e => !decide (e.2.2 = v))) → post (nI n - nI m) (nI m, s', l', q')) : ∃ k, wY_forget_24 post v (nI n) k (nI n - 1) (nI n) s l q := by
  refine ⟨n + 1, pk_loopD (fun k i (x : SY) => wY_forget_24 post v (nI n) k (nI i - 1) x.1 x.2.1 x.2.2.1 x.2.2.2) (fun i x => ∃ m, m ≤ 32 ∧ x.1 = nI m ∧ i ≤ m ∧ ((pr_xl pr_on x.2.1 x.2.2.1 x.2.2.2 m).filter (fun e => !decide (e.2.2 = v))).Perm ((pr_xl pr_on s l q n).filter (fun e => !decide (e.2.2 = v))) ∧ ∀ j, i ≤ j → j < m → ¬ x.2.2.2 j = v) ?_ ?_ n (nI n, s, l, q) ⟨n, hn, rfl, Nat.le_refl n, List.Perm.refl _, fun j h1 h2 => absurd h1 (by omega)⟩⟩
  · intro k ⟨f, s', l', q'⟩ ⟨m, hm, ef, _, hp, hq⟩
    dsimp only at ef hp hq ⊢
    rw [wY_forget_24, ef]
    refine br_t (by decide) (H m s' l' q' hm ?_)
    rw [List.filter_eq_self.mpr ?_] at hp
    · exact hp
    · intro e he
      obtain ⟨j, hj, _, rfl⟩ := pr_xlMem.mp he
      simpa using hq j (Nat.zero_le j) hj
  · intro k i ⟨f, s', l', q'⟩ ⟨m, hm, ef, him, hp, hq⟩ K
    dsimp only at ef hp hq ⊢
    have hv : vp_in (nI i) 32 := vp_in_nI (by omega) (by decide)
    rw [nI_pred, wY_forget_24, ef]
    refine br_f (nI_pos (by omega)) ⟨hv, ?_⟩
    rw [nI_clamp (n := i) (by omega)]
    have e1 : nI i + (-1) = nI i - 1 := (Int32.sub_eq_add_neg (nI i) 1).symm
    refine br_c (fun c => ?_) (fun c => nm_r e1 (K (nI m, s', l', q') ⟨m, hm, rfl, by omega, hp, fun j h1 h2 => ?_⟩))
    · obtain ⟨m', rfl⟩ : ∃ m', m = m' + 1 := ⟨m - 1, by omega⟩
      refine pr_ydrop (by omega) (by omega) ?_
      refine nm_r e1 (K (nI m', upd s' i (s' m'), upd l' i (l' m'), upd q' i (q' m')) ⟨m', by omega, rfl, by omega, ?_, fun j h1 h2 => ?_⟩)
      · have k1 := (pr_ylRem (s := s') (l := l') (q := q') (n := m') (i := i) (by omega)).filter (fun e => !decide (e.2.2 = v))
        rw [List.filter_cons_of_neg (by simp [c])] at k1
        exact k1.symm.trans hp
      · dsimp only
        by_cases d : j = i
        · subst d
          rw [pk_us]
          exact hq m' (by omega) (by omega)
        · rw [pk_un d]
          exact hq j (by omega) (by omega)
    · dsimp only
      by_cases d : j = i
      · subst d; exact c
      · exact hq j (by omega) h2
theorem pr_bIneg {m : Nat} (hm : m ≤ 65536) : pr_bI m < 0 ↔ m = 65536 := by
  unfold pr_bI
  by_cases c : m < 65536
  · rw [if_pos c]
    exact ⟨fun d => absurd d (nI_pos (by omega)), fun d => by omega⟩
  · rw [if_neg c]
    exact ⟨fun _ => by omega, fun _ => by decide⟩
theorem pr_y114 (hn : n ≤ 32) (g : pr_good (pr_xl pr_on s l q n)) (v : Int32) {w m c i : Nat} (hw : w < 65536) (hm : m ≤ 65536) (hc : c ≤ 65536) {post : Int32 → Prop} {J : Int32 → Int32 → Prop} (H : J (pr_bI (pr_le (pr_xl pr_on s l q n) v (w + 1) c m)) (nI (i + 1))) : wY_next_114 post J v (nI w) (pr_bI m) (nI i) (nI c) (nI n) s l q := by
  unfold wY_next_114
  unfold pr_le at H
  have keep : ¬ (w + 1 ≤ c ∧ c < m ∧ pr_ow (pr_xl pr_on s l q n) c = v) → ∀ y, y = nI i + 1 → J (pr_bI m) y := by
    intro d
    rw [if_neg d] at H
    exact nm_r (nI_1 i) H
  refine pk_le c w (fun d => keep (by omega)) (fun d => pk_le 65536 c (fun e => keep (by omega)) (fun e => pr_yow hn g (nI c) ?_))
  rw [pr_aN e]
  refine br_c (fun o => br_c (fun z => ?_) (fun z => ?_)) (fun o => keep (fun k => o k.2.2))
  · have em := (pr_bIneg hm).mp z
    rw [if_pos ⟨d, by omega, o⟩] at H
    unfold pr_bI at H
    rw [if_pos e] at H
    exact nm_r (nI_1 i) H
  · have hm' : m < 65536 := by
      have : ¬ m = 65536 := fun k => z ((pr_bIneg hm).mpr k)
      omega
    have eb : pr_bI m = nI m := if_pos hm'
    refine pk_le m c (fun k => keep (by omega)) (fun k => ?_) eb
    rw [if_pos ⟨d, k, o⟩] at H
    unfold pr_bI at H
    rw [if_pos e] at H
    exact nm_r (nI_1 i) H
theorem pr_ynext (hn : n ≤ 32) (g : pr_good (pr_xl pr_on s l q n)) (v : Int32) {w : Nat} (hw : w < 65536) {post : Int32 → Prop} (H : ∀ m, pr_mn (pr_xl pr_on s l q n) v (w + 1) (fun c => pr_pl (pr_xl pr_on s l q n) c) m → post (pr_bI m)) : ∃ k, wY_next_49 post v (nI w) (nI n) s l q k (-1) 0 := by
  refine loop_0 (fun k i x => wY_next_49 post v (nI w) (nI n) s l q k x (nI i)) (fun i x => ∃ m, x = pr_bI m ∧ pr_mn (pr_xl pr_on s l q n) v (w + 1) (fun c => pr_pl (pr_xl pr_on s l q i) c) m) n (-1) ⟨65536, rfl, Nat.le_refl _, .inl rfl, fun c hc => by obtain ⟨e, he, _⟩ := hc; cases he⟩ ?_ ?_
  · intro k x ⟨m, ex, hm⟩
    rw [wY_next_49, ex]
    exact br_t (nI_le (Nat.le_refl n) (by omega)) (H m hm)
  · intro k i x hi ⟨m, ex, hm⟩ K
    have hv : vp_in (nI i) 32 := vp_in_nI (by omega) (by decide)
    have ok := g.1 _ (pr_at (fa := s) (b := l) (p := q) hi (pr_onN i))
    have e1 : s i = nI (pr_s (s i, l i, q i)) := ok.1
    have e2 : l i = nI (pr_l (s i, l i, q i)) := ok.2.1
    have hz := pr_zb (s i, l i, q i)
    have hs := ok.2.2.2.1
    have hl := ok.2.2.1
    have m1 := pr_mnStep (pr_s (s i, l i, q i)) hm (C' := fun c => pr_pl (pr_xl pr_on s l q i) c ∨ c = pr_s (s i, l i, q i)) (fun _ => Iff.rfl)
    have m2 := pr_mnStep (pr_s (s i, l i, q i) + pr_z (s i, l i, q i)) m1 (C' := fun c => pr_pl (pr_xl pr_on s l q (i + 1)) c) (fun d => by rw [pr_yl1, pr_plCons])
    have K2 := K _ ⟨_, rfl, m2⟩
    have T := fun (f : Nat) (hf : f ≤ 65536) (ef : pr_le (pr_xl pr_on s l q n) v (w + 1) (pr_s (s i, l i, q i)) m = f) => pr_y114 (post := post) (J := wY_next_49 post v (nI w) (nI n) s l q k) (i := i) hn g v hw hf hs (by rw [← ef]; exact K2)
    rw [wY_next_49, ex]
    refine br_f (nI_ge hi (by omega)) ⟨hv, ?_⟩
    rw [nI_clamp (n := i) (by omega)]
    refine nm_r e1 ⟨hv, ?_⟩
    have hys := fun P H => pr_ysize (l := pr_l (s i, l i, q i)) hl (post := P) H
    rw [← e2] at hys
    refine hys _ (nm_r (nI_add _ _) ?_)
    generalize pr_s (s i, l i, q i) = c at *
    have hc : c < 65536 := by omega
    unfold pr_le at T
    refine pk_le c w (fun d => T m hm.1 (if_neg (by omega))) (fun d => pr_yow hn g (nI c) ?_)
    rw [pr_aN hc]
    refine br_c (fun o => br_c (fun z => ?_) (fun z => ?_)) (fun o => T m hm.1 (if_neg (fun k => o k.2.2)))
    · have em := (pr_bIneg hm.1).mp z
      have t := T c (by omega) (if_pos ⟨d, by omega, o⟩)
      have eb : pr_bI c = nI c := if_pos hc
      rw [eb] at t
      unfold wY_next_110
      exact t
    · have hm' : m < 65536 := by
        have h1 := hm.1
        have : ¬ m = 65536 := fun k => z ((pr_bIneg hm.1).mpr k)
        omega
      have eb : pr_bI m = nI m := if_pos hm'
      refine pk_le m c (fun k => T m hm.1 (if_neg (by omega))) (fun k => ?_) eb
      have t := T c (by omega) (if_pos ⟨d, k, o⟩)
      have eb : pr_bI c = nI c := if_pos hc
      rw [eb] at t
      unfold wY_next_110
      exact t
end
