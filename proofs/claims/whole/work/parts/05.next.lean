/-- the lesser of found and a candidate that is owned -/
def pr_le (L : List pr_E) (v : Int32) (w c f : Nat) : Nat := if w ≤ c ∧ c < f ∧ pr_ow L c = v then c else f
def pr_mn (L : List pr_E) (v : Int32) (w : Nat) (C : Nat → Prop) (m : Nat) : Prop := m ≤ 65536 ∧ (m = 65536 ∨ (w ≤ m ∧ pr_ow L m = v ∧ C m)) ∧ ∀ c, C c → w ≤ c → pr_ow L c = v → c < 65536 → m ≤ c
theorem pr_mnStep {L : List pr_E} {v : Int32} {w m : Nat} {C C' : Nat → Prop} (c : Nat) (h : pr_mn L v w C m) (hC : ∀ d, C' d ↔ (C d ∨ d = c)) : pr_mn L v w C' (pr_le L v w c m) := by
  obtain ⟨h1, h2, h3⟩ := h
  unfold pr_le
  by_cases k : w ≤ c ∧ c < m ∧ pr_ow L c = v
  · rw [if_pos k]
    refine ⟨by omega, .inr ⟨k.1, k.2.2, (hC c).mpr (.inr rfl)⟩, fun d hd h4 h5 h6 => ?_⟩
    rcases (hC d).mp hd with q | q
    · have := h3 d q h4 h5 h6
      omega
    · omega
  · rw [if_neg k]
    refine ⟨h1, h2.imp id (fun q => ⟨q.1, q.2.1, (hC m).mpr (.inl q.2.2)⟩), fun d hd h4 h5 h6 => ?_⟩
    rcases (hC d).mp hd with q | q
    · exact h3 d q h4 h5 h6
    · subst q
      by_cases x : d < m
      · exact absurd ⟨h4, x, h5⟩ k
      · omega
theorem pr_mnUn {L : List pr_E} {v : Int32} {w w' m m' : Nat} {C C' : Nat → Prop} (hC : ∀ c, (w ≤ c ∧ pr_ow L c = v ∧ C c) ↔ (w' ≤ c ∧ pr_ow L c = v ∧ C' c)) (h : pr_mn L v w C m) (h' : pr_mn L v w' C' m') : m = m' := by
  obtain ⟨h1, h2, h3⟩ := h
  obtain ⟨k1, k2, k3⟩ := h'
  have a1 : m < 65536 → m' ≤ m := by
    intro x
    rcases h2 with q | q
    · omega
    · have r := (hC m).mp q
      exact k3 m r.2.2 r.1 r.2.1 x
  have a2 : m' < 65536 → m ≤ m' := by
    intro x
    rcases k2 with q | q
    · omega
    · have r := (hC m').mpr q
      exact h3 m' r.2.2 r.1 r.2.1 x
  omega
/-- the places where the owner may change -/
def pr_pl (L : List pr_E) (c : Nat) : Prop := ∃ e, e ∈ L ∧ (c = pr_s e ∨ c = pr_s e + pr_z e)
theorem pr_plCons (e : pr_E) (L : List pr_E) (c : Nat) : pr_pl (e :: L) c ↔ ((pr_pl L c ∨ c = pr_s e) ∨ c = pr_s e + pr_z e) := by
  unfold pr_pl
  constructor
  · intro ⟨f, hf, q⟩
    rcases List.mem_cons.mp hf with rfl | hf'
    · rcases q with q | q
      · exact .inl (.inr q)
      · exact .inr q
    · exact .inl (.inl ⟨f, hf', q⟩)
  · rintro ((⟨f, hf, q⟩ | q) | q)
    · exact ⟨f, List.mem_cons_of_mem _ hf, q⟩
    · exact ⟨e, List.mem_cons_self .., .inl q⟩
    · exact ⟨e, List.mem_cons_self .., .inr q⟩
def pr_bI (m : Nat) : Int32 := if m < 65536 then nI m else -1
section
variable {h fa b p : Nat → Int32}
theorem pr_xles (g : pr_good (pr_xl h fa b p 32)) (v : Int32) {w c f : Nat} (hw : w < 2 ^ 31) (hc : c < 2 ^ 31) (hf : f ≤ 65536) {post : Int32 → Prop} (H : post (nI (pr_le (pr_xl h fa b p 32) v w c f))) : wpX_lesserOwned post (h, fa, b, p) v (nI w) (nI c) (nI f) := by
  unfold wpX_lesserOwned
  dsimp only
  unfold pr_le at H
  refine pk_lt c w (fun q => ?_) (fun q => pk_lt c f (fun r => pr_xow g (nI c) ?_) (fun r => ?_))
  · rw [if_neg (by omega)] at H
    exact H
  · rw [pr_aN (by omega)]
    refine br_c (fun e => ?_) (fun e => ?_)
    · rw [if_pos ⟨q, r, e⟩] at H
      exact H
    · rw [if_neg (fun d => e d.2.2)] at H
      exact H
  · rw [if_neg (by omega)] at H
    exact H
theorem pr_xnext (g : pr_good (pr_xl h fa b p 32)) (v : Int32) {w : Nat} (hw : w < 2 ^ 31) {post : Int32 → Prop} (H : ∀ m, pr_mn (pr_xl h fa b p 32) v w (fun c => pr_pl (pr_xl h fa b p 32) c ∨ c = w) m → post (pr_bI m)) : wX_next_19 post v (nI w) h fa b p := by
  unfold wX_next_19
  refine pr_xles (f := 65536) g v hw hw (by omega) ?_
  have k0 : pr_mn (pr_xl h fa b p 32) v w (fun c => pr_pl [] c ∨ c = w) (pr_le (pr_xl h fa b p 32) v w w 65536) :=
    pr_mnStep w (C := fun c => pr_pl [] c) ⟨Nat.le_refl _, .inl rfl, fun c hc => by obtain ⟨e, he, _⟩ := hc; cases he⟩ (fun d => Iff.rfl)
  generalize pr_le (pr_xl h fa b p 32) v w w 65536 = m0 at k0
  refine loop_0 (fun n i x => wX_next_34 post v (nI w) h fa b p n x (nI i)) (fun i x => ∃ m, x = nI m ∧ pr_mn (pr_xl h fa b p 32) v w (fun c => pr_pl (pr_xl h fa b p i) c ∨ c = w) m) 32 (nI m0) ⟨m0, rfl, k0⟩ ?_ ?_
  · intro n x ⟨m, ex, hm⟩
    rw [wX_next_34, ex]
    refine br_t (by decide) (pk_le 65536 m (fun q => ?_) (fun q => ?_) (ha := by omega) (hb := by have := hm.1; omega))
    · have k := H m hm
      unfold pr_bI at k
      rw [if_neg (by omega)] at k
      exact k
    · have k := H m hm
      unfold pr_bI at k
      rw [if_pos q] at k
      exact k
  · intro n i x hi ⟨m, ex, hm⟩ K
    have hv : vp_in (nI i) 32 := vp_in_nI hi (by decide)
    rw [wX_next_34, ex]
    refine br_f (nI_ge (b := 32) hi (by decide)) ⟨hv, ?_⟩
    rw [nI_clamp (n := i) (by omega)]
    refine br_c (fun z => nm_r (nI_1 i) (K (nI m) ⟨m, rfl, by rw [pr_xl0 z]; exact hm⟩)) (fun z => ⟨hv, ?_⟩)
    have ok := g.1 _ (pr_at (fa := fa) (b := b) (p := p) hi z)
    have e1 : fa i = nI (pr_s (fa i, b i, p i)) := ok.1
    have hz := pr_zb (fa i, b i, p i)
    have hs := ok.2.2.2.1
    have m1 := pr_mnStep (pr_s (fa i, b i, p i)) hm (C' := fun c => (pr_pl (pr_xl h fa b p i) c ∨ c = w) ∨ c = pr_s (fa i, b i, p i)) (fun _ => Iff.rfl)
    have m2 := pr_mnStep (pr_s (fa i, b i, p i) + pr_z (fa i, b i, p i)) m1 (C' := fun c => pr_pl (pr_xl h fa b p (i + 1)) c ∨ c = w) (fun d => by
      rw [pr_xl1 z, pr_plCons]
      constructor
      · rintro (((q | q) | q) | q)
        · exact .inl (.inl (.inl q))
        · exact .inl (.inr q)
        · exact .inr q
        · exact .inl (.inl (.inr q))
      · rintro (((q | q) | q) | q)
        · exact .inl (.inl (.inl q))
        · exact .inr q
        · exact .inl (.inl (.inr q))
        · exact .inl (.inr q))
    refine nm_r e1 (pr_xsize g hi z (nm_r (nI_add _ _) (pr_xles g v hw (by omega) hm.1 (pr_xles g v hw (by omega) m1.1 (nm_r (nI_1 i) (K _ ⟨_, rfl, m2⟩))))))
end
