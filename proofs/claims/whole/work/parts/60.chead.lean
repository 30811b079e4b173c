section CHD
variable {z mi mc ms : Nat} {G G2 : AG} {A : CA} {g g1 g2 : Sg} {L : List Nat} {V W : Nat → Nat}
abbrev la (G : AG) (s : Nat) : Nat := G.ev s (G.ct s - 1)
abbrev tp (G : AG) (s : Nat) : Prop := 0 < G.ct s ∧ ∀ t, t < G.na → 0 < G.ct t → ¬ kn G (G.pa (la G t)) (la G s)
def hdL (G : AG) : Nat → List Nat
  | 0 => []
  | i + 1 => if tp G i then hdL G i ++ [la G i] else hdL G i
theorem hdL_mem (hw : WF G) : ∀ i, i ≤ G.na → (hdL G i).length ≤ i ∧ ∀ e, e ∈ hdL G i ↔ ∃ s, s < i ∧ tp G s ∧ e = la G s := by
  intro i
  induction i with
  | zero => intro _; exact ⟨Nat.le_refl _, fun e => ⟨(fun h => nomatch h), fun ⟨s, hs, _⟩ => absurd hs (by omega)⟩⟩
  | succ i ih =>
    intro hi
    obtain ⟨h1, h2⟩ := ih (by omega)
    unfold hdL
    by_cases ht : tp G i
    · rw [if_pos ht]
      refine ⟨by rw [List.length_append]; simp; omega, fun e => ?_⟩
      rw [List.mem_append, h2]
      constructor
      · rintro (⟨s, hs, h⟩ | h)
        · exact ⟨s, by omega, h⟩
        · exact ⟨i, by omega, ht, List.mem_singleton.mp h⟩
      · rintro ⟨s, hs, h, he⟩
        by_cases hsi : s = i
        · subst hsi; exact Or.inr (List.mem_singleton.mpr he)
        · exact Or.inl ⟨s, by omega, h, he⟩
    · rw [if_neg ht]
      refine ⟨by omega, fun e => ?_⟩
      rw [h2]
      constructor
      · rintro ⟨s, hs, h⟩; exact ⟨s, by omega, h⟩
      · rintro ⟨s, hs, h, he⟩
        by_cases hsi : s = i
        · subst hsi; exact absurd h ht
        · exact ⟨s, by omega, h, he⟩
theorem t_heads (hw : WF G) (hR : RC z G A g) {post : Int32 → Sg → Prop} (k : ∀ g2, RC z G A g2 → RCi G A (hdL G G.na) g2 → fC A.vw g g2 → post (nI (hdL G G.na).length) g2) : w_C_heads z mi mc ms post g A.c := by
  have hna := hw.na_le
  have loop : ∀ d i, i + d = G.na → ∀ g1, RC z G A g1 → RCi G A (hdL G i) g1 → fC A.vw g g1 → ∀ kc ks, kc ≤ mc → ks ≤ ms → w_C_heads_7 z mi mc ms post (d + 1) kc ks g1 A.c (nI i) := by
    intro d
    induction d with
    | zero =>
      intro i hi g1 hR1 hL1 hf kc ks hk hk'
      have : i = G.na := by omega
      subst this
      have hc := hR1.k.c
      unfold w_C_heads_7
      (refine ⟨?_, ?_⟩; (focus (first | exact hasI_of (by assumption) (by decide) | exact hasR_of (by assumption) (by decide))); rintro _ rfl; try rw [hR1.f.na])
      refine ⟨fun _ => ?_, fun h => absurd ((lI (by omega) (by omega)).mpr (Nat.le_refl _)) h⟩
      (refine ⟨?_, ?_⟩; (focus (first | exact hasI_of (by assumption) (by decide) | exact hasR_of (by assumption) (by decide))); rintro _ rfl; try rw [hL1.n])
      exact k g1 hR1 hL1 hf
    | succ d ih =>
      intro i hi g1 hR1 hL1 hf kc ks hk hk'
      have hi' : i < G.na := by omega
      have hc := hR1.k.c
      have h2 := hR1.k.ags
      have h3 := hR1.k.ga i hi'
      obtain ⟨m1, m2⟩ := hdL_mem hw i (by omega)
      unfold w_C_heads_7
      (refine ⟨?_, ?_⟩; (focus (first | exact hasI_of (by assumption) (by decide) | exact hasR_of (by assumption) (by decide))); rintro _ rfl; try rw [hR1.f.na])
      refine ⟨fun h => absurd ((lI (by omega) (by omega)).mp h) (by omega), fun _ => ?_⟩
      (refine ⟨?_, ?_⟩; (focus (first | exact hasI_of (by assumption) (by decide) | exact hasR_of (by assumption) (by decide))); rintro _ rfl; try rw [hR1.f.ags])
      refine ⟨_, rfl, ?_⟩
      (refine ⟨i, ⟨_, h2, rfl, by omega, by decide⟩, ?_⟩; rintro _ rfl; try rw [hR1.f.ag i hi'])
      refine ⟨_, rfl, ?_⟩
      refine ⟨⟨_, _, by assumption, by decide⟩, 0, 0, by omega, by omega, ?_⟩
      refine t_latest hw hR1 hi' (fun h0 => ⟨fun _ => ?_, (fun _ h => nomatch h)⟩) (fun h0 => ⟨(fun h => nomatch h), ?_⟩)
      · rw [nI_1]
        have e1 : hdL G (i + 1) = hdL G i := by
          show (if tp G i then _ else _) = _
          rw [if_neg (fun h => by have := h.1; omega)]
        exact ih (i + 1) (by omega) g1 hR1 (by rw [e1]; exact hL1) hf kc ks hk hk'
      · rintro _ ⟨⟩
        have hlt := hw.ev_lt i (G.ct i - 1) hi' (by omega)
        refine ⟨⟨_, _, by assumption, by decide⟩, 0, 0, by omega, by omega, ?_⟩
        refine t_hasFollower hw hR1 hlt (fun hy => ⟨fun _ => ?_, fun h => absurd h (by decide)⟩) (fun hy => ⟨fun h => absurd rfl h, fun _ => ?_⟩)
        · rw [nI_1]
          have e1 : hdL G (i + 1) = hdL G i := by
            show (if tp G i then _ else _) = _
            rw [if_neg (fun h => by
              obtain ⟨t, ht, ht0, hk⟩ := hy
              exact h.2 t ht ht0 hk)]
          exact ih (i + 1) (by omega) g1 hR1 (by rw [e1]; exact hL1) hf kc ks hk hk'
        · have e1 : hdL G (i + 1) = hdL G i ++ [la G i] := by
            show (if tp G i then _ else _) = _
            rw [if_pos ⟨h0, hy⟩]
          have hnm : la G i ∉ hdL G i := fun hm => by
            obtain ⟨s, hs, ht, he⟩ := (m2 _).mp hm
            have q1 := hw.sl_ev i (G.ct i - 1) hi' (by omega)
            have q2 := hw.sl_ev s (G.ct s - 1) (by omega) (by have := ht.1; omega)
            have : G.sl (la G i) = G.sl (la G s) := by rw [he]
            rw [show la G i = G.ev i (G.ct i - 1) from rfl, show la G s = G.ev s (G.ct s - 1) from rfl, q1, q2] at this
            omega
          refine ⟨⟨_, _, by assumption, by decide⟩, 0, 0, by omega, by omega, ?_⟩
          refine t_enlist hR1 hL1 hlt hnm (by omega) (fun g2 hR2 hL2 hf2 => ?_)
          rw [nI_1]
          exact ih (i + 1) (by omega) g2 hR2 (by rw [e1]; exact hL2) (hf.trans hf2) kc ks hk hk'
  have hc := hR.k.c
  unfold w_C_heads
  refine ⟨hasI_of hc (by decide), ?_⟩
  rintro _ rfl
  have hR1 := hR.w27 A.c 0
  exact ⟨_, loop G.na 0 (by omega) _ hR1 (RCi.nil hR1 (by rw [fI_wI]; simp)) (fC.wIs (by decide)) 0 0 (by omega) (by omega)⟩
def nlA (G : AG) : List Nat → Nat → List Nat
  | [], _ => []
  | x :: t, i => if G.cd (x - 1) = 10 then (i + 1) :: nlA G t (i + 1) else nlA G t (i + 1)
def nl (G : AG) : List Nat := nlA G (tx G G.ne) 0
theorem nlA_len : ∀ (t : List Nat) (i : Nat), (nlA G t i).length ≤ t.length := by
  intro t
  induction t with
  | nil => intro i; exact Nat.le_refl _
  | cons x t ih =>
    intro i
    unfold nlA
    have := ih (i + 1)
    split
    · rw [List.length_cons, List.length_cons]; omega
    · rw [List.length_cons]; omega
def lnR (G : AG) (y : Int32) (r : Option Int32) : Prop := (y = 0 ∧ r = some 0) ∨ (y = -1 ∧ r = some (nI ((nl G).length + 1))) ∨ (∃ k p, y = nI (k + 1) ∧ (nl G)[k]? = some p ∧ r = some (nI p)) ∨ (y ≠ 0 ∧ y ≠ -1 ∧ (∀ k p, y = nI (k + 1) → (nl G)[k]? ≠ some p) ∧ r = none)
theorem nI_m1 {k : Nat} (h : k < 2 ^ 31) : nI k ≠ -1 := fun e => by
  have h1 : (nI k).toInt = (-1 : Int32).toInt := by rw [e]
  rw [nI_toInt h] at h1
  have : (-1 : Int32).toInt = -1 := rfl
  omega
theorem t_line (hw : WF G) (hR : RC z G A g) {y : Int32} (hmc : 1 ≤ mc) (hms : 6 ≤ ms) {post : Int32 → Sg → Prop} {px : Nat → Sg → Prop} (kx : lnR G y none → px 0 g) (kr : ∀ r, lnR G y (some r) → post r g) : w_C_line z mi mc ms post px g A.c y := by
  have hc := hR.k.c
  obtain ⟨t, ht⟩ := od_cons hw
  have htl : t.length ≤ 8192 := by
    have := od_len hw
    rw [ht, List.length_cons] at this
    omega
  have htx : tx G G.ne = t.filter (tb G G.ne) := by
    unfold tx
    rw [ht, List.filter_cons_of_neg (by rw [tb_0]; decide)]
  have loop : y ≠ 0 → ∀ (v : List Nat), (∀ y ∈ v, ∃ e, y = e + 1 ∧ e < G.ne ∧ G.ins e = true) → ∀ o i q, i + v.length ≤ 8192 → q ≤ i → chn (fR g 18) o (v.map (nd A)) → (∀ k p, y = nI (q + (k + 1)) → (nlA G (v.filter (tb G G.ne)) i)[k]? = some p → post (nI p) g) → (y = -1 → post (nI (q + (nlA G (v.filter (tb G G.ne)) i).length + 1)) g) → (y ≠ -1 → (∀ k p, y = nI (q + (k + 1)) → (nlA G (v.filter (tb G G.ne)) i)[k]? ≠ some p) → px 0 g) → ∀ kc ks, kc + 1 ≤ mc → ks + 6 ≤ ms → w_C_line_19 z mi mc ms post px (v.length + 1) kc ks g A.c y (nI i) (nI q) o := by
    intro hy0 v
    induction v with
    | nil =>
      intro _ o i q hb hq ho k1 k2 k0 kc ks hk hk'
      have : o = none := ho
      subst this
      unfold w_C_line_19
      refine ⟨fun _ => ⟨fun h => ⟨by omega, by omega, k0 h (fun k p _ => fun h => by cases h)⟩, fun h => ?_⟩, (fun _ h => nomatch h)⟩
      rw [nI_1]; exact k2 h
    | cons x v ih =>
      intro hl o i q hb hq ho k1 k2 k0 kc ks hk hk'
      obtain ⟨rfl, ho2⟩ := ho
      obtain ⟨e, rfl, he, hi⟩ := hl x List.mem_cons_self
      have hke := hR.k.ea e he
      rw [if_pos hi] at hke
      rw [List.length_cons] at hb
      show w_C_line_19 z mi mc ms post px ((v.length + 1) + 1) kc ks g A.c y (nI i) (nI q) (some (A.ea e))
      unfold w_C_line_19
      refine ⟨(fun h => nomatch h), ?_⟩
      rintro _ ⟨⟩
      (refine ⟨?_, ?_⟩; (focus (first | exact hasI_of (by assumption) (by decide) | exact hasR_of (by assumption) (by decide))); rintro _ rfl; try rw [hR.f.arr])
      refine ⟨_, rfl, ?_⟩
      refine ⟨⟨_, _, hR.k.arr, by decide⟩, 0, 0, by omega, by omega, ?_⟩
      refine t_size hR.k.arr hR.l.n ?_
      refine ⟨⟨_, _, by assumption, by decide⟩, 0, 0, by omega, by omega, ?_⟩
      refine t_isInText hw hR he hi (Nat.le_refl _) (fun hs => ⟨fun h => absurd h (by decide), fun _ => ?_⟩) (fun hs => ⟨fun _ => ?_, fun h => absurd rfl h⟩)
      · have hp : ((e + 1) :: v).filter (tb G G.ne) = (e + 1) :: v.filter (tb G G.ne) := List.filter_cons_of_pos (tb_s.mpr hs)
        rw [hp] at k1 k2 k0
        (refine ⟨?_, ?_⟩; (focus (first | exact hasI_of (by assumption) (by decide) | exact hasR_of (by assumption) (by decide))); rintro _ rfl; try rw [hR.e.cd e he hi])
        rw [nI_1]
        refine ⟨fun hcd => ?_, fun hcd => ?_⟩
        · have hn : nlA G ((e + 1) :: v.filter (tb G G.ne)) i = nlA G (v.filter (tb G G.ne)) (i + 1) := if_neg hcd
          rw [hn] at k1 k2 k0
          (refine ⟨?_, ?_⟩; (focus (first | exact hasI_of (by assumption) (by decide) | exact hasR_of (by assumption) (by decide))); rintro _ rfl)
          exact ih (fun x hx => hl x (List.mem_cons_of_mem _ hx)) _ (i + 1) q (by omega) (by omega) ho2 k1 k2 k0 kc ks hk hk'
        · have hn : nlA G ((e + 1) :: v.filter (tb G G.ne)) i = (i + 1) :: nlA G (v.filter (tb G G.ne)) (i + 1) := if_pos hcd
          rw [hn] at k1 k2 k0
          rw [nI_1]
          refine ⟨fun hne => ?_, fun heq => ?_⟩
          · (refine ⟨?_, ?_⟩; (focus (first | exact hasI_of (by assumption) (by decide) | exact hasR_of (by assumption) (by decide))); rintro _ rfl)
            refine ih (fun x hx => hl x (List.mem_cons_of_mem _ hx)) _ (i + 1) (q + 1) (by omega) (by omega) ho2 (fun k p h1 h2 => ?_) (fun h => ?_) (fun h h' => k0 h (fun k p h1 => ?_)) kc ks hk hk'
            · exact k1 (k + 1) p (by rw [h1]; congr 1; omega) h2
            · have := k2 h
              rw [List.length_cons] at this
              have e1 : q + ((nlA G (v.filter (tb G G.ne)) (i + 1)).length + 1) + 1 = q + 1 + (nlA G (v.filter (tb G G.ne)) (i + 1)).length + 1 := by omega
              rw [e1] at this
              exact this
            · cases k with
              | zero => exact absurd h1.symm hne
              | succ k => exact h' k p (by rw [h1]; congr 1; omega)
          · exact k1 0 (i + 1) heq.symm rfl
      · have hno : ¬ tb G G.ne (e + 1) = true := fun h => hs (tb_s.mp h)
        have hp : ((e + 1) :: v).filter (tb G G.ne) = v.filter (tb G G.ne) := List.filter_cons_of_neg hno
        rw [hp] at k1 k2 k0
        (refine ⟨?_, ?_⟩; (focus (first | exact hasI_of (by assumption) (by decide) | exact hasR_of (by assumption) (by decide))); rintro _ rfl)
        exact ih (fun x hx => hl x (List.mem_cons_of_mem _ hx)) _ i q (by omega) hq ho2 k1 k2 k0 kc ks hk hk'
  have hnl : nl G = nlA G (t.filter (tb G G.ne)) 0 := by unfold nl; rw [htx]
  unfold w_C_line
  refine ⟨fun h => ?_, fun h => kr 0 (Or.inl ⟨h, rfl⟩)⟩
  (refine ⟨?_, ?_⟩; (focus (first | exact hasI_of (by assumption) (by decide) | exact hasR_of (by assumption) (by decide))); rintro _ rfl; try rw [hR.f.rt])
  refine ⟨_, rfl, ?_⟩
  have hrt := hR.k.rt
  refine ⟨hasR_of hrt (by decide), ?_⟩
  rintro _ rfl
  have hcn : chn (fR g 18) (fR g 18 A.rt) (t.map (nd A)) := by
    have := hR.o.1
    change chn _ _ ((od G).map (nd A)) at this
    rw [ht, List.map_cons] at this
    exact this.2
  refine ⟨_, loop h t (od_pos (u := []) (x := 0) hw ht) _ 0 0 (by omega) (Nat.le_refl _) hcn (fun k p h1 h2 => ?_) (fun h1 => ?_) (fun h1 h2 => ?_) 0 0 (by omega) (by omega)⟩
  · rw [Nat.zero_add] at h1
    exact kr _ (Or.inr (Or.inr (Or.inl ⟨k, p, h1, by rw [hnl]; exact h2, rfl⟩)))
  · rw [Nat.zero_add, ← hnl]
    exact kr _ (Or.inr (Or.inl ⟨h1, rfl⟩))
  · refine kx (Or.inr (Or.inr (Or.inr ⟨h, h1, fun k p h3 => ?_, rfl⟩)))
    rw [hnl]
    exact h2 k p (by rw [Nat.zero_add]; exact h3)
end CHD
