section MLN
variable {z mi mc ms : Nat} {G : AG} {M : MA} {g : Sg} {L : List Nat} {V : Nat → Nat}
theorem nlA_app : ∀ (a b : List Nat) (i : Nat), nlA G (a ++ b) i = nlA G a i ++ nlA G b (i + a.length) := by
  intro a
  induction a with
  | nil => intro b i; rfl
  | cons x a ih =>
    intro b i
    have e1 : i + 1 + a.length = i + (x :: a).length := by rw [List.length_cons]; omega
    show (if G.cd (x - 1) = 10 then (i + 1) :: nlA G (a ++ b) (i + 1) else nlA G (a ++ b) (i + 1)) = (if G.cd (x - 1) = 10 then (i + 1) :: nlA G a (i + 1) else nlA G a (i + 1)) ++ _
    rw [ih b (i + 1), e1]
    split <;> rfl
theorem nlA_bd : ∀ (t : List Nat) (i : Nat), ∀ p ∈ nlA G t i, p ≤ i + t.length := by
  intro t
  induction t with
  | nil => intro i p h; cases h
  | cons x t ih =>
    intro i p h
    rw [List.length_cons]
    unfold nlA at h
    split at h
    · rcases List.mem_cons.mp h with rfl | h
      · omega
      · have := ih (i + 1) p h; omega
    · have := ih (i + 1) p h; omega
def bgR (y : Int32) (N : List Nat) (bg : Int32) : Prop := (y = 0 ∧ bg = 0) ∨ (∃ k p, y = nI (k + 1) ∧ N[k]? = some p ∧ bg = nI p) ∨ (y ≠ 0 ∧ (∀ k p, y = nI (k + 1) → N[k]? ≠ some p) ∧ bg = -1)
theorem bgR_add {y bg : Int32} {N : List Nat} {p : Nat} (hN : N.length ≤ 100000) (h : bgR y N bg) (hne : ¬ nI (N.length + 1) = y) : bgR y (N ++ [p]) bg := by
  rcases h with h | ⟨k, q, h1, h2, h3⟩ | ⟨h1, h2, h3⟩
  · exact Or.inl h
  · refine Or.inr (Or.inl ⟨k, q, h1, ?_, h3⟩)
    rw [List.getElem?_append_left (List.getElem?_eq_some_iff.mp h2).1]
    exact h2
  · refine Or.inr (Or.inr ⟨h1, fun k q hy hk => ?_, h3⟩)
    by_cases hlt : k < N.length
    · rw [List.getElem?_append_left hlt] at hk
      exact h2 k q hy hk
    · by_cases he : k = N.length
      · subst he; exact hne hy.symm
      · rw [List.getElem?_append_right (by omega)] at hk
        obtain ⟨m, hm⟩ : ∃ m, k - N.length = m + 1 := ⟨k - N.length - 1, by omega⟩
        rw [hm] at hk
        cases hk
theorem t_Mline (hw : WF G) (hR : RM G M g) {y : Int32} (hmc : 1 ≤ mc) (hms : 6 ≤ ms) {post : Int32 → Sg → Prop} (kx : lnR G y none → post 0 (wI (wI g 56 M.m 0) 56 M.m 1)) (kr : ∀ r, lnR G y (some r) → post r (wI g 56 M.m 0)) : w_M_line z mi mc ms post g M.m y := by
  have hm := hR.k.m
  have hne := hw.ne_le
  unfold w_M_line
  refine ⟨hasI_of hm (by decide), ?_⟩
  rintro _ rfl
  have hR1 := hR.w56 M.m 0
  have hm1 := hR1.k.m
  have hg1 := hR1.k.gr
  refine ⟨⟨_, _, hm1, by decide⟩, 1, 6, by omega, by omega, ?_⟩
  obtain ⟨t, ht, htl, hno, hod, hpos⟩ := hR1.row hw
  have htx : tx G G.ne = t.filter (tb G G.ne) := by
    unfold tx
    rw [ht, List.filter_cons_of_neg (by rw [tb_0]; decide)]
  have hnl : nl G = nlA G (t.filter (tb G G.ne)) 0 := by unfold nl; rw [htx]
  have loop : ∀ (w u : List Nat) (bg : Int32), t = u ++ w → bgR y (nlA G (u.filter (tb G G.ne)) 0) bg → w_M_line0_18 z mi 1 6 (fun x15 g14 => post x15 g14) (fun (i16 : Nat) (g17 : Sg) => (i16 = 0 ∧ (hasI g17 M.m 56 ∧ ∀ g20 : Sg, g20 = wI g17 56 M.m (1 : Int32) → post (0 : Int32) g20))) (w.length + 1) 0 0 (wI g 56 M.m 0) M.m y (nI ((nlA G (u.filter (tb G G.ne)) 0).length + 1)) (nI (u.filter (tb G G.ne)).length) bg (nI u.length) := by
    intro w
    induction w with
    | nil =>
      intro u bg htu hbg
      rw [List.append_nil] at htu
      rw [← htu, ← hnl] at hbg ⊢
      unfold w_M_line0_18
      (refine ⟨?_, ?_⟩; (focus (first | exact hasI_of (by assumption) (by decide) | exact hasR_of (by assumption) (by decide))); rintro _ rfl; try rw [hR1.f.g])
      refine ⟨_, rfl, ?_⟩
      (refine ⟨?_, ?_⟩; (focus (first | exact hasI_of (by assumption) (by decide) | exact hasR_of (by assumption) (by decide))); rintro _ rfl; try rw [hno])
      refine ⟨fun _ => ⟨fun hy => ?_, fun hy => kr _ (Or.inr (Or.inl ⟨hy, rfl⟩))⟩, fun h => absurd (Int32.le_refl _) h⟩
      rcases hbg with ⟨h1, rfl⟩ | ⟨k, p, h1, h2, rfl⟩ | ⟨h1, h2, rfl⟩
      · exact ⟨fun _ => kr _ (Or.inl ⟨h1, rfl⟩), fun h => absurd (by decide) h⟩
      · have hp := nlA_bd (G := G) (t.filter (tb G G.ne)) 0 p (by rw [← hnl]; exact List.mem_of_getElem? h2)
        have hfl : (t.filter (tb G G.ne)).length ≤ t.length := List.length_filter_le _ _
        exact ⟨fun _ => kr _ (Or.inr (Or.inr (Or.inl ⟨k, p, h1, h2, rfl⟩))), fun h => absurd (nI_pos' (by omega)) h⟩
      · refine ⟨fun h => absurd h (by decide), fun _ => ⟨by omega, by omega, rfl, hasI_of hm1 (by decide), ?_⟩⟩
        rintro _ rfl
        exact kx (Or.inr (Or.inr (Or.inr ⟨h1, hy, h2, rfl⟩)))
    | cons x w ih =>
      intro u bg htu hbg
      obtain ⟨e, rfl, he, hie⟩ := hpos x (by rw [htu]; simp)
      have hul : u.length < t.length := by
        rw [htu, List.length_append, List.length_cons]
        omega
      have hget : aI (wI g 56 M.m 0) (M.f 50) u.length = nI e := hod u.length e (by rw [htu]; exact get_mid)
      have nxt : t = (u ++ [e + 1]) ++ w := by rw [htu]; simp
      have hful : (u.filter (tb G G.ne)).length ≤ u.length := List.length_filter_le _ _
      have hnlen := nlA_len (G := G) (u.filter (tb G G.ne)) 0
      show w_M_line0_18 z mi 1 6 _ _ ((w.length + 1) + 1) 0 0 _ M.m y _ _ bg (nI u.length)
      unfold w_M_line0_18
      (refine ⟨?_, ?_⟩; (focus (first | exact hasI_of (by assumption) (by decide) | exact hasR_of (by assumption) (by decide))); rintro _ rfl; try rw [hR1.f.g])
      refine ⟨_, rfl, ?_⟩
      (refine ⟨?_, ?_⟩; (focus (first | exact hasI_of (by assumption) (by decide) | exact hasR_of (by assumption) (by decide))); rintro _ rfl; try rw [hno])
      refine ⟨fun h => absurd ((lI (by omega) (by omega)).mp h) (by omega), fun _ => ?_⟩
      (refine ⟨?_, ?_⟩; (focus (first | exact hasI_of (by assumption) (by decide) | exact hasR_of (by assumption) (by decide))); rintro _ rfl; try rw [hR1.f.g])
      (refine ⟨?_, ?_⟩; (focus (first | exact hasI_of (by assumption) (by decide) | exact hasR_of (by assumption) (by decide))); rintro _ rfl; try rw [hR1.f.g])
      refine ⟨_, rfl, ?_⟩
      (refine ⟨?_, ?_⟩; (focus (first | exact hasI_of (by assumption) (by decide) | exact hasR_of (by assumption) (by decide))); rintro _ rfl; try rw [hR1.f.f 50 (by decide)])
      refine ⟨_, rfl, ?_⟩
      (refine ⟨u.length, ⟨_, hR1.kf 50 (by decide) rfl, rfl, by omega, by decide⟩, ?_⟩; rintro _ rfl; try rw [hget])
      refine ⟨_, rfl, ?_⟩
      refine ⟨⟨_, _, by assumption, by decide⟩, 0, 0, by omega, by omega, ?_⟩
      have hlen1 : (u ++ [e + 1]).length = u.length + 1 := by simp
      refine t_isShown hw hR1 he hie (fun hs => ⟨fun _ => ?_, fun h => absurd h (by decide)⟩) (fun hs => ⟨fun h => absurd rfl h, fun _ => ?_⟩)
      · have hf1 : (u ++ [e + 1]).filter (tb G G.ne) = u.filter (tb G G.ne) ++ [e + 1] := by
          rw [List.filter_append, List.filter_cons_of_pos (tb_s.mpr hs)]; rfl
        have hfl1 : ((u ++ [e + 1]).filter (tb G G.ne)).length = (u.filter (tb G G.ne)).length + 1 := by rw [hf1]; simp
        (refine ⟨?_, ?_⟩; (focus (first | exact hasI_of (by assumption) (by decide) | exact hasR_of (by assumption) (by decide))); rintro _ rfl; try rw [hR1.f.g])
        refine ⟨_, rfl, ?_⟩
        (refine ⟨?_, ?_⟩; (focus (first | exact hasI_of (by assumption) (by decide) | exact hasR_of (by assumption) (by decide))); rintro _ rfl; try rw [hR1.f.f 40 (by decide)])
        (refine ⟨?_, ?_⟩; (focus (first | exact hasI_of (by assumption) (by decide) | exact hasR_of (by assumption) (by decide))); rintro _ rfl; try rw [hR1.f.g])
        refine ⟨_, rfl, ?_⟩
        (refine ⟨?_, ?_⟩; (focus (first | exact hasI_of (by assumption) (by decide) | exact hasR_of (by assumption) (by decide))); rintro _ rfl; try rw [hR1.f.f 50 (by decide)])
        refine ⟨_, rfl, ?_⟩
        (refine ⟨u.length, ⟨_, hR1.kf 50 (by decide) rfl, rfl, by omega, by decide⟩, ?_⟩; rintro _ rfl; try rw [hget])
        refine ⟨_, rfl, ?_⟩
        (refine ⟨e, ⟨_, hR1.kf 40 (by decide) rfl, rfl, by omega, by decide⟩, ?_⟩; rintro _ rfl; try rw [hR1.c.cd e he hie])
        rw [nI_1, nI_1, nI_1]
        refine ⟨fun hcd => ?_, fun hcd => ?_⟩
        · have hN : nlA G ((u ++ [e + 1]).filter (tb G G.ne)) 0 = nlA G (u.filter (tb G G.ne)) 0 ++ [(u.filter (tb G G.ne)).length + 1] := by
            rw [hf1, nlA_app, Nat.zero_add]
            congr 1
            exact if_pos hcd
          have hNl : (nlA G ((u ++ [e + 1]).filter (tb G G.ne)) 0).length = (nlA G (u.filter (tb G G.ne)) 0).length + 1 := by rw [hN]; simp
          refine ⟨fun hq => ?_, fun hq => ?_⟩
          · have := ih (u ++ [e + 1]) bg nxt (by rw [hN]; exact bgR_add (by omega) hbg hq)
            rw [hNl, hfl1, hlen1] at this
            exact this
          · have := ih (u ++ [e + 1]) (nI ((u.filter (tb G G.ne)).length + 1)) nxt (by
              rw [hN]
              refine Or.inr (Or.inl ⟨(nlA G (u.filter (tb G G.ne)) 0).length, _, hq.symm, ?_, rfl⟩)
              rw [List.getElem?_append_right (Nat.le_refl _), Nat.sub_self]
              rfl)
            rw [hNl, hfl1, hlen1] at this
            exact this
        · have hN : nlA G ((u ++ [e + 1]).filter (tb G G.ne)) 0 = nlA G (u.filter (tb G G.ne)) 0 := by
            rw [hf1, nlA_app]
            have : nlA G [e + 1] (0 + (u.filter (tb G G.ne)).length) = [] := if_neg hcd
            rw [this, List.append_nil]
          have := ih (u ++ [e + 1]) bg nxt (by rw [hN]; exact hbg)
          rw [hN, hfl1, hlen1] at this
          exact this
      · have hf1 : (u ++ [e + 1]).filter (tb G G.ne) = u.filter (tb G G.ne) := by
          rw [List.filter_append, List.filter_cons_of_neg (fun h => hs (tb_s.mp h))]; simp
        rw [nI_1]
        have := ih (u ++ [e + 1]) bg nxt (by rw [hf1]; exact hbg)
        rw [hf1, hlen1] at this
        exact this
  unfold w_M_line0
  refine ⟨fun h => ⟨_, loop t [] (-1) rfl (Or.inr (Or.inr ⟨h, (fun k p _ hk => nomatch hk), rfl⟩))⟩, fun h => ⟨_, loop t [] 0 rfl (Or.inl ⟨h, rfl⟩)⟩⟩
end MLN
