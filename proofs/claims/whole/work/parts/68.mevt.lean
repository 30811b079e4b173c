section ME
variable {z mi mc ms : Nat} {G : AG} {M : MA} {g : Sg} {L : List Nat} {V : Nat → Nat}
theorem t_Mevents (hw : WF G) (hR : RM G M g) {x : Int32} (hmc : 1 ≤ mc) (hms : 6 ≤ ms) {post : Int32 → Sg → Prop} (k1 : x = -1 → post (nI G.ne) (wI g 56 M.m 0)) (kx : x ≠ -1 → (∀ a, a ≤ 255 → x ≠ nI a) → post 0 (wI (wI g 56 M.m 0) 56 M.m 1)) (k2 : ∀ s, s < G.na → nI (G.nm s) = x → post (nI (G.ct s)) (wI g 56 M.m 0)) (k3 : ∀ a, a ≤ 255 → x = nI a → (∀ s, s < G.na → nI (G.nm s) ≠ x) → post 0 (wI g 56 M.m 0)) : w_M_events z mi mc ms post g M.m x := by
  have hm := hR.k.m
  have hna := hw.na_le
  have hm1i : (-1 : Int32).toInt = -1 := rfl
  have h255 : (255 : Int32) = nI 255 := rfl
  unfold w_M_events
  refine ⟨hasI_of hm (by decide), ?_⟩
  rintro _ rfl
  have hR1 := hR.w56 M.m 0
  have hm1 := hR1.k.m
  have hg1 := hR1.k.gr
  refine ⟨⟨_, _, hm1, by decide⟩, 1, 6, by omega, by omega, ?_⟩
  unfold w_M_events0
  refine ⟨0, 0, by omega, by omega, ?_⟩
  have bad : (x < -1 ∨ (255 : Int32) < x) → x ≠ -1 ∧ ∀ a, a ≤ 255 → x ≠ nI a := fun h => by
    refine ⟨fun e => ?_, fun a ha e => ?_⟩
    · rcases h with h | h
      · rw [e] at h; exact absurd h (by decide)
      · rw [e] at h; exact absurd h (by decide)
    · rcases h with h | h
      · rw [e, Int32.lt_iff_toInt_lt, nI_toInt (by omega), hm1i] at h; omega
      · rw [e, h255, nI_ltI (by omega) (by omega)] at h; omega
  have no : (x < -1 ∨ (255 : Int32) < x) → ∃ c15 c16 : Nat, (0 + 0) + c15 ≤ 1 ∧ (0 + 0) + c16 ≤ 6 ∧ w_M_check z mi c15 c16 (fun (g17 : Sg) => (0 ≤ x → (hasR g17 M.m 51 ∧ ∀ o18 : Option Nat, o18 = fR g17 51 M.m → ∃ a19, o18 = some a19 ∧ (isK g17 a19 [5] ∧ ∃ c20 c21 : Nat, ((0 + 0) + c15) + c20 ≤ 1 ∧ ((0 + 0) + c16) + c21 ≤ 6 ∧ w_G_countOf z mi c20 c21 (fun (x23 : Int32) (g22 : Sg) => post x23 g22) g17 a19 x))) ∧ (¬ 0 ≤ x → (hasR g17 M.m 51 ∧ ∀ o25 : Option Nat, o25 = fR g17 51 M.m → ∃ a26, o25 = some a26 ∧ (hasI g17 a26 29 ∧ ∀ x27 : Int32, x27 = fI g17 29 a26 → post x27 g17)))) (fun (i16 : Nat) (g17 : Sg) => (i16 = 3 ∧ (hasI g17 M.m 56 ∧ ∀ g20 : Sg, g20 = wI g17 56 M.m (1 : Int32) → post (0 : Int32) g20))) (wI g 56 M.m 0) 0 := fun h => by
    refine ⟨1, 6, by omega, by omega, ?_⟩
    unfold w_M_check
    refine ⟨fun h' => absurd rfl h', fun _ => ⟨by omega, by omega, rfl, hasI_of hm1 (by decide), ?_⟩⟩
    rintro _ rfl
    exact kx (bad h).1 (bad h).2
  unfold w_M_in
  refine ⟨fun h => no (Or.inl h), fun h => ⟨fun h' => no (Or.inr h'), fun h' => ?_⟩⟩
  refine ⟨0, 0, by omega, by omega, ?_⟩
  unfold w_M_check
  refine ⟨fun _ => ⟨fun h0 => ?_, fun h0 => ?_⟩, fun h => absurd h (by decide)⟩
  · have hn0 : ¬ x < 0 := fun hlt => by
      rw [Int32.lt_iff_toInt_lt] at hlt
      rw [Int32.le_iff_toInt_le] at h0
      omega
    obtain ⟨a, ha, rfl⟩ := nI_of hn0
    rw [h255, nI_ltI (by omega) ha] at h'
    (refine ⟨?_, ?_⟩; (focus (first | exact hasI_of (by assumption) (by decide) | exact hasR_of (by assumption) (by decide))); rintro _ rfl; try rw [hR1.f.g])
    refine ⟨_, rfl, ?_⟩
    refine ⟨⟨_, _, by assumption, by decide⟩, 0, 0, by omega, by omega, ?_⟩
    unfold w_G_countOf
    refine ⟨⟨_, _, by assumption, by decide⟩, 0, 0, by omega, by omega, ?_⟩
    refine t_slotOf hw hR1 (fun s hs hx => ⟨fun _ => ?_, fun h => absurd (nI_pos' (by omega)) h⟩) (fun hno => ⟨fun h => absurd h (by decide), fun _ => k3 a (by omega) rfl hno⟩)
    (refine ⟨?_, ?_⟩; (focus (first | exact hasI_of (by assumption) (by decide) | exact hasR_of (by assumption) (by decide))); rintro _ rfl; try rw [hR1.f.f 33 (by decide)])
    refine ⟨_, rfl, ?_⟩
    (refine ⟨s, ⟨_, hR1.kf 33 (by decide) rfl, rfl, by omega, by decide⟩, ?_⟩; rintro _ rfl; try rw [hR1.c.ct s (by omega), if_pos hs])
    exact k2 s hs hx
  · have hx1 : x = -1 := by
      apply Int32.toInt_inj.mp
      rw [Int32.lt_iff_toInt_lt, hm1i] at h
      rw [Int32.le_iff_toInt_le] at h0
      have e0 : (0 : Int32).toInt = 0 := rfl
      rw [e0] at h0
      rw [hm1i]; omega
    (refine ⟨?_, ?_⟩; (focus (first | exact hasI_of (by assumption) (by decide) | exact hasR_of (by assumption) (by decide))); rintro _ rfl; try rw [hR1.f.g])
    refine ⟨_, rfl, ?_⟩
    (refine ⟨?_, ?_⟩; (focus (first | exact hasI_of (by assumption) (by decide) | exact hasR_of (by assumption) (by decide))); rintro _ rfl; try rw [hR1.c.ne])
    exact k1 hx1
theorem t_MwasAt (hw : WF G) (hR : RM G M g) {x y : Int32} (hmc : 1 ≤ mc) (hms : 6 ≤ ms) {post : Int32 → Sg → Prop} (kx : (∀ n e, n ≤ G.ne → x = nI n → ¬ tA G n y e) → post 0 (wI (wI g 56 M.m 0) 56 M.m 1)) (kr : ∀ n e, n ≤ G.ne → x = nI n → tA G n y e → post (G.cd e) (wI g 56 M.m 0)) : w_M_wasAt z mi mc ms post g M.m x y := by
  have hm := hR.k.m
  have hne := hw.ne_le
  unfold w_M_wasAt
  refine ⟨hasI_of hm (by decide), ?_⟩
  rintro _ rfl
  have hR1 := hR.w56 M.m 0
  have hm1 := hR1.k.m
  have hg1 := hR1.k.gr
  refine ⟨⟨_, _, hm1, by decide⟩, 1, 6, by omega, by omega, ?_⟩
  unfold w_M_wasAt0
  (refine ⟨?_, ?_⟩; (focus (first | exact hasI_of (by assumption) (by decide) | exact hasR_of (by assumption) (by decide))); rintro _ rfl; try rw [hR1.f.g])
  refine ⟨_, rfl, ?_⟩
  (refine ⟨?_, ?_⟩; (focus (first | exact hasI_of (by assumption) (by decide) | exact hasR_of (by assumption) (by decide))); rintro _ rfl; try rw [hR1.c.ne])
  refine ⟨0, 0, by omega, by omega, ?_⟩
  refine in_lem (lo := 0) (fun h1 h2 => ⟨fun _ => ?_, fun h => absurd h (by decide)⟩) (fun h => ⟨fun h => absurd rfl h, fun _ => ⟨by omega, by omega, rfl, hasI_of hm1 (by decide), ?_⟩⟩)
  · obtain ⟨n, hn, rfl⟩ := (ne_in hw).mp ⟨h1, h2⟩
    obtain ⟨t, ht, htl, hno, hod, hpos⟩ := hR1.row hw
    have htx : tx G n = t.filter (tb G n) := by
      unfold tx
      rw [ht, List.filter_cons_of_neg (by rw [tb_0]; decide)]
    have un : ∀ n', n' ≤ G.ne → nI n = nI n' → n' = n := fun n' hn' e => ((eI (by omega) (by omega)).mp e).symm
    have out : (∀ e, ¬ tA G n y e) → (hasI (wI g 56 M.m 0) M.m 56 ∧ ∀ g20 : Sg, g20 = wI (wI g 56 M.m 0) 56 M.m (1 : Int32) → post (0 : Int32) g20) := fun h => ⟨hasI_of hm1 (by decide), fun g20 e20 => by
      subst e20
      exact kx (fun n' e hn' hx => by rw [un n' hn' hx]; exact h e)⟩
    by_cases hy : y < 0
    · have hno' : ∀ e, ¬ tA G n y e := fun e ⟨j, h1, h2, _⟩ => by rw [h1] at hy; exact nI_pos h2 hy
      refine ⟨1, ?_⟩
      unfold w_M_wasAt0_28
      (refine ⟨?_, ?_⟩; (focus (first | exact hasI_of (by assumption) (by decide) | exact hasR_of (by assumption) (by decide))); rintro _ rfl; try rw [hR1.f.g])
      refine ⟨_, rfl, ?_⟩
      (refine ⟨?_, ?_⟩; (focus (first | exact hasI_of (by assumption) (by decide) | exact hasR_of (by assumption) (by decide))); rintro _ rfl; try rw [hno])
      exact ⟨fun _ => ⟨by omega, by omega, rfl, out hno'⟩, fun _ => ⟨fun _ => ⟨by omega, by omega, rfl, out hno'⟩, fun h => absurd hy h⟩⟩
    · obtain ⟨i, hi, rfl⟩ := nI_of hy
      have loop : ∀ (w u : List Nat) (j : Nat), t = u ++ w → (u.filter (tb G n)).length + j = i → w_M_wasAt0_28 z mi 1 6 (fun x15 g14 => post x15 g14) (fun (i16 : Nat) (g17 : Sg) => (i16 = 4 ∧ (hasI g17 M.m 56 ∧ ∀ g20 : Sg, g20 = wI g17 56 M.m (1 : Int32) → post (0 : Int32) g20))) (w.length + 1) 0 0 (wI g 56 M.m 0) M.m (nI n) (nI j) (nI u.length) := by
        intro w
        induction w with
        | nil =>
          intro u j htu hcj
          rw [List.append_nil] at htu
          have hno' : ∀ e, ¬ tA G n (nI i) e := fun e ⟨j', h1, h2, h3⟩ => by
            have e1 := (nI_eq hi h2).mp h1
            have := (List.getElem?_eq_some_iff.mp h3).1
            rw [htx, htu] at this
            omega
          unfold w_M_wasAt0_28
          (refine ⟨?_, ?_⟩; (focus (first | exact hasI_of (by assumption) (by decide) | exact hasR_of (by assumption) (by decide))); rintro _ rfl; try rw [hR1.f.g])
          refine ⟨_, rfl, ?_⟩
          (refine ⟨?_, ?_⟩; (focus (first | exact hasI_of (by assumption) (by decide) | exact hasR_of (by assumption) (by decide))); rintro _ rfl; try rw [hno])
          exact ⟨fun _ => ⟨by omega, by omega, rfl, out hno'⟩, fun h => absurd (by rw [htu]; exact Int32.le_refl _) h⟩
        | cons x w ih =>
          intro u j htu hcj
          obtain ⟨e, rfl, he, hie⟩ := hpos x (by rw [htu]; simp)
          have hul : u.length < t.length := by
            rw [htu, List.length_append, List.length_cons]
            omega
          have hget : aI (wI g 56 M.m 0) (M.f 50) u.length = nI e := hod u.length e (by rw [htu]; exact get_mid)
          have nxt : t = (u ++ [e + 1]) ++ w := by rw [htu]; simp
          show w_M_wasAt0_28 z mi 1 6 _ _ ((w.length + 1) + 1) 0 0 _ M.m (nI n) (nI j) (nI u.length)
          unfold w_M_wasAt0_28
          (refine ⟨?_, ?_⟩; (focus (first | exact hasI_of (by assumption) (by decide) | exact hasR_of (by assumption) (by decide))); rintro _ rfl; try rw [hR1.f.g])
          refine ⟨_, rfl, ?_⟩
          (refine ⟨?_, ?_⟩; (focus (first | exact hasI_of (by assumption) (by decide) | exact hasR_of (by assumption) (by decide))); rintro _ rfl; try rw [hno])
          refine ⟨fun h => absurd ((lI (by omega) (by omega)).mp h) (by omega), fun _ => ⟨fun h => absurd h (nI_pos (by omega)), fun _ => ?_⟩⟩
          (refine ⟨?_, ?_⟩; (focus (first | exact hasI_of (by assumption) (by decide) | exact hasR_of (by assumption) (by decide))); rintro _ rfl; try rw [hR1.f.g])
          refine ⟨_, rfl, ?_⟩
          (refine ⟨?_, ?_⟩; (focus (first | exact hasI_of (by assumption) (by decide) | exact hasR_of (by assumption) (by decide))); rintro _ rfl; try rw [hR1.f.f 50 (by decide)])
          refine ⟨_, rfl, ?_⟩
          (refine ⟨u.length, ⟨_, hR1.kf 50 (by decide) rfl, rfl, by omega, by decide⟩, ?_⟩; rintro _ rfl; try rw [hget])
          refine ⟨⟨_, _, by assumption, by decide⟩, 0, 0, by omega, by omega, ?_⟩
          refine t_stood hw hR1 he hie hn (fun hs => ⟨fun _ => ⟨fun hj0 => ?_, fun hj0 => ?_⟩, fun h => absurd h (by decide)⟩) (fun hs => ⟨fun h => absurd rfl h, fun _ => ?_⟩)
          · have hjp : j ≠ 0 := fun e0 => hj0 (by rw [e0]; rfl)
            obtain ⟨m, rfl⟩ : ∃ m, j = m + 1 := ⟨j - 1, by omega⟩
            rw [nI_1, nI_dec]
            have := ih (u ++ [e + 1]) m nxt (by rw [List.filter_append, List.length_append, List.filter_cons_of_pos (tb_s.mpr hs)]; simp; omega)
            rw [List.length_append] at this
            exact this
          · have hj : j = 0 := (nI_eq (b := 0) (by omega) (by omega)).mp hj0
            subst hj
            (refine ⟨?_, ?_⟩; (focus (first | exact hasI_of (by assumption) (by decide) | exact hasR_of (by assumption) (by decide))); rintro _ rfl; try rw [hR1.f.g])
            refine ⟨_, rfl, ?_⟩
            (refine ⟨?_, ?_⟩; (focus (first | exact hasI_of (by assumption) (by decide) | exact hasR_of (by assumption) (by decide))); rintro _ rfl; try rw [hR1.f.f 40 (by decide)])
            (refine ⟨?_, ?_⟩; (focus (first | exact hasI_of (by assumption) (by decide) | exact hasR_of (by assumption) (by decide))); rintro _ rfl; try rw [hR1.f.g])
            refine ⟨_, rfl, ?_⟩
            (refine ⟨?_, ?_⟩; (focus (first | exact hasI_of (by assumption) (by decide) | exact hasR_of (by assumption) (by decide))); rintro _ rfl; try rw [hR1.f.f 50 (by decide)])
            refine ⟨_, rfl, ?_⟩
            (refine ⟨u.length, ⟨_, hR1.kf 50 (by decide) rfl, rfl, by omega, by decide⟩, ?_⟩; rintro _ rfl; try rw [hget])
            refine ⟨_, rfl, ?_⟩
            (refine ⟨e, ⟨_, hR1.kf 40 (by decide) rfl, rfl, by omega, by decide⟩, ?_⟩; rintro _ rfl; try rw [hR1.c.cd e he hie])
            refine kr n e hn rfl ⟨i, rfl, hi, ?_⟩
            have hcu : i = (u.filter (tb G n)).length := by omega
            rw [htx, htu, List.filter_append, List.filter_cons_of_pos (tb_s.mpr hs), hcu]
            exact get_mid
          · rw [nI_1]
            have hns : ¬ tb G n (e + 1) = true := fun h => hs (tb_s.mp h)
            have := ih (u ++ [e + 1]) j nxt (by rw [List.filter_append, List.length_append, List.filter_cons_of_neg hns]; simp; omega)
            rw [List.length_append] at this
            exact this
      exact ⟨_, loop t [] i rfl (by simp)⟩
  · rintro _ rfl
    refine kx (fun n e hn hx => ?_)
    have := (ne_in hw).mpr ⟨n, hn, hx⟩
    rcases h with h | h
    · exact absurd h this.1
    · exact absurd h this.2
end ME
