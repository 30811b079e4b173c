section LLO
variable {z mi mc ms : Nat} {G G2 : AG} {A A2 : CA} {M M2 : MA} {g g1 g2 : Sg} {L1 L2 : List Nat} {o L : Nat} {xs : Nat → Int32} {kc ks j : Nat}
def sm (f : Nat → Nat) : Nat → Nat
  | 0 => 0
  | n + 1 => sm f n + f n
theorem sm_le {f : Nat → Nat} {B : Nat} : ∀ n, (∀ t, t < n → f t ≤ B) → sm f n ≤ n * B := by
  intro n
  induction n with
  | zero => intro _; exact Nat.zero_le _
  | succ n ih =>
    intro h
    have h1 := ih (fun t ht => h t (by omega))
    have h2 := h n (by omega)
    unfold sm
    rw [Nat.succ_mul]
    omega
theorem sm_cg {f f' : Nat → Nat} : ∀ n, (∀ t, t < n → f' t = f t) → sm f' n = sm f n := by
  intro n
  induction n with
  | zero => intro _; rfl
  | succ n ih =>
    intro h
    unfold sm
    rw [ih (fun t ht => h t (by omega)), h n (by omega)]
theorem sm_up {f f' : Nat → Nat} {s : Nat} (h : ∀ t, t ≠ s → f' t = f t) : ∀ n, s < n → sm f' n + f s = sm f n + f' s := by
  intro n
  induction n with
  | zero => intro hs; omega
  | succ n ih =>
    intro hs
    unfold sm
    by_cases hn : s = n
    · subst hn
      rw [sm_cg s (fun t ht => h t (by omega))]
      omega
    · have := ih (by omega)
      rw [h n (fun e => hn e.symm)]
      omega
theorem co_le {cap n : Nat} (h : n ≤ 8192) : co cap n ≤ 12300 := by
  unfold co newc
  split
  · split <;> omega
  · omega
theorem wc_le {q : Nat} : ∀ (m hc ct ac ne : Nat), ct + m ≤ 8192 → ne + m ≤ 8192 → wcost q m hc ct ac ne ≤ m * (q + 24600) := by
  intro m
  induction m with
  | zero => intros; exact Nat.zero_le _
  | succ m ih =>
    intro hc ct ac ne h1 h2
    have a := ih (cp2 hc ct) (ct + 1) (cp2 ac ne) (ne + 1) (by omega) (by omega)
    have b := co_le (cap := hc) (n := ct) (by omega)
    have c := co_le (cap := ac) (n := ne) (by omega)
    unfold wcost
    rw [Nat.succ_mul]
    omega
def PO (G : AG) (A : CA) (M : MA) (kc ks j : Nat) : Prop := (5 * kc ≤ 350 + 410 * j) ∧ (ks ≤ 301000 + 60 * j + 13 * G.ne + 4 * (sm A.hc 16 + A.ac) + 2 * sm M.rl 16)
theorem PO.c {G : AG} {A : CA} {M : MA} {kc ks j : Nat} (h : PO G A M kc ks j) : 5 * kc ≤ 350 + 410 * j := h.1
theorem PO.s {G : AG} {A : CA} {M : MA} {kc ks j : Nat} (h : PO G A M kc ks j) : ks ≤ 301000 + 60 * j + 13 * G.ne + 4 * (sm A.hc 16 + A.ac) + 2 * sm M.rl 16 := h.2
theorem PO.mk {G : AG} {A : CA} {M : MA} {kc ks j : Nat} (h0 : 5 * kc ≤ 350 + 410 * j) (h1 : ks ≤ 301000 + 60 * j + 13 * G.ne + 4 * (sm A.hc 16 + A.ac) + 2 * sm M.rl 16) : PO G A M kc ks j := ⟨h0, h1⟩
theorem PO.b (h : LI z G A M L1 L2 o g) (p : PO G A M kc ks j) (hj : j ≤ 2555) : kc ≤ 210000 ∧ ks ≤ 2000000 := by
  have hne := h.w.ne_le
  have h1 : sm A.hc 16 ≤ 16 * 12298 := sm_le 16 (fun t ht => by
    by_cases hn : t < G.na
    · obtain ⟨-, q, -⟩ := h.c.l.hrow t hn
      have := h.w.ct_le t hn
      omega
    · rw [h.hz t (by omega)]; omega)
  have h2 : A.ac ≤ 12298 := by
    obtain ⟨-, q, -⟩ := h.c.l.row
    omega
  have h3 : sm M.rl 16 ≤ 16 * 16384 := sm_le 16 (fun t ht => (h.m.k.rl t ht).2)
  have pc := p.c
  have ps := p.s
  omega
theorem l_loop (hL : L ≤ 2560) : ∀ (n j : Nat) (G : AG) (A : CA) (M : MA) (L1 L2 : List Nat) (g : Sg) (kc ks : Nat), LI z G A M L1 L2 o g → (∀ e, e ∈ L1 ↔ e ∈ L2) → L1.length = L2.length → PO G A M kc ks j → j ≤ L → L + 1 ≤ j + 5 * n → w_L_law_23 z mi 601024 7293034 L xs n kc ks g (some A.c) (some M.m) (some o) (nI j) := by
  intro n
  induction n with
  | zero => intro j G A M L1 L2 g kc ks h he hl hp hj hn; omega
  | succ n ih =>
    intro j G A M L1 L2 g kc ks h he hl hp hj hn
    unfold w_L_law_23
    rintro _ rfl
    have h5 : (5 : Int32) = nI 5 := rfl
    have hc : nI L - 5 < nI j ↔ ¬ j + 5 ≤ L := by
      rw [h5, Int32.lt_iff_toInt_lt, nI_toInt (by omega), pk_sub_toInt (by omega) (by decide)]
      omega
    rw [hc]
    refine ⟨fun _ => trivial, fun hjl => ?_⟩
    have hjl' : j + 5 ≤ L := by omega
    refine ⟨j, rfl, by omega, ?_⟩
    rintro _ rfl
    obtain ⟨bc, bs⟩ := PO.b h hp (by omega)
    have pc := hp.c
    have ps := hp.s
    have hj4 : j + 4 < L := by omega
    have nx : nxt z G A M o (w_L_law_23 z mi 601024 7293034 L xs n) kc ks j := by
      intro K1 K2 g2 kc2 ks2 hk hs h2 he2 hl2
      rw [ix5]
      exact ih (j + 5) G A M K1 K2 g2 kc2 ks2 h2 he2 hl2 (PO.mk (by omega) (by omega)) (by omega) (by omega)
    refine ⟨fun _ => l_parent h he hl hj4 (by omega) (by omega) nx, fun _ => l_heads h hj4 (by omega) (by omega) nx, fun _ => l_seen h he hl hj4 (by omega) (by omega) nx, fun _ => ?_, fun _ => ?_, fun _ => l_length h he hl hj4 (by omega) (by omega) nx, fun _ => l_at h he hl hj4 (by omega) (by omega) nx, fun _ => l_who h he hl hj4 (by omega) (by omega) nx, fun _ => l_spot h he hl hj4 (by omega) (by omega) nx, fun _ => l_was h he hl hj4 (by omega) (by omega) nx, fun _ => l_wasAt h he hl hj4 (by omega) (by omega) nx, fun _ => l_line h he hl hj4 (by omega) (by omega) nx, fun _ => l_events h he hl hj4 (by omega) (by omega) nx, fun _ => ?_⟩
    · by_cases hS : ∃ a i m s G0, arg1 (xs (j + 1)) (xs (j + 2)) (xs (j + 4)) a i m ∧ arg2 (xs (j + 3)) m ∧ go1 G L1 (xs (j + 1)) ∧ i ≤ (seL G (vL G L1)).length ∧ rm1 G (xs (j + 1)) m ∧ au G a G0 s
      · obtain ⟨a, i, m, s, G0, q1, q2, q3, q4, q5, q6⟩ := hS
        obtain ⟨hw0, ok⟩ := ed_ok h.w h.ci.lt q1 q3 q5 q6
        have hs16 : s < 16 := by have := hw0.na_le; have := ok.s; omega
        have ene := au_ne q6
        have hct := hw0.ct_le s ok.s
        have hm100 : m ≤ 100 := q1.2.2.2.2.2.2
        have hnm := q5.1
        have hrl := (h.m.k.rl s hs16).2
        have b1 := wc_le (q := 13) m (A.hc s) (G0.ct s) A.ac G.ne (by omega) (by omega)
        have b2 := mcost_le m (M.rl s) (G0.ct s)
        have b3 : m * (13 + 24600) ≤ 100 * (13 + 24600) := Nat.mul_le_mul_right _ hm100
        refine l_insert (C1 := 28 + wcost 13 m (A.hc s) (G0.ct s) A.ac G.ne) (C2 := 30 + mcost m (M.rl s) (G0.ct s)) h he hl hj4 (by omega) (by omega) (by omega) (by omega) (fun a' i' m' s' G0' r1 _ _ _ _ r6 => ?_) (fun a' i' m' s' G0' r1 _ _ _ _ r6 => ?_) (fun r K1 K2 g2 hO hr _ _ _ => (oE_no hO hr q1 q2 q3 q4 q5).elim) (fun G2 A2 M2 g2 a' i' m' s' G0' hO r1 r6 hn2 h2 ec em hhc hpo hrw => ?_)
        · obtain ⟨rfl, rfl, rfl⟩ := arg1_uq q1 r1
          obtain ⟨rfl, rfl⟩ := au_uq h.w q6 r6
          exact Nat.le_refl _
        · obtain ⟨rfl, rfl, rfl⟩ := arg1_uq q1 r1
          obtain ⟨rfl, rfl⟩ := au_uq h.w q6 r6
          exact Nat.le_refl _
        · obtain ⟨rfl, rfl, rfl⟩ := arg1_uq q1 r1
          obtain ⟨rfl, rfl⟩ := au_uq h.w q6 r6
          rw [ix5, ← ec, ← em]
          have u1 := sm_up hhc 16 hs16
          have u2 := sm_up hrw.o 16 hs16
          have u3 := hrw.po
          have pp : PO G2 A2 M2 (kc + 304 + 104 + 0) (ks + (28 + wcost 13 m (A.hc s) (G0.ct s) A.ac G.ne) + (30 + mcost m (M.rl s) (G0.ct s)) + 0) (j + 5) := by
            refine PO.mk (by clear ps b1 b2 b3 u1 u2 u3 hpo; omega) ?_
            clear b1 b2 b3 bs
            rw [hn2]
            generalize wcost 13 m (A.hc s) (G0.ct s) A.ac G.ne = w1 at hpo ⊢
            generalize mcost m (M.rl s) (G0.ct s) = w2 at u3 ⊢
            generalize sm A.hc 16 = S1 at ps u1
            generalize sm A2.hc 16 = S2 at u1 ⊢
            generalize sm M.rl 16 = S3 at ps u2
            generalize sm M2.rl 16 = S4 at u2 ⊢
            omega
          exact ih (j + 5) G2 A2 M2 [] [] g2 _ _ h2 (fun _ => Iff.rfl) rfl pp (by omega) (by omega)
      · refine l_insert (C1 := 28) (C2 := 30) h he hl hj4 (by omega) (by omega) (by omega) (by omega) (fun a i m s G0 q1 q2 q3 q4 q5 q6 => absurd ⟨a, i, m, s, G0, q1, q2, q3, q4, q5, q6⟩ hS) (fun a i m s G0 q1 q2 q3 q4 q5 q6 => absurd ⟨a, i, m, s, G0, q1, q2, q3, q4, q5, q6⟩ hS) (fun r K1 K2 g2 hO hr h2 he2 hl2 => ?_) (fun G2 A2 M2 g2 a' i' m' s' G0' hO r1 r6 hn2 h2 ec em hhc hpo hrw => ?_)
        · rw [ix5]
          exact ih (j + 5) G A M K1 K2 g2 _ _ h2 he2 hl2 (PO.mk (by omega) (by omega)) (by omega) (by omega)
        · obtain ⟨a, i, m, q1, q2, q3, q4, q5, s, G0, q6, -⟩ := oE_go hO
          exact absurd ⟨a, i, m, s, G0, q1, q2, q3, q4, q5, q6⟩ hS
    · by_cases hS : ∃ a i m s G0, arg1 (xs (j + 1)) (xs (j + 2)) (xs (j + 3)) a i m ∧ go1 G L1 (xs (j + 1)) ∧ i + m ≤ (seL G (vL G L1)).length ∧ rm1 G (xs (j + 1)) m ∧ au G a G0 s
      · obtain ⟨a, i, m, s, G0, q1, q3, q4, q5, q6⟩ := hS
        obtain ⟨hw0, ok⟩ := ed_ok h.w h.ci.lt q1 q3 q5 q6
        have hs16 : s < 16 := by have := hw0.na_le; have := ok.s; omega
        have ene := au_ne q6
        have hct := hw0.ct_le s ok.s
        have hm100 : m ≤ 100 := q1.2.2.2.2.2.2
        have hnm := q5.1
        have hrl := (h.m.k.rl s hs16).2
        have b1 := wc_le (q := 6) m (A.hc s) (G0.ct s) A.ac G.ne (by omega) (by omega)
        have b2 := mcost_le m (M.rl s) (G0.ct s)
        have b3 : m * (6 + 24600) ≤ 100 * (6 + 24600) := Nat.mul_le_mul_right _ hm100
        refine l_delete (C1 := 28 + wcost 6 m (A.hc s) (G0.ct s) A.ac G.ne) (C2 := 30 + mcost m (M.rl s) (G0.ct s)) h he hl hj4 (by omega) (by omega) (by omega) (by omega) (fun a' i' m' s' G0' r1 _ _ _ r6 => ?_) (fun a' i' m' s' G0' r1 _ _ _ r6 => ?_) (fun r K1 K2 g2 hO hr _ _ _ => (oE_no hO hr q1 trivial q3 q4 q5).elim) (fun G2 A2 M2 g2 a' i' m' s' G0' hO r1 r6 hn2 h2 ec em hhc hpo hrw => ?_)
        · obtain ⟨rfl, rfl, rfl⟩ := arg1_uq q1 r1
          obtain ⟨rfl, rfl⟩ := au_uq h.w q6 r6
          exact Nat.le_refl _
        · obtain ⟨rfl, rfl, rfl⟩ := arg1_uq q1 r1
          obtain ⟨rfl, rfl⟩ := au_uq h.w q6 r6
          exact Nat.le_refl _
        · obtain ⟨rfl, rfl, rfl⟩ := arg1_uq q1 r1
          obtain ⟨rfl, rfl⟩ := au_uq h.w q6 r6
          rw [ix5, ← ec, ← em]
          have u1 := sm_up hhc 16 hs16
          have u2 := sm_up hrw.o 16 hs16
          have u3 := hrw.po
          have pp : PO G2 A2 M2 (kc + 304 + 104 + 0) (ks + (28 + wcost 6 m (A.hc s) (G0.ct s) A.ac G.ne) + (30 + mcost m (M.rl s) (G0.ct s)) + 0) (j + 5) := by
            refine PO.mk (by clear ps b1 b2 b3 u1 u2 u3 hpo; omega) ?_
            clear b1 b2 b3 bs
            rw [hn2]
            generalize wcost 6 m (A.hc s) (G0.ct s) A.ac G.ne = w1 at hpo ⊢
            generalize mcost m (M.rl s) (G0.ct s) = w2 at u3 ⊢
            generalize sm A.hc 16 = S1 at ps u1
            generalize sm A2.hc 16 = S2 at u1 ⊢
            generalize sm M.rl 16 = S3 at ps u2
            generalize sm M2.rl 16 = S4 at u2 ⊢
            omega
          exact ih (j + 5) G2 A2 M2 [] [] g2 _ _ h2 (fun _ => Iff.rfl) rfl pp (by omega) (by omega)
      · refine l_delete (C1 := 28) (C2 := 30) h he hl hj4 (by omega) (by omega) (by omega) (by omega) (fun a i m s G0 q1 q3 q4 q5 q6 => absurd ⟨a, i, m, s, G0, q1, q3, q4, q5, q6⟩ hS) (fun a i m s G0 q1 q3 q4 q5 q6 => absurd ⟨a, i, m, s, G0, q1, q3, q4, q5, q6⟩ hS) (fun r K1 K2 g2 hO hr h2 he2 hl2 => ?_) (fun G2 A2 M2 g2 a' i' m' s' G0' hO r1 r6 hn2 h2 ec em hhc hpo hrw => ?_)
        · rw [ix5]
          exact ih (j + 5) G A M K1 K2 g2 _ _ h2 he2 hl2 (PO.mk (by omega) (by omega)) (by omega) (by omega)
        · obtain ⟨a, i, m, q1, -, q3, q4, q5, s, G0, q6, -⟩ := oE_go hO
          exact absurd ⟨a, i, m, s, G0, q1, q3, q4, q5, q6⟩ hS
    · rw [ix5]
      exact ih (j + 5) G A M L1 L2 g kc ks h he hl (PO.mk (by omega) (by omega)) (by omega) (by omega)
theorem t_law (hL : L ≤ 2560) : w_L_law z mi 601024 7293034 L xs g := by
  unfold w_L_law
  refine ⟨by omega, by omega, fun c hc => ?_⟩
  rintro _ rfl
  obtain ⟨n1, -⟩ := cl_new 4 8 hc
  refine ⟨8, 90, by omega, by omega, ?_⟩
  refine t_Cinit n1 (by omega) (by omega) (fun A g1 hR hRi ec eac ehc => ?_)
  refine ⟨by omega, by omega, fun m hm => ?_⟩
  rintro _ rfl
  refine ⟨50, 300200, by omega, by omega, ?_⟩
  refine t_Minit (g0 := g1) (hT9 _ _ _ _) (fun x => fI_nO _) hm ((lv.refl g1).nO hm) (by omega) (by omega) (fun M g2 hM hMi hho em hrl hlv hgr hf hrw h56 => ?_)
  refine ⟨1, rfl, by omega, by omega, by omega, fun o ho => ?_⟩
  rintro _ rfl
  have hlo : lv g2 (nO g2 o 103 1) := (lv.refl g2).nO ho
  have hvw := nn hR.k.vw
  have vf : ∀ i, isF i → A.vw ≠ M.f i := fun i hi e => hvw (by rw [e]; exact hf i hi)
  have vr : ∀ s, s < 16 → A.vw ≠ M.rw s := fun s hs e => hvw (by rw [e]; exact hrw s hs)
  have hR2 := (hR.lv G0_wf hlv).lv G0_wf hlo
  have hRi2 := (hRi.lv hR.k hlv).lv (hR.lv G0_wf hlv).k hlo
  have hLI : LI z G0 A M [] [] o (nO g2 o 103 1) := LI.mk G0_wf hR2 hRi2 (hM.fc G0_wf (hlo.fc A.vw) vf vr) (hMi.fc hM.k (hlo.fc A.vw) vf) hho (hT9 _ _ _ _) vf vr (fun e he => absurd he (Nat.not_lt_zero e)) (fun t _ => ehc t)
  refine ⟨L + 1, ?_⟩
  have := l_loop (mi := mi) (xs := xs) hL (L + 1) 0 G0 A M [] [] (nO g2 o 103 1) (0 + 1 + 8 + 1 + 50 + 1) (0 + 8 + 90 + 6 + 300200 + 1) hLI (fun _ => Iff.rfl) rfl (PO.mk (by omega) (by omega)) (Nat.zero_le _) (by omega)
  rw [ec, em] at this
  exact this
end LLO
