section LED
variable {z mi mc ms : Nat} {G G2 : AG} {A A2 : CA} {M M2 : MA} {g g1 g2 : Sg} {L1 L2 : List Nat} {o L : Nat} {xs : Nat → Int32} {K : Nat → Nat → Sg → Option Nat → Option Nat → Option Nat → Int32 → Prop} {kc ks j : Nat}
theorem RC.sL (h : RC z G A g) (v : Int64) : RC z G A (sL g o 0 v) := RC.mk h.k (RCf.mk h.f.ags h.f.arr h.f.rt h.f.li h.f.vw h.f.na h.f.ag h.f.nm h.f.sl h.f.hl) h.l h.e h.s h.o h.d h.t
theorem RCi.sL (h : RCi G A L1 g) (v : Int64) : RCi G A L1 (sL g o 0 v) := RCi.mk h.n h.le h.lt h.nd h.at
theorem RM.sL (h : RM G M g) (v : Int64) : RM G M (sL g o 0 v) := RM.mk h.k (RMf.mk h.f.g h.f.f h.f.l h.f.t h.f.s h.f.rw) (RMc.mk h.c.ne h.c.na h.c.no h.c.rc h.c.nm h.c.ct h.c.ev h.c.rl h.c.sl h.c.nu h.c.pa h.c.ins h.c.cd h.c.lc h.c.rch h.c.de h.c.ord)
theorem RMi.sL (h : RMi G M L1 g) (v : Int64) : RMi G M L1 (sL g o 0 v) := RMi.mk h.n h.le h.lt h.nd h.at
theorem oE_r {ok2 : Nat → Prop} {lim : Nat → Nat → Prop} {run : Nat → Nat → Nat → AG → Prop} {x y w : Int32} {r : Nat} {G3 : AG} (h : oE ok2 lim run G L1 x y w r G3) (hr : r ≠ 5) : r = 3 ∨ r = 1 ∨ r = 4 ∨ r = 2 := by
  rcases h with ⟨h, -⟩ | ⟨a, i, n, -, -, ⟨h, -⟩ | ⟨-, ⟨h, -⟩ | ⟨-, ⟨h, -⟩ | ⟨h, -⟩⟩⟩⟩
  · exact Or.inl h
  · exact Or.inr (Or.inl h)
  · exact Or.inr (Or.inr (Or.inl h))
  · exact Or.inr (Or.inr (Or.inr h))
  · exact absurd h hr
theorem oE_no {ok2 : Nat → Prop} {lim : Nat → Nat → Prop} {run : Nat → Nat → Nat → AG → Prop} {x y w : Int32} {r : Nat} {G3 : AG} (h : oE ok2 lim run G L1 x y w r G3) (hr : r ≠ 5) {a i n : Nat} (h1 : arg1 x y w a i n) (h2 : ok2 n) (h3 : go1 G L1 x) (h4 : lim i n) (h5 : rm1 G x n) : False := by
  rcases h with ⟨-, -, h⟩ | ⟨a', i', n', q1, q2, q⟩
  · exact h a i n h1 h2
  · obtain ⟨rfl, rfl, rfl⟩ := arg1_uq h1 q1
    rcases q with ⟨-, -, h⟩ | ⟨-, ⟨-, -, h⟩ | ⟨-, ⟨-, -, h⟩ | ⟨h, -⟩⟩⟩
    · exact h h3
    · exact h h4
    · exact h h5
    · exact hr h
theorem oE_go {ok2 : Nat → Prop} {lim : Nat → Nat → Prop} {run : Nat → Nat → Nat → AG → Prop} {x y w : Int32} {G3 : AG} (h : oE ok2 lim run G L1 x y w 5 G3) : ∃ a i n, arg1 x y w a i n ∧ ok2 n ∧ go1 G L1 x ∧ lim i n ∧ rm1 G x n ∧ run a i n G3 := by
  rcases h with ⟨h, -⟩ | ⟨a, i, n, q1, q2, ⟨h, -⟩ | ⟨q3, ⟨h, -⟩ | ⟨q4, ⟨h, -⟩ | ⟨-, q5, q6⟩⟩⟩⟩
  · exact absurd h (by decide)
  · exact absurd h (by decide)
  · exact absurd h (by decide)
  · exact absurd h (by decide)
  · exact ⟨a, i, n, q1, q2, q3, q4, q5, q6⟩
theorem runI_na {s : Nat} {c : Int32} : ∀ (n : Nat) {G G2 : AG} {W : Nat → Nat} {i j : Nat}, runI n G s W i c j G2 → G2.na = G.na := by
  intro n
  induction n with
  | zero => intro G G2 W i j h; rw [show G2 = G from h]
  | succ n ih =>
    intro G G2 W i j h
    obtain ⟨G1, q1, q2⟩ := h
    obtain ⟨B, p, b, l1, l2, -, -, -, -, -, -, rfl⟩ := q1
    have e := ih q2
    exact e
theorem runD_na {s : Nat} : ∀ (n : Nat) {G G2 : AG} {W : Nat → Nat} {i : Nat}, runD n G s W i G2 → G2.na = G.na := by
  intro n
  induction n with
  | zero => intro G G2 W i h; rw [show G2 = G from h]
  | succ n ih =>
    intro G G2 W i h
    obtain ⟨G1, q1, q2⟩ := h
    obtain ⟨u, x, v, -, -, -, rfl⟩ := q1
    have e := ih q2
    exact e
theorem au_na {x s : Nat} {G0 : AG} (h : au G x G0 s) : s < G0.na ∧ G.na ≤ G0.na := by
  rcases h with ⟨h1, -, rfl⟩ | ⟨-, rfl, rfl⟩
  · exact ⟨h1, Nat.le_refl _⟩
  · exact ⟨Nat.lt_succ_self _, Nat.le_succ _⟩
theorem LI.ed (h : LI z G A M L1 L2 o g) {gx : Sg} {q n s : Nat} {G0 : AG} {x : Nat} (hw2 : WF G2) (hau : au G x G0 s) (hna : G2.na = G0.na) (hn2 : G2.ne = G.ne + n) (hP : doneP q n s G G0 A A2 g gx) (hR : RC z G2 A2 g1) (hL : RCi G2 A2 [] g1) (hf : fM M g1 g2) (hR2 : RM G2 M2 g2) (hho : M2.ho = 8192) (hL2 : RMi G2 M2 [] g2) (ef : M2.f = M.f) (er : ∀ s, s < 16 → M2.rw s = M.rw s ∨ hT g1 (M2.rw s) = none) (ko : hT g1 o = some (103, 1)) : LI z G2 A2 M2 [] [] o g2 := by
  have hb : ∀ e, e < G2.ne → (∀ i, isF i → A2.bf e ≠ M.f i) ∧ ∀ s, s < 16 → A2.bf e ≠ M.rw s := fun e he => by
    by_cases hlt : e < G.ne
    · rw [(hP.bf e).1 hlt]; exact h.b e hlt
    · have hn := (hP.bf e).2 (by omega) (by omega)
      exact ⟨fun i hi e' => nn (h.m.k.f i hi) (by rw [← e']; exact hn), fun t ht e' => nn (h.m.k.rw t ht) (by rw [← e']; exact hn)⟩
  refine LI.mk hw2 (hR.fm hw2 hf hb) (hL.fm hR.k hf) hR2 hL2 hho (by rw [hf.t _ (nn ko)]; exact ko) (fun i hi => ?_) (fun t ht => ?_) (fun e he => ⟨fun i hi => ?_, fun t ht => ?_⟩) (fun t ht => ?_)
  · rw [hP.vw, ef]; exact h.vf i hi
  · rcases er t ht with e | e
    · rw [hP.vw, e]; exact h.vr t ht
    · intro e'
      exact nn hR.k.vw (by rw [e']; exact e)
  · rw [ef]; exact (hb e he).1 i hi
  · rcases er t ht with e1 | e1
    · rw [e1]; exact (hb e he).2 t ht
    · intro e'
      exact nn (hR.k.bf e he) (by rw [e']; exact e1)
  · obtain ⟨q1, q2⟩ := au_na hau
    rw [hP.hc t (by omega)]
    exact h.hz t (by omega)
theorem l_insert (h : LI z G A M L1 L2 o g) (he : ∀ e, e ∈ L1 ↔ e ∈ L2) (hl : L1.length = L2.length) (hj : j + 4 < L) {C1 C2 : Nat} (hkc : kc + 408 ≤ mc) (hks : ks + C1 + C2 ≤ ms) (hC1 : 28 ≤ C1) (hC2 : 30 ≤ C2) (hD1 : ∀ a i n s G0, arg1 (xs (j + 1)) (xs (j + 2)) (xs (j + 4)) a i n → arg2 (xs (j + 3)) n → go1 G L1 (xs (j + 1)) → i ≤ (seL G (vL G L1)).length → rm1 G (xs (j + 1)) n → au G a G0 s → 28 + wcost 13 n (A.hc s) (G0.ct s) A.ac G.ne ≤ C1) (hD2 : ∀ a i n s G0, arg1 (xs (j + 1)) (xs (j + 2)) (xs (j + 4)) a i n → arg2 (xs (j + 3)) n → go1 G L1 (xs (j + 1)) → i ≤ (seL G (vL G L1)).length → rm1 G (xs (j + 1)) n → au G a G0 s → 30 + mcost n (M.rl s) (G0.ct s) ≤ C2)
    (kx : ∀ r K1 K2 g2, oI G L1 (xs (j + 1)) (xs (j + 2)) (xs (j + 3)) (xs (j + 4)) r G → r ≠ 5 → LI z G A M K1 K2 o g2 → (∀ e, e ∈ K1 ↔ e ∈ K2) → K1.length = K2.length → K (kc + 304 + 104 + 0) (ks + C1 + C2 + 0) g2 (some A.c) (some M.m) (some o) (nI j + 5))
    (kr : ∀ G2 A2 M2 g2 a i n s G0, oI G L1 (xs (j + 1)) (xs (j + 2)) (xs (j + 3)) (xs (j + 4)) 5 G2 → arg1 (xs (j + 1)) (xs (j + 2)) (xs (j + 4)) a i n → au G a G0 s → G2.ne = G.ne + n → LI z G2 A2 M2 [] [] o g2 → A2.c = A.c → M2.m = M.m → (∀ t, t ≠ s → A2.hc t = A.hc t) → wcost 13 n (A.hc s) (G0.ct s) A.ac G.ne + 4 * A.hc s + 4 * A.ac ≤ 13 * n + 4 * A2.hc s + 4 * A2.ac → rwP n s (G0.ct s) M M2 → K (kc + 304 + 104 + 0) (ks + C1 + C2 + 0) g2 (some A.c) (some M.m) (some o) (nI j + 5)) : w_L_law_229 z mi mc ms L xs K kc ks g (some A.c) (some M.m) (some o) (nI j) := by
  have hes : ∀ e, e ∈ L2 ↔ e ∈ L1 := fun e => (he e).symm
  have hD2' : ∀ a i n s G0, arg1 (xs (j + 1)) (xs (j + 2)) (xs (j + 4)) a i n → arg2 (xs (j + 3)) n → go1 G L2 (xs (j + 1)) → i ≤ (seL G (vL G L2)).length → rm1 G (xs (j + 1)) n → au G a G0 s → 30 + mcost n (M.rl s) (G0.ct s) ≤ C2 := fun a i n s G0 q1 q2 q3 q4 => hD2 a i n s G0 q1 q2 ((go1_perm hes).mp q3) (by rw [vL_perm he]; exact q4)
  unfold w_L_law_229
  refine ⟨j + 1, ix1 j, by omega, ?_⟩
  rintro _ rfl
  refine ⟨j + 2, ix2 j, by omega, ?_⟩
  rintro _ rfl
  refine ⟨j + 3, ix3 j, by omega, ?_⟩
  rintro _ rfl
  refine ⟨j + 4, ix4 j, by omega, ?_⟩
  rintro _ rfl
  refine ⟨304, C1, by omega, by omega, ?_⟩
  unfold w_L_insert
  refine ⟨_, rfl, ⟨_, _, h.c.k.c, by decide⟩, 304, C1, by omega, by omega, ?_⟩
  refine t_insert h.w h.c h.ci h.hz (by omega) hC1 hD1 (fun r g2 hO hr hR2 hL2 hf2 => ?_) (fun G2 A2 g2 hO hw2 hR2 hL2 hex => ?_)
  · have h2 := h.cs hf2 hR2 hL2
    have go : ∀ (r' : Nat) (g3 : Sg), oI G L2 (xs (j + 1)) (xs (j + 2)) (xs (j + 3)) (xs (j + 4)) r' G → r' ≠ 5 → RM G M g3 → RMi G M (if r' = 3 then L2 else []) g3 → fM M g2 g3 → r = r' ∧ LI z G A M (if r = 3 then L1 else []) (if r = 3 then L2 else []) o g3 := fun r' g3 hO' hr' hR3 hL3 hf3 => by
      have er := (oI_uq h.w h.ci.lt hO (oI_perm hes hO')).1
      subst er
      exact ⟨rfl, h2.mo hf3 hR3 hL3⟩
    have lst : ∀ e, e ∈ (if r = 3 then L1 else []) ↔ e ∈ (if r = 3 then L2 else []) := fun e => by
      by_cases h3 : r = 3
      · rw [if_pos h3, if_pos h3]; exact he e
      · rw [if_neg h3, if_neg h3]
    have lsl : (if r = 3 then L1 else []).length = (if r = 3 then L2 else []).length := by
      by_cases h3 : r = 3
      · rw [if_pos h3, if_pos h3]; exact hl
      · rw [if_neg h3, if_neg h3]
    have no5 : ∀ {P : Prop} {G3 : AG}, oI G L2 (xs (j + 1)) (xs (j + 2)) (xs (j + 3)) (xs (j + 4)) 5 G3 → P := fun hO' => absurd (oI_uq h.w h.ci.lt hO (oI_perm hes hO')).1 hr
    rcases oE_r hO hr with r3 | r3 | r3 | r3
    · refine Or.inr (Or.inr (Or.inl ⟨r3, ?_⟩))
      refine ⟨j + 1, ix1 j, by omega, ?_⟩
      rintro _ rfl
      refine ⟨j + 2, ix2 j, by omega, ?_⟩
      rintro _ rfl
      refine ⟨j + 3, ix3 j, by omega, ?_⟩
      rintro _ rfl
      refine ⟨j + 4, ix4 j, by omega, ?_⟩
      rintro _ rfl
      refine ⟨_, rfl, ⟨_, _, h2.m.k.m, by decide⟩, 104, C2, by omega, by omega, ?_⟩
      refine t_Minsert h2.w h2.m h2.ho h2.ml (by omega) hC2 hD2' (fun r' g3 hO' hr' hR3 hL3 hf3 h56 => ?_) (fun G3 M3 g3 hO' _ _ _ _ _ _ _ _ _ _ _ => no5 hO')
      obtain ⟨er, h3⟩ := go r' g3 hO' hr' hR3 hL3 hf3
      rw [← er, r3] at h56
      exact t_tail h3.m h3.ko h56 (fun h0 => absurd h0 (by decide)) (by omega) (by omega) (kx r _ _ g3 hO hr h3 lst lsl)
    · refine Or.inl ⟨r3, ?_⟩
      refine ⟨j + 1, ix1 j, by omega, ?_⟩
      rintro _ rfl
      refine ⟨j + 2, ix2 j, by omega, ?_⟩
      rintro _ rfl
      refine ⟨j + 3, ix3 j, by omega, ?_⟩
      rintro _ rfl
      refine ⟨j + 4, ix4 j, by omega, ?_⟩
      rintro _ rfl
      refine ⟨_, rfl, ⟨_, _, h2.m.k.m, by decide⟩, 104, C2, by omega, by omega, ?_⟩
      refine t_Minsert h2.w h2.m h2.ho h2.ml (by omega) hC2 hD2' (fun r' g3 hO' hr' hR3 hL3 hf3 h56 => ?_) (fun G3 M3 g3 hO' _ _ _ _ _ _ _ _ _ _ _ => no5 hO')
      obtain ⟨er, h3⟩ := go r' g3 hO' hr' hR3 hL3 hf3
      rw [← er, r3] at h56
      exact t_tail h3.m h3.ko h56 (fun h0 => absurd h0 (by decide)) (by omega) (by omega) (kx r _ _ g3 hO hr h3 lst lsl)
    · refine Or.inr (Or.inr (Or.inr ⟨r3, ?_⟩))
      refine ⟨j + 1, ix1 j, by omega, ?_⟩
      rintro _ rfl
      refine ⟨j + 2, ix2 j, by omega, ?_⟩
      rintro _ rfl
      refine ⟨j + 3, ix3 j, by omega, ?_⟩
      rintro _ rfl
      refine ⟨j + 4, ix4 j, by omega, ?_⟩
      rintro _ rfl
      refine ⟨_, rfl, ⟨_, _, h2.m.k.m, by decide⟩, 104, C2, by omega, by omega, ?_⟩
      refine t_Minsert h2.w h2.m h2.ho h2.ml (by omega) hC2 hD2' (fun r' g3 hO' hr' hR3 hL3 hf3 h56 => ?_) (fun G3 M3 g3 hO' _ _ _ _ _ _ _ _ _ _ _ => no5 hO')
      obtain ⟨er, h3⟩ := go r' g3 hO' hr' hR3 hL3 hf3
      rw [← er, r3] at h56
      exact t_tail h3.m h3.ko h56 (fun h0 => absurd h0 (by decide)) (by omega) (by omega) (kx r _ _ g3 hO hr h3 lst lsl)
    · refine Or.inr (Or.inl ⟨r3, ?_⟩)
      refine ⟨j + 1, ix1 j, by omega, ?_⟩
      rintro _ rfl
      refine ⟨j + 2, ix2 j, by omega, ?_⟩
      rintro _ rfl
      refine ⟨j + 3, ix3 j, by omega, ?_⟩
      rintro _ rfl
      refine ⟨j + 4, ix4 j, by omega, ?_⟩
      rintro _ rfl
      refine ⟨_, rfl, ⟨_, _, h2.m.k.m, by decide⟩, 104, C2, by omega, by omega, ?_⟩
      refine t_Minsert h2.w h2.m h2.ho h2.ml (by omega) hC2 hD2' (fun r' g3 hO' hr' hR3 hL3 hf3 h56 => ?_) (fun G3 M3 g3 hO' _ _ _ _ _ _ _ _ _ _ _ => no5 hO')
      obtain ⟨er, h3⟩ := go r' g3 hO' hr' hR3 hL3 hf3
      rw [← er, r3] at h56
      exact t_tail h3.m h3.ko h56 (fun h0 => absurd h0 (by decide)) (by omega) (by omega) (kx r _ _ g3 hO hr h3 lst lsl)
  · obtain ⟨a, i, n, s, G0, h1, hau, h5, hn2, hP⟩ := hex
    have ko2 : hT g2 o = some (103, 1) := by rw [hP.fc.t _ (nn h.ko)]; exact h.ko
    refine ⟨_, rfl, 0, ⟨1, ko2, rfl, by decide, by decide⟩, ?_⟩
    rintro _ rfl
    have hRM := (h.m.fc h.w hP.fc h.vf h.vr).sL (o := o) ((nI (txL G2 G2.ne)).toInt64)
    have hRMi := (h.ml.fc h.m.k hP.fc h.vf).sL (o := o) ((nI (txL G2 G2.ne)).toInt64)
    refine ⟨j + 1, ix1 j, by omega, ?_⟩
    rintro _ rfl
    refine ⟨j + 2, ix2 j, by omega, ?_⟩
    rintro _ rfl
    refine ⟨j + 3, ix3 j, by omega, ?_⟩
    rintro _ rfl
    refine ⟨j + 4, ix4 j, by omega, ?_⟩
    rintro _ rfl
    refine ⟨_, rfl, ⟨_, _, hRM.k.m, by decide⟩, 104, C2, by omega, by omega, ?_⟩
    refine t_Minsert h.w hRM h.ho hRMi (by omega) hC2 hD2' (fun r' g3 hO' hr' hR3 hL3 hf3 h56 => absurd (oI_uq h.w h.ci.lt hO (oI_perm hes hO')).1.symm hr') (fun G3 M3 g3 hO' hw3 hR3 hh3 hL3 hf3 em eg ef er h56 hex' => ?_)
    have eG := (oI_uq h.w h.ci.lt hO (oI_perm hes hO')).2
    subst eG
    obtain ⟨a', i', n', s', G0', h1', hau', -, -, hrw⟩ := hex'
    obtain ⟨rfl, rfl, rfl⟩ := arg1_uq h1 h1'
    obtain ⟨rfl, rfl⟩ := au_uq h.w hau hau'
    obtain ⟨a2, i2, n2, r1, -, -, -, -, s2, G02, r2, r3⟩ := oE_go hO
    obtain ⟨rfl, rfl, rfl⟩ := arg1_uq h1 r1
    obtain ⟨rfl, rfl⟩ := au_uq h.w hau r2
    have hLI := h.ed hw2 hau (runI_na n r3) hn2 hP (hR2.sL _) (hL2.sL _) hf3 hR3 hh3 hL3 ef er ko2
    have hal : aL g3 o 0 = (nI (txL G2 G2.ne)).toInt64 := by
      rw [hf3.al o (nn (y := (103, 1)) ko2)]; exact aL_sL9 _ _ _ _
    have := t_tail (z := z) (mi := mi) (mc := mc) (ms := ms) (K := K) (ac := some A.c) (v4 := nI j) (kc := kc + 304 + 104) (ks := ks + C1 + C2) (o := o) hLI.m hLI.ko h56 (fun _ => hal) (by omega) (by omega) (by rw [em]; exact kr G2 A2 M3 g3 a i n s G0 hO h1 hau hn2 hLI hP.c em hP.hc hP.po hrw)
    rw [em] at this
    exact this
theorem l_delete (h : LI z G A M L1 L2 o g) (he : ∀ e, e ∈ L1 ↔ e ∈ L2) (hl : L1.length = L2.length) (hj : j + 4 < L) {C1 C2 : Nat} (hkc : kc + 408 ≤ mc) (hks : ks + C1 + C2 ≤ ms) (hC1 : 28 ≤ C1) (hC2 : 30 ≤ C2) (hD1 : ∀ a i n s G0, arg1 (xs (j + 1)) (xs (j + 2)) (xs (j + 3)) a i n → go1 G L1 (xs (j + 1)) → i + n ≤ (seL G (vL G L1)).length → rm1 G (xs (j + 1)) n → au G a G0 s → 28 + wcost 6 n (A.hc s) (G0.ct s) A.ac G.ne ≤ C1) (hD2 : ∀ a i n s G0, arg1 (xs (j + 1)) (xs (j + 2)) (xs (j + 3)) a i n → go1 G L1 (xs (j + 1)) → i + n ≤ (seL G (vL G L1)).length → rm1 G (xs (j + 1)) n → au G a G0 s → 30 + mcost n (M.rl s) (G0.ct s) ≤ C2)
    (kx : ∀ r K1 K2 g2, oD G L1 (xs (j + 1)) (xs (j + 2)) (xs (j + 3)) r G → r ≠ 5 → LI z G A M K1 K2 o g2 → (∀ e, e ∈ K1 ↔ e ∈ K2) → K1.length = K2.length → K (kc + 304 + 104 + 0) (ks + C1 + C2 + 0) g2 (some A.c) (some M.m) (some o) (nI j + 5))
    (kr : ∀ G2 A2 M2 g2 a i n s G0, oD G L1 (xs (j + 1)) (xs (j + 2)) (xs (j + 3)) 5 G2 → arg1 (xs (j + 1)) (xs (j + 2)) (xs (j + 3)) a i n → au G a G0 s → G2.ne = G.ne + n → LI z G2 A2 M2 [] [] o g2 → A2.c = A.c → M2.m = M.m → (∀ t, t ≠ s → A2.hc t = A.hc t) → wcost 6 n (A.hc s) (G0.ct s) A.ac G.ne + 4 * A.hc s + 4 * A.ac ≤ 6 * n + 4 * A2.hc s + 4 * A2.ac → rwP n s (G0.ct s) M M2 → K (kc + 304 + 104 + 0) (ks + C1 + C2 + 0) g2 (some A.c) (some M.m) (some o) (nI j + 5)) : w_L_law_321 z mi mc ms L xs K kc ks g (some A.c) (some M.m) (some o) (nI j) := by
  have hes : ∀ e, e ∈ L2 ↔ e ∈ L1 := fun e => (he e).symm
  have hD2' : ∀ a i n s G0, arg1 (xs (j + 1)) (xs (j + 2)) (xs (j + 3)) a i n → go1 G L2 (xs (j + 1)) → i + n ≤ (seL G (vL G L2)).length → rm1 G (xs (j + 1)) n → au G a G0 s → 30 + mcost n (M.rl s) (G0.ct s) ≤ C2 := fun a i n s G0 q1 q3 q4 => hD2 a i n s G0 q1 ((go1_perm hes).mp q3) (by rw [vL_perm he]; exact q4)
  unfold w_L_law_321
  refine ⟨j + 1, ix1 j, by omega, ?_⟩
  rintro _ rfl
  refine ⟨j + 2, ix2 j, by omega, ?_⟩
  rintro _ rfl
  refine ⟨j + 3, ix3 j, by omega, ?_⟩
  rintro _ rfl
  refine ⟨304, C1, by omega, by omega, ?_⟩
  unfold w_L_delete
  refine ⟨_, rfl, ⟨_, _, h.c.k.c, by decide⟩, 304, C1, by omega, by omega, ?_⟩
  refine t_delete h.w h.c h.ci h.hz (by omega) hC1 hD1 (fun r g2 hO hr hR2 hL2 hf2 => ?_) (fun G2 A2 g2 hO hw2 hR2 hL2 hex => ?_)
  · have h2 := h.cs hf2 hR2 hL2
    have go : ∀ (r' : Nat) (g3 : Sg), oD G L2 (xs (j + 1)) (xs (j + 2)) (xs (j + 3)) r' G → r' ≠ 5 → RM G M g3 → RMi G M (if r' = 3 then L2 else []) g3 → fM M g2 g3 → r = r' ∧ LI z G A M (if r = 3 then L1 else []) (if r = 3 then L2 else []) o g3 := fun r' g3 hO' hr' hR3 hL3 hf3 => by
      have er := (oD_uq h.w h.ci.lt hO (oD_perm hes hO')).1
      subst er
      exact ⟨rfl, h2.mo hf3 hR3 hL3⟩
    have lst : ∀ e, e ∈ (if r = 3 then L1 else []) ↔ e ∈ (if r = 3 then L2 else []) := fun e => by
      by_cases h3 : r = 3
      · rw [if_pos h3, if_pos h3]; exact he e
      · rw [if_neg h3, if_neg h3]
    have lsl : (if r = 3 then L1 else []).length = (if r = 3 then L2 else []).length := by
      by_cases h3 : r = 3
      · rw [if_pos h3, if_pos h3]; exact hl
      · rw [if_neg h3, if_neg h3]
    have no5 : ∀ {P : Prop} {G3 : AG}, oD G L2 (xs (j + 1)) (xs (j + 2)) (xs (j + 3)) 5 G3 → P := fun hO' => absurd (oD_uq h.w h.ci.lt hO (oD_perm hes hO')).1 hr
    rcases oE_r hO hr with r3 | r3 | r3 | r3
    · refine Or.inr (Or.inr (Or.inl ⟨r3, ?_⟩))
      refine ⟨j + 1, ix1 j, by omega, ?_⟩
      rintro _ rfl
      refine ⟨j + 2, ix2 j, by omega, ?_⟩
      rintro _ rfl
      refine ⟨j + 3, ix3 j, by omega, ?_⟩
      rintro _ rfl
      refine ⟨_, rfl, ⟨_, _, h2.m.k.m, by decide⟩, 104, C2, by omega, by omega, ?_⟩
      refine t_Mdelete h2.w h2.m h2.ho h2.ml (by omega) hC2 hD2' (fun r' g3 hO' hr' hR3 hL3 hf3 h56 => ?_) (fun G3 M3 g3 hO' _ _ _ _ _ _ _ _ _ _ _ => no5 hO')
      obtain ⟨er, h3⟩ := go r' g3 hO' hr' hR3 hL3 hf3
      rw [← er, r3] at h56
      exact t_tail h3.m h3.ko h56 (fun h0 => absurd h0 (by decide)) (by omega) (by omega) (kx r _ _ g3 hO hr h3 lst lsl)
    · refine Or.inl ⟨r3, ?_⟩
      refine ⟨j + 1, ix1 j, by omega, ?_⟩
      rintro _ rfl
      refine ⟨j + 2, ix2 j, by omega, ?_⟩
      rintro _ rfl
      refine ⟨j + 3, ix3 j, by omega, ?_⟩
      rintro _ rfl
      refine ⟨_, rfl, ⟨_, _, h2.m.k.m, by decide⟩, 104, C2, by omega, by omega, ?_⟩
      refine t_Mdelete h2.w h2.m h2.ho h2.ml (by omega) hC2 hD2' (fun r' g3 hO' hr' hR3 hL3 hf3 h56 => ?_) (fun G3 M3 g3 hO' _ _ _ _ _ _ _ _ _ _ _ => no5 hO')
      obtain ⟨er, h3⟩ := go r' g3 hO' hr' hR3 hL3 hf3
      rw [← er, r3] at h56
      exact t_tail h3.m h3.ko h56 (fun h0 => absurd h0 (by decide)) (by omega) (by omega) (kx r _ _ g3 hO hr h3 lst lsl)
    · refine Or.inr (Or.inr (Or.inr ⟨r3, ?_⟩))
      refine ⟨j + 1, ix1 j, by omega, ?_⟩
      rintro _ rfl
      refine ⟨j + 2, ix2 j, by omega, ?_⟩
      rintro _ rfl
      refine ⟨j + 3, ix3 j, by omega, ?_⟩
      rintro _ rfl
      refine ⟨_, rfl, ⟨_, _, h2.m.k.m, by decide⟩, 104, C2, by omega, by omega, ?_⟩
      refine t_Mdelete h2.w h2.m h2.ho h2.ml (by omega) hC2 hD2' (fun r' g3 hO' hr' hR3 hL3 hf3 h56 => ?_) (fun G3 M3 g3 hO' _ _ _ _ _ _ _ _ _ _ _ => no5 hO')
      obtain ⟨er, h3⟩ := go r' g3 hO' hr' hR3 hL3 hf3
      rw [← er, r3] at h56
      exact t_tail h3.m h3.ko h56 (fun h0 => absurd h0 (by decide)) (by omega) (by omega) (kx r _ _ g3 hO hr h3 lst lsl)
    · refine Or.inr (Or.inl ⟨r3, ?_⟩)
      refine ⟨j + 1, ix1 j, by omega, ?_⟩
      rintro _ rfl
      refine ⟨j + 2, ix2 j, by omega, ?_⟩
      rintro _ rfl
      refine ⟨j + 3, ix3 j, by omega, ?_⟩
      rintro _ rfl
      refine ⟨_, rfl, ⟨_, _, h2.m.k.m, by decide⟩, 104, C2, by omega, by omega, ?_⟩
      refine t_Mdelete h2.w h2.m h2.ho h2.ml (by omega) hC2 hD2' (fun r' g3 hO' hr' hR3 hL3 hf3 h56 => ?_) (fun G3 M3 g3 hO' _ _ _ _ _ _ _ _ _ _ _ => no5 hO')
      obtain ⟨er, h3⟩ := go r' g3 hO' hr' hR3 hL3 hf3
      rw [← er, r3] at h56
      exact t_tail h3.m h3.ko h56 (fun h0 => absurd h0 (by decide)) (by omega) (by omega) (kx r _ _ g3 hO hr h3 lst lsl)
  · obtain ⟨a, i, n, s, G0, h1, hau, h5, hn2, hP⟩ := hex
    have ko2 : hT g2 o = some (103, 1) := by rw [hP.fc.t _ (nn h.ko)]; exact h.ko
    refine ⟨_, rfl, 0, ⟨1, ko2, rfl, by decide, by decide⟩, ?_⟩
    rintro _ rfl
    have hRM := (h.m.fc h.w hP.fc h.vf h.vr).sL (o := o) ((nI (txL G2 G2.ne)).toInt64)
    have hRMi := (h.ml.fc h.m.k hP.fc h.vf).sL (o := o) ((nI (txL G2 G2.ne)).toInt64)
    refine ⟨j + 1, ix1 j, by omega, ?_⟩
    rintro _ rfl
    refine ⟨j + 2, ix2 j, by omega, ?_⟩
    rintro _ rfl
    refine ⟨j + 3, ix3 j, by omega, ?_⟩
    rintro _ rfl
    refine ⟨_, rfl, ⟨_, _, hRM.k.m, by decide⟩, 104, C2, by omega, by omega, ?_⟩
    refine t_Mdelete h.w hRM h.ho hRMi (by omega) hC2 hD2' (fun r' g3 hO' hr' hR3 hL3 hf3 h56 => absurd (oD_uq h.w h.ci.lt hO (oD_perm hes hO')).1.symm hr') (fun G3 M3 g3 hO' hw3 hR3 hh3 hL3 hf3 em eg ef er h56 hex' => ?_)
    have eG := (oD_uq h.w h.ci.lt hO (oD_perm hes hO')).2
    subst eG
    obtain ⟨a', i', n', s', G0', h1', hau', -, -, hrw⟩ := hex'
    obtain ⟨rfl, rfl, rfl⟩ := arg1_uq h1 h1'
    obtain ⟨rfl, rfl⟩ := au_uq h.w hau hau'
    obtain ⟨a2, i2, n2, r1, -, -, -, -, s2, G02, r2, r3⟩ := oE_go hO
    obtain ⟨rfl, rfl, rfl⟩ := arg1_uq h1 r1
    obtain ⟨rfl, rfl⟩ := au_uq h.w hau r2
    have hLI := h.ed hw2 hau (runD_na n r3) hn2 hP (hR2.sL _) (hL2.sL _) hf3 hR3 hh3 hL3 ef er ko2
    have hal : aL g3 o 0 = (nI (txL G2 G2.ne)).toInt64 := by
      rw [hf3.al o (nn (y := (103, 1)) ko2)]; exact aL_sL9 _ _ _ _
    have := t_tail (z := z) (mi := mi) (mc := mc) (ms := ms) (K := K) (ac := some A.c) (v4 := nI j) (kc := kc + 304 + 104) (ks := ks + C1 + C2) (o := o) hLI.m hLI.ko h56 (fun _ => hal) (by omega) (by omega) (by rw [em]; exact kr G2 A2 M3 g3 a i n s G0 hO h1 hau hn2 hLI hP.c em hP.hc hP.po hrw)
    rw [em] at this
    exact this
end LED
