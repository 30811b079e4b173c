section RU
variable {G G2 : AG} {V W : Nat → Nat}
theorem mid_uq {B : Nat} : ∀ (u u' v v' : List Nat), (u ++ B :: v).Nodup → u ++ B :: v = u' ++ B :: v' → u = u' ∧ v = v' := by
  intro u
  induction u with
  | nil =>
    intro u' v v' hn h
    cases u' with
    | nil => exact ⟨rfl, by simpa using h⟩
    | cons a u' =>
      rw [List.nil_append, List.cons_append, List.cons.injEq] at h
      exfalso
      have := (List.nodup_cons.mp hn).1
      rw [h.2] at this
      exact this (List.mem_append_right _ List.mem_cons_self)
  | cons a u ih =>
    intro u' v v' hn h
    cases u' with
    | nil =>
      rw [List.nil_append, List.cons_append, List.cons.injEq] at h
      exfalso
      have := (List.nodup_cons.mp hn).1
      rw [h.1] at this
      exact this (List.mem_append_right _ List.mem_cons_self)
    | cons a' u' =>
      rw [List.cons_append, List.cons_append, List.cons.injEq] at h
      obtain ⟨q1, q2⟩ := ih u' v v' (List.nodup_cons.mp hn).2 h.2
      exact ⟨by rw [h.1, q1], q2⟩
def bN (G : AG) (V : Nat → Nat) (i B : Nat) : Prop := ∃ u v, od G = u ++ B :: v ∧ ((u ++ [B]).filter (sb G V)).length = i ∧ (i = 0 → u = [] ∧ B = 0) ∧ (0 < i → sb G V B = true)
def stI (G : AG) (s : Nat) (W : Nat → Nat) (i : Nat) (c : Int32) (G2 : AG) : Prop := ∃ B p b l1 l2, bN G W i B ∧ hg G W B p b ∧ p ∈ od G ∧ G.k p b = l1 ++ l2 ∧ (∀ y ∈ l1, lf G s (y - 1)) ∧ (∀ y ∈ l2, ¬ lf G s (y - 1)) ∧ G2 = addI G s W c (tr_put G.k p b (l1 ++ (G.ne + 1) :: l2))
def runI : Nat → AG → Nat → (Nat → Nat) → Nat → Int32 → Nat → AG → Prop
  | 0, G, _, _, _, _, _, G2 => G2 = G
  | n + 1, G, s, W, i, c, j, G2 => ∃ G1, stI G s W i (c + nI j) G1 ∧ runI n G1 s (ug W s (G.ct s + 1)) (i + 1) c (j + 1) G2
def stD (G : AG) (s : Nat) (W : Nat → Nat) (i : Nat) (G2 : AG) : Prop := ∃ u x v, od G = u ++ x :: v ∧ (u.filter (sb G W)).length = i ∧ sb G W x = true ∧ G2 = addD G s W (x - 1)
def runD : Nat → AG → Nat → (Nat → Nat) → Nat → AG → Prop
  | 0, G, _, _, _, G2 => G2 = G
  | n + 1, G, s, W, i, G2 => ∃ G1, stD G s W i G1 ∧ runD n G1 s (ug W s (G.ct s + 1)) i G2
theorem cnt_mono {p : Nat → Bool} (a b : List Nat) : (a.filter p).length ≤ ((a ++ b).filter p).length := by
  rw [List.filter_append, List.length_append]; omega
theorem bN_uq (hw : WF G) {i B B' : Nat} (h : bN G V i B) (h' : bN G V i B') : B = B' := by
  obtain ⟨u, v, o, c, z, p⟩ := h
  obtain ⟨u', v', o', c', z', p'⟩ := h'
  by_cases hi : i = 0
  · rw [(z hi).2, (z' hi).2]
  · have hp := p (by omega)
    have hp' := p' (by omega)
    have e : u ++ B :: v = u' ++ B' :: v' := o.symm.trans o'
    rw [List.filter_append, List.length_append] at c c'
    have f1 : ([B].filter (sb G V)).length = 1 := by simp [hp]
    have f2 : ([B'].filter (sb G V)).length = 1 := by simp [hp']
    rcases List.append_eq_append_iff.mp e with ⟨a, e1, e2⟩ | ⟨a, e1, e2⟩
    · cases a with
      | nil => simp at e2; exact e2.1
      | cons x a =>
        rw [List.cons_append, List.cons.injEq] at e2
        have := cnt_mono (p := sb G V) (u ++ [B]) a
        have e3 : u' = (u ++ [B]) ++ a := by rw [e1, ← e2.1]; simp
        rw [← e3, List.filter_append, List.length_append] at this
        omega
    · cases a with
      | nil => simp at e2; exact e2.1.symm
      | cons x a =>
        rw [List.cons_append, List.cons.injEq] at e2
        have := cnt_mono (p := sb G V) (u' ++ [B']) a
        have e3 : u = (u' ++ [B']) ++ a := by rw [e1, ← e2.1]; simp
        rw [← e3, List.filter_append, List.length_append] at this
        omega
theorem hg_uq (hw : WF G) {B p p' : Nat} {b b' : Bool} (h : hg G V B p b) (h' : hg G V B p' b') : p = p' ∧ b = b' := by
  rcases h with ⟨h1, h2, h3⟩ | ⟨⟨c, hc, hk⟩, h2, u, v1, v2, o, q1, q2⟩
  · rcases h' with ⟨h1', h2', h3'⟩ | ⟨⟨c, hc, hk⟩, -⟩
    · exact ⟨h2.trans h2'.symm, h3.trans h3'.symm⟩
    · exact absurd hk (h1 c hc)
  · rcases h' with ⟨h1', -⟩ | ⟨-, h2', u', v1', v2', o', q1', q2'⟩
    · exact absurd hk (h1' c hc)
    · refine ⟨?_, h2.trans h2'.symm⟩
      have hn := hw.nodup
      rw [o] at hn
      have e := (mid_uq _ _ _ _ hn (o.symm.trans o')).2
      rcases List.append_eq_append_iff.mp e with ⟨a, e1, e2⟩ | ⟨a, e1, e2⟩
      · cases a with
        | nil => simp at e2; exact e2.1
        | cons x a =>
          rw [List.cons_append, List.cons.injEq] at e2
          rw [e2.1] at q2
          exact absurd q2 (q1' x (by rw [e1]; simp))
      · cases a with
        | nil => simp at e2; exact e2.1.symm
        | cons x a =>
          rw [List.cons_append, List.cons.injEq] at e2
          rw [e2.1] at q2'
          exact absurd q2' (q1 x (by rw [e1]; simp))
theorem stI_uq (hw : WF G) {s i : Nat} {c : Int32} {G3 : AG} (h : stI G s W i c G2) (h' : stI G s W i c G3) : G2 = G3 := by
  obtain ⟨B, p, b, l1, l2, q1, q2, q3, q4, q5, q6, rfl⟩ := h
  obtain ⟨B', p', b', m1, m2, r1, r2, r3, r4, r5, r6, rfl⟩ := h'
  obtain rfl := bN_uq hw q1 r1
  obtain ⟨rfl, rfl⟩ := hg_uq hw q2 r2
  obtain ⟨rfl, rfl⟩ := split_uq (P := fun y => lf G s (y - 1)) (q4.symm.trans r4) q5 q6 r5 r6
  rfl
theorem stD_uq (hw : WF G) {s i : Nat} {G3 : AG} (h : stD G s W i G2) (h' : stD G s W i G3) : G2 = G3 := by
  obtain ⟨u, x, v, o, c, p, rfl⟩ := h
  obtain ⟨u', x', v', o', c', p', rfl⟩ := h'
  have e : bN G W (i + 1) x := ⟨u, v, o, by rw [List.filter_append, List.length_append, c]; simp [p], fun h => absurd h (by omega), fun _ => p⟩
  have e' : bN G W (i + 1) x' := ⟨u', v', o', by rw [List.filter_append, List.length_append, c']; simp [p'], fun h => absurd h (by omega), fun _ => p'⟩
  rw [bN_uq hw e e']
theorem bN_kn {i B : Nat} (h : bN G V i B) : B ∈ od G ∧ (B ≠ 0 → kn G V (B - 1)) := by
  obtain ⟨u, v, o, c, z, p⟩ := h
  refine ⟨od_mid o, fun h0 => ?_⟩
  by_cases hi : i = 0
  · exact absurd (z hi).2 h0
  · have := p (by omega)
    simp [sb] at this
    exact this.2.1
theorem hg_kn (hw : WF G) {i B p : Nat} {b : Bool} (h : bN G V i B) (h' : hg G V B p b) : p ∈ od G ∧ (p = 0 → b = true) ∧ (p ≠ 0 → kn G V (p - 1)) := by
  obtain ⟨h1, h2⟩ := bN_kn h
  rcases h' with ⟨-, rfl, rfl⟩ | ⟨-, h3, u, v1, v2, o, q1, q2⟩
  · exact ⟨h1, fun _ => rfl, h2⟩
  · refine ⟨by rw [o]; simp, fun h0 => ?_, fun _ => q2⟩
    obtain ⟨e, he, -⟩ := od_pos hw o p (by simp)
    omega
theorem stI_wf (hw : WF G) {s i : Nat} {c : Int32} (ok : okE G s W) (h : stI G s W i c G2) : WF G2 ∧ evS G G2 s W := by
  obtain ⟨B, p, b, l1, l2, q1, q2, q3, q4, q5, q6, rfl⟩ := h
  obtain ⟨r1, r2, r3⟩ := hg_kn hw q1 q2
  exact ⟨wf_addI hw ok r1 r2 r3 q4 q5 q6, evS_I _ _ _ _⟩
theorem stD_wf (hw : WF G) {s i : Nat} (ok : okE G s W) (h : stD G s W i G2) : WF G2 ∧ evS G G2 s W := by
  obtain ⟨u, x, v, o, c, p, rfl⟩ := h
  have hx : x ≠ 0 := by
    intro h0
    rw [h0, sb_0] at p; cases p
  rcases (hw.mem x).mp (od_mid o) with h0 | ⟨e, rfl, he, hi⟩
  · exact absurd h0 hx
  · exact ⟨wf_addD hw ok he hi, evS_D _ _ _⟩
theorem runI_uq {s : Nat} {c : Int32} : ∀ (n : Nat) {G : AG} {W : Nat → Nat} {i j : Nat} {G2 G3 : AG}, WF G → okE G s W → G.ne + n ≤ 8192 → runI n G s W i c j G2 → runI n G s W i c j G3 → G2 = G3 := by
  intro n
  induction n with
  | zero => intro G W i j G2 G3 _ _ _ h h'; exact h.trans h'.symm
  | succ n ih =>
    intro G W i j G2 G3 hw ok hn h h'
    obtain ⟨G1, q1, q2⟩ := h
    obtain ⟨G1', r1, r2⟩ := h'
    obtain rfl := stI_uq hw q1 r1
    obtain ⟨hw1, hE⟩ := stI_wf hw ok q1
    cases n with
    | zero => exact q2.trans r2.symm
    | succ n => exact ih hw1 (hE.okN hw ok (by omega)) (by rw [hE.ne]; omega) q2 r2
theorem runD_uq {s : Nat} : ∀ (n : Nat) {G : AG} {W : Nat → Nat} {i : Nat} {G2 G3 : AG}, WF G → okE G s W → G.ne + n ≤ 8192 → runD n G s W i G2 → runD n G s W i G3 → G2 = G3 := by
  intro n
  induction n with
  | zero => intro G W i G2 G3 _ _ _ h h'; exact h.trans h'.symm
  | succ n ih =>
    intro G W i G2 G3 hw ok hn h h'
    obtain ⟨G1, q1, q2⟩ := h
    obtain ⟨G1', r1, r2⟩ := h'
    obtain rfl := stD_uq hw q1 r1
    obtain ⟨hw1, hE⟩ := stD_wf hw ok q1
    cases n with
    | zero => exact q2.trans r2.symm
    | succ n => exact ih hw1 (hE.okN hw ok (by omega)) (by rw [hE.ne]; omega) q2 r2
theorem evS.knW {s : Nat} (h : evS G G2 s W) (hw : WF G) (ok : okE G s W) {e : Nat} (he : e < G.ne) : kn G2 (ug W s (G.ct s + 1)) e ↔ kn G W e := by
  rw [h.kno he]
  unfold kn
  by_cases hs : G.sl e = s
  · have := hw.nu_lt e he
    rw [hs] at this ⊢
    rw [ug_at, ok.own]
    omega
  · rw [ug_ne hs]
theorem sb_cg {V V' : Nat → Nat} {x : Nat} (hx : x ∈ od G) (hw : WF G) (hde : ∀ e, e < G.ne → G.ins e = true → x = e + 1 → G2.de e = G.de e) (hk : ∀ e, e < G.ne → (kn G2 V' e ↔ kn G V e)) : sb G2 V' x = sb G V x := by
  rcases (hw.mem x).mp hx with rfl | ⟨e, rfl, he, hi⟩
  · rw [sb_0, sb_0]
  · have : sn G2 V' e ↔ sn G V e := by
      unfold sn
      rw [hde e he hi rfl, hk e he]
      refine and_congr Iff.rfl ⟨fun h d hd hkd => h d hd ((hk d (hw.de_lt e d hd).2.1).mpr hkd), fun h d hd hkd => h d hd ((hk d (hw.de_lt e d hd).2.1).mp hkd)⟩
    unfold sb
    rw [Nat.add_sub_cancel]
    exact decide_eq_decide.mpr (and_congr Iff.rfl this)
theorem dark (hw : WF G) (hV : vcl G V) {n : Nat} (hn : n < 8193) (h0 : n ≠ 0) (hk : ¬ kn G V (n - 1)) : ∀ x ∈ tr_S G.k 8193 n, ¬ kn G V (x - 1) := by
  refine tr_dark hw.tr (V := fun x => kn G V (x - 1)) (fun n b c hc hkc => ?_) n hn h0 hk
  by_cases hn0 : n = 0
  · exact Or.inl hn0
  · refine Or.inr ?_
    obtain ⟨m, rfl⟩ : ∃ m, n = m + 1 := ⟨n - 1, by omega⟩
    have h1 := k_ev hw hc
    obtain ⟨e, rfl⟩ : ∃ e, c = e + 1 := ⟨c - 1, by omega⟩
    have h2 := hw.up m b e hc
    have h3 := hV e h1.1 hkc (G.sl m)
    show kn G V (m + 1 - 1)
    rw [Nat.add_sub_cancel]
    unfold kn at h2 ⊢
    omega
theorem flt_none {l : List Nat} (h : ∀ x ∈ l, ¬ kn G V (x - 1)) : l.filter (sb G V) = [] := by
  rw [List.filter_eq_nil_iff]
  intro x hx hs
  simp [sb] at hs
  exact h x hx hs.2.1
theorem pl (hw : WF G) {s i : Nat} {c : Int32} (ok : okE G s W) {B p : Nat} {b : Bool} {l1 l2 : List Nat} (hB : bN G W i B) (hh : hg G W B p b) (hl : G.k p b = l1 ++ l2) : bN (addI G s W c (tr_put G.k p b (l1 ++ (G.ne + 1) :: l2))) (ug W s (G.ct s + 1)) (i + 1) (G.ne + 1) := by
  have hne := ok.ne
  obtain ⟨r1, r2, r3⟩ := hg_kn hw hB hh
  obtain ⟨u, v, o, cnt, z0, p0⟩ := hB
  have hn := hw.nodup
  have key : ∃ a1 a2 t, od G = a1 ++ a2 ∧ tr_S (tr_put G.k p b (l1 ++ (G.ne + 1) :: l2)) 8193 0 = a1 ++ (G.ne + 1) :: a2 ∧ a1 = (u ++ [B]) ++ t ∧ ∀ x ∈ t, ¬ kn G W (x - 1) := by
    rcases hh with ⟨h1, rfl, rfl⟩ | ⟨⟨c', hc', hkc'⟩, rfl, u', v1, v2, o', q1, q2⟩
    · obtain ⟨u0, v0, o1, o2⟩ := pl_R hw hne r1 hl
      refine ⟨_, _, l1.flatMap (tr_S G.k 8193), o1, o2, ?_, fun x hx => ?_⟩
      · have e1 : od G = (u0 ++ (G.k p false).flatMap (tr_S G.k 8193)) ++ p :: (l1.flatMap (tr_S G.k 8193) ++ (l2.flatMap (tr_S G.k 8193) ++ v0)) := by rw [o1]; simp
        rw [o] at hn
        have := (mid_uq _ _ _ _ hn (o.symm.trans e1)).1
        rw [this]; simp
      · obtain ⟨y, hy, hxy⟩ := List.mem_flatMap.mp hx
        have hym : y ∈ G.k p true := by rw [hl]; exact List.mem_append_left _ hy
        have := hw.tr p true y hym
        exact dark hw ok.cl this.2 (by omega) (h1 y hym) x hxy
    · obtain ⟨u0, v0, o1, o2⟩ := pl_L hw hne r1 hl
      have hn2 := hn
      rw [o] at hn2
      obtain ⟨rfl, hv⟩ := mid_uq _ _ _ _ hn2 (o.symm.trans o')
      have hBp : B < p := by
        have hBM : B < 8193 := by have := hw.tr B true c' hc'; omega
        obtain ⟨u3, v3, h3⟩ := tr_part hw.tr B 0 (by decide) (od_mid o)
        rw [tr_unf hw.tr hBM] at h3
        have h4 : od G = (u3 ++ (G.k B false).flatMap (tr_S G.k 8193)) ++ B :: ((G.k B true).flatMap (tr_S G.k 8193) ++ v3) := by
          unfold od; rw [h3]; simp
        have h5 := (mid_uq _ _ _ _ hn2 (o.symm.trans h4)).2
        rw [hv] at h5
        have hcm : c' ∈ (G.k B true).flatMap (tr_S G.k 8193) := List.mem_flatMap.mpr ⟨c', hc', tr_self hw.tr (hw.tr B true c' hc').2⟩
        have hpm : p ∈ (G.k B true).flatMap (tr_S G.k 8193) := by
          rcases List.append_eq_append_iff.mp h5 with ⟨a, e1, e2⟩ | ⟨a, e1, e2⟩
          · cases a with
            | nil =>
              rw [List.append_nil] at e1
              rw [e1] at hcm
              exact absurd hkc' (q1 c' hcm)
            | cons x a =>
              rw [List.cons_append, List.cons.injEq] at e2
              rw [e1, e2.1]; simp
          · rw [e1] at q1
            exact absurd hkc' (q1 c' (List.mem_append_left _ hcm))
        obtain ⟨y, hy, hpy⟩ := List.mem_flatMap.mp hpm
        have h6 := hw.tr B true y hy
        have h7 := tr_ge hw.tr y h6.2 p hpy
        omega
      have e1 : od G = ((u0 ++ l1.flatMap (tr_S G.k 8193)) ++ l2.flatMap (tr_S G.k 8193)) ++ p :: ((G.k p true).flatMap (tr_S G.k 8193) ++ v0) := by rw [o1]; simp
      have e2 : od G = (u ++ B :: v1) ++ p :: v2 := by rw [o']; simp
      have hn3 := hn
      rw [e2] at hn3
      have e3 := (mid_uq _ _ _ _ hn3 (e2.symm.trans e1)).1
      have hBn : B ∉ l2.flatMap (tr_S G.k 8193) := fun hm => by
        obtain ⟨y, hy, hBy⟩ := List.mem_flatMap.mp hm
        have h6 := hw.tr p false y (by rw [hl]; exact List.mem_append_right _ hy)
        have h7 := tr_ge hw.tr y h6.2 B hBy
        omega
      rcases List.append_eq_append_iff.mp e3 with ⟨a, f1, f2⟩ | ⟨a, f1, f2⟩
      · cases a with
        | nil =>
          rw [List.nil_append] at f2
          rw [← f2] at hBn
          exact absurd List.mem_cons_self hBn
        | cons x a =>
          rw [List.cons_append, List.cons.injEq] at f2
          refine ⟨_, _, a, o1, o2, by rw [f1, ← f2.1]; simp, fun x hx => q1 x ?_⟩
          rw [f2.2]; exact List.mem_append_left _ hx
      · exfalso
        rw [f2] at hBn
        exact hBn (List.mem_append_right _ List.mem_cons_self)
  obtain ⟨a1, a2, t, o1, o2, ha, ht⟩ := key
  have hE := evS_I (G := G) s W c (tr_put G.k p b (l1 ++ (G.ne + 1) :: l2))
  have hsb : ∀ x ∈ od G, sb (addI G s W c (tr_put G.k p b (l1 ++ (G.ne + 1) :: l2))) (ug W s (G.ct s + 1)) x = sb G W x := fun x hx => sb_cg hx hw (fun _ _ _ _ => rfl) (fun e he => hE.knW hw ok he)
  have hnew : sb (addI G s W c (tr_put G.k p b (l1 ++ (G.ne + 1) :: l2))) (ug W s (G.ct s + 1)) (G.ne + 1) = true := by
    refine sb_s.mpr ⟨(hE.knn _).mpr (by rw [ug_at]; omega), fun d hd => ?_⟩
    have := (hw.de_lt G.ne d hd).1
    omega
  refine ⟨a1, a2, o2, ?_, fun h => absurd h (by omega), fun _ => hnew⟩
  have hm : ∀ x ∈ a1, x ∈ od G := fun x hx => by rw [o1]; exact List.mem_append_left _ hx
  rw [List.filter_append, List.length_append, List.filter_congr (fun x hx => hsb x (hm x hx)), ha, List.filter_append, flt_none ht, List.append_nil, cnt, List.filter_cons_of_pos hnew]
  rfl
theorem tx_cg {n n' : Nat} {l : List Nat} (h : ∀ x ∈ l, x ≠ 0 → (st G2 n' (x - 1) ↔ st G n (x - 1))) : (l.filter (fun x => decide (x ≠ 0 ∧ st G2 n' (x - 1)))) = (l.filter (fun x => decide (x ≠ 0 ∧ st G n (x - 1)))) := by
  refine List.filter_congr (fun x hx => decide_eq_decide.mpr ?_)
  constructor
  · rintro ⟨h1, h2⟩; exact ⟨h1, (h x hx h1).mp h2⟩
  · rintro ⟨h1, h2⟩; exact ⟨h1, (h x hx h1).mpr h2⟩
theorem od_ev (hw : WF G) {x : Nat} (hx : x ∈ od G) (h0 : x ≠ 0) : x - 1 < G.ne := by
  rcases (hw.mem x).mp hx with h | ⟨e, rfl, he, -⟩
  · exact absurd h h0
  · exact he
theorem tx_I (hw : WF G) {s i : Nat} {c : Int32} (ok : okE G s W) (h : stI G s W i c G2) : txL G2 (G.ne + 1) = txL G G.ne + 1 ∧ ∀ n, n ≤ G.ne → txL G2 n = txL G n := by
  obtain ⟨B, p, b, l1, l2, q1, q2, q3, q4, q5, q6, rfl⟩ := h
  have hne := ok.ne
  obtain ⟨a1, a2, o1, o2⟩ : ∃ a1 a2, od G = a1 ++ a2 ∧ tr_S (tr_put G.k p b (l1 ++ (G.ne + 1) :: l2)) 8193 0 = a1 ++ (G.ne + 1) :: a2 := by
    cases b with
    | true => obtain ⟨u, v, q1, q2⟩ := pl_R hw hne q3 q4; exact ⟨_, _, q1, q2⟩
    | false => obtain ⟨u, v, q1, q2⟩ := pl_L hw hne q3 q4; exact ⟨_, _, q1, q2⟩
  have hm1 : ∀ x ∈ a1, x ∈ od G := fun x hx => by rw [o1]; exact List.mem_append_left _ hx
  have hm2 : ∀ x ∈ a2, x ∈ od G := fun x hx => by rw [o1]; exact List.mem_append_right _ hx
  have hde0 : G.de G.ne = [] := by
    cases hd : G.de G.ne with
    | nil => rfl
    | cons d l =>
      have := (hw.de_lt G.ne d (by rw [hd]; exact List.mem_cons_self)).1
      omega
  unfold txL
  have e0 : od (addI G s W c (tr_put G.k p b (l1 ++ (G.ne + 1) :: l2))) = a1 ++ (G.ne + 1) :: a2 := o2
  rw [e0, o1]
  refine ⟨?_, fun n hn => ?_⟩
  · have hc : ∀ x ∈ od G, x ≠ 0 → (st (addI G s W c (tr_put G.k p b (l1 ++ (G.ne + 1) :: l2))) (G.ne + 1) (x - 1) ↔ st G G.ne (x - 1)) := fun x hx h0 => by
      have h1 := od_ev hw hx h0
      refine and_congr ⟨fun _ => h1, fun _ => by omega⟩ ⟨fun h d hd _ => h d hd (by have := (hw.de_lt _ d hd).2.1; omega), fun h d hd _ => h d hd (hw.de_lt _ d hd).2.1⟩
    rw [List.filter_append, List.filter_append, List.filter_cons_of_pos, tx_cg (fun x hx => hc x (hm1 x hx)), tx_cg (fun x hx => hc x (hm2 x hx)), List.length_append, List.length_append, List.length_cons]
    · omega
    · refine decide_eq_true ⟨by omega, ?_, fun d hd => ?_⟩
      · rw [Nat.add_sub_cancel]; omega
      · have hd' : d ∈ G.de (G.ne + 1 - 1) := hd
        rw [Nat.add_sub_cancel, hde0] at hd'
        cases hd'
  · have hc : ∀ x ∈ od G, x ≠ 0 → (st (addI G s W c (tr_put G.k p b (l1 ++ (G.ne + 1) :: l2))) n (x - 1) ↔ st G n (x - 1)) := fun x hx h0 => Iff.rfl
    rw [List.filter_append, List.filter_append, List.filter_cons_of_neg, tx_cg (fun x hx => hc x (hm1 x hx)), tx_cg (fun x hx => hc x (hm2 x hx))]
    intro h
    have := (of_decide_eq_true h).2.1
    omega
theorem tx_D (hw : WF G) {s : Nat} {e : Nat} (he : e < G.ne) (hi : G.ins e = true) : (G.de e = [] → txL (addD G s W e) (G.ne + 1) + 1 = txL G G.ne) ∧ (G.de e ≠ [] → txL (addD G s W e) (G.ne + 1) = txL G G.ne) ∧ ∀ n, n ≤ G.ne → txL (addD G s W e) n = txL G n := by
  have hmem : e + 1 ∈ od G := (hw.mem _).mpr (Or.inr ⟨e, rfl, he, hi⟩)
  have deo : ∀ x, x ≠ e → (addD G s W e).de x = G.de x := fun x hx => ug_ne hx
  have den : (addD G s W e).de e = G.ne :: G.de e := ug_at _ _ _
  have hot : ∀ x ∈ od G, x ≠ 0 → x ≠ e + 1 → (st (addD G s W e) (G.ne + 1) (x - 1) ↔ st G G.ne (x - 1)) := fun x hx h0 hxe => by
    have h1 := od_ev hw hx h0
    have hde := deo (x - 1) (by omega)
    show (_ ∧ ∀ d ∈ (addD G s W e).de (x - 1), _) ↔ _
    rw [hde]
    refine and_congr ⟨fun _ => h1, fun _ => by omega⟩ ⟨fun h d hd _ => h d hd (by have := (hw.de_lt _ d hd).2.1; omega), fun h d hd _ => h d hd (hw.de_lt _ d hd).2.1⟩
  have hno : ¬ st (addD G s W e) (G.ne + 1) e := fun h => by
    have := h.2 G.ne (by rw [den]; exact List.mem_cons_self)
    omega
  refine ⟨fun hd => ?_, fun hd => ?_, fun n hn => ?_⟩
  · obtain ⟨u, v, o⟩ := List.append_of_mem hmem
    have hnd := hw.nodup
    rw [o] at hnd
    have hnd' := List.nodup_append.mp hnd
    have hu : ∀ x ∈ u, x ≠ e + 1 := fun x hx h => hnd'.2.2 x hx (e + 1) List.mem_cons_self h
    have hv : ∀ x ∈ v, x ≠ e + 1 := fun x hx h => (List.nodup_cons.mp hnd'.2.1).1 (h ▸ hx)
    have hmu : ∀ x ∈ u, x ∈ od G := fun x hx => by rw [o]; exact List.mem_append_left _ hx
    have hmv : ∀ x ∈ v, x ∈ od G := fun x hx => by rw [o]; exact List.mem_append_right _ (List.mem_cons_of_mem _ hx)
    unfold txL
    have e0 : od (addD G s W e) = u ++ (e + 1) :: v := o
    rw [e0, o, List.filter_append, List.filter_append, List.filter_cons_of_neg, List.filter_cons_of_pos, tx_cg (fun x hx h0 => hot x (hmu x hx) h0 (hu x hx)), tx_cg (fun x hx h0 => hot x (hmv x hx) h0 (hv x hx)), List.length_append, List.length_append, List.length_cons]
    · omega
    · refine decide_eq_true ⟨by omega, ?_, fun d hd' => ?_⟩
      · rw [Nat.add_sub_cancel]; exact he
      · rw [Nat.add_sub_cancel, hd] at hd'
        cases hd'
    · intro h
      exact hno (of_decide_eq_true h).2
  · unfold txL
    have e0 : od (addD G s W e) = od G := rfl
    rw [e0, tx_cg (fun x hx h0 => ?_)]
    by_cases hxe : x = e + 1
    · subst hxe
      rw [Nat.add_sub_cancel]
      refine ⟨fun h => absurd h hno, fun h => ?_⟩
      cases hq : G.de e with
      | nil => exact absurd hq hd
      | cons d l =>
        have hdm : d ∈ G.de e := by rw [hq]; exact List.mem_cons_self
        exact absurd (hw.de_lt e d hdm).2.1 (h.2 d hdm)
    · exact hot x hx h0 hxe
  · unfold txL
    have e0 : od (addD G s W e) = od G := rfl
    rw [e0, tx_cg (fun x hx h0 => ?_)]
    by_cases hxe : x = e + 1
    · subst hxe
      rw [Nat.add_sub_cancel]
      show (_ ∧ ∀ d ∈ (addD G s W e).de e, _) ↔ _
      rw [den]
      refine and_congr Iff.rfl ⟨fun h d hd' => h d (List.mem_cons_of_mem _ hd'), fun h d hd' => ?_⟩
      rcases List.mem_cons.mp hd' with rfl | hd'
      · omega
      · exact h d hd'
    · show (_ ∧ ∀ d ∈ (addD G s W e).de (x - 1), _) ↔ _
      rw [deo (x - 1) (by omega)]
end RU
