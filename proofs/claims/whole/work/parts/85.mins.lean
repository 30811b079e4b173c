section MINS
variable {z mi mc ms : Nat} {G G2 : AG} {M M0 M2 : MA} {g g0 g2 : Sg} {L : List Nat} {V W : Nat → Nat} {F R F2 R2 : Nat → Nat → Int32} {I I2 : Nat → Int32} {k : Nat → Bool → List Nat} {rl : Nat → Nat}
theorem t_218 (hP : PM M0 g0 M g F R I) {n a e : Nat} (ha : a ≤ n) (hn : n < 8192) (h31 : I 31 = nI n) {post : Sg → Prop} {kc ks : Nat}
    (kp : ∀ g2 h, (∀ j, j < a → h j = F 50 j) → h a = nI e → (∀ j, a < j → j ≤ n → h j = F 50 (j - 1)) → PM M0 g0 M g2 (ug F 50 h) R (ug I 31 (nI (n + 1))) → post g2) : w_G_insert_218 z mi mc ms post (n - a + 1) kc ks g M.gr (nI e) (nI a) (nI n) := by
  have loop : ∀ d m, a + d = m → m ≤ n → ∀ g h, PM M0 g0 M g (ug F 50 h) R I → (∀ j, j < m → h j = F 50 j) → (∀ j, m < j → j ≤ n → h j = F 50 (j - 1)) → w_G_insert_218 z mi mc ms post (d + 1) kc ks g M.gr (nI e) (nI a) (nI m) := by
    intro d
    induction d with
    | zero =>
      intro m hm hmn g h hP h1 h2
      have em : m = a := by omega
      subst em
      have hg := hP.k.gr
      unfold w_G_insert_218
      rw [lI (by omega) (by omega)]
      refine ⟨fun _ => ?_, fun h => absurd (Nat.le_refl _) h⟩
      (refine ⟨?_, ?_⟩; (focus (first | exact hasI_of (by assumption) (by decide) | exact hasR_of (by assumption) (by decide))); rintro _ rfl; try rw [hP.f.f 50 (by decide)])
      refine ⟨_, rfl, ?_⟩
      refine ⟨m, ⟨_, hP.k.f 50 (by decide), rfl, by show m < 8192; omega, by decide⟩, ?_⟩
      intro g1 e1
      have hP1 := hP.sF 50 (by decide) m (nI e)
      rw [← e1] at hP1
      clear e1
      have hg1 := hP1.k.gr
      have v31 : fI g1 31 M.gr = nI n := (hP1.i 31).trans h31
      (refine ⟨?_, ?_⟩; (focus (first | exact hasI_of (by assumption) (by decide) | exact hasR_of (by assumption) (by decide))); rintro _ rfl; try rw [v31])
      refine ⟨hasI_of hg1 (by decide), ?_⟩
      intro g2 e2
      rw [nI_1] at e2
      have hP2 := hP1.wG 31 (by decide) (nI (n + 1))
      rw [← e2] at hP2
      clear e2
      have eF : ug (ug F 50 h) 50 (ug (ug F 50 h 50) m (nI e)) = ug F 50 (ug h m (nI e)) := by
        funext i
        by_cases hi : i = 50
        · subst hi; rw [ug_at, ug_at, ug_at]
        · rw [ug_ne hi, ug_ne hi, ug_ne hi]
      rw [eF] at hP2
      refine kp g2 _ (fun j hj => ?_) (ug_at _ _ _) (fun j hj hjn => ?_) hP2
      · rw [ug_ne (by omega)]; exact h1 j hj
      · rw [ug_ne (by omega)]; exact h2 j hj hjn
    | succ d ih =>
      intro m hm hmn g h hP h1 h2
      have hg := hP.k.gr
      obtain ⟨m', rfl⟩ : ∃ m', m = m' + 1 := ⟨m - 1, by omega⟩
      have e1 : nI (m' + 1) - 1 = nI m' := by rw [← nI_1]; exact Int32.add_sub_cancel _ _
      have v50 : aI g (M.f 50) m' = F 50 m' := by rw [hP.a 50 (by decide), ug_at]; exact h1 m' (by omega)
      unfold w_G_insert_218
      rw [lI (by omega) (by omega), e1, nI_dec]
      refine ⟨fun h => absurd h (by omega), fun _ => ?_⟩
      (refine ⟨?_, ?_⟩; (focus (first | exact hasI_of (by assumption) (by decide) | exact hasR_of (by assumption) (by decide))); rintro _ rfl; try rw [hP.f.f 50 (by decide)])
      (refine ⟨?_, ?_⟩; (focus (first | exact hasI_of (by assumption) (by decide) | exact hasR_of (by assumption) (by decide))); rintro _ rfl; try rw [hP.f.f 50 (by decide)])
      refine ⟨_, rfl, ?_⟩
      (refine ⟨m', ⟨_, hP.k.f 50 (by decide), rfl, by show m' < 8192; omega, by decide⟩, ?_⟩; rintro _ rfl; try rw [v50])
      refine ⟨_, rfl, ?_⟩
      refine ⟨m' + 1, ⟨_, hP.k.f 50 (by decide), rfl, by show m' + 1 < 8192; omega, by decide⟩, ?_⟩
      intro g1 e1
      have hP1 := hP.sF 50 (by decide) (m' + 1) (F 50 m')
      rw [← e1] at hP1
      clear e1
      have eF : ug (ug F 50 h) 50 (ug (ug F 50 h 50) (m' + 1) (F 50 m')) = ug F 50 (ug h (m' + 1) (F 50 m')) := by
        funext i
        by_cases hi : i = 50
        · subst hi; rw [ug_at, ug_at, ug_at]
        · rw [ug_ne hi, ug_ne hi, ug_ne hi]
      rw [eF] at hP1
      refine ih m' (by omega) (by omega) g1 _ hP1 (fun j hj => ?_) (fun j hj hjn => ?_)
      · rw [ug_ne (by omega)]; exact h1 j (by omega)
      · by_cases hjm : j = m' + 1
        · subst hjm; rw [ug_at]; rfl
        · rw [ug_ne hjm]; exact h2 j (by omega) hjn
  have e0 : ug F 50 (F 50) = F := by
    funext i
    by_cases hi : i = 50
    · subst hi; rw [ug_at]
    · rw [ug_ne hi]
  exact loop (n - a) n (by omega) (Nat.le_refl _) g (F 50) (by rw [e0]; exact hP) (fun _ _ => rfl) (fun j h1 h2 => by omega)
def near (ne : Nat) (F F2 : Nat → Nat → Int32) : Prop := (∀ i, i ≠ 38 → i ≠ 39 → i ≠ 40 → i ≠ 41 → i ≠ 45 → F2 i = F i) ∧ (∀ e, e ≠ ne → F2 38 e = F 38 e) ∧ (∀ e, e ≠ ne → F2 40 e = F 40 e)
theorem near.o {ne : Nat} {F F2 : Nat → Nat → Int32} (h : near ne F F2) : ∀ i, i ≠ 38 → i ≠ 39 → i ≠ 40 → i ≠ 41 → i ≠ 45 → F2 i = F i := h.1
theorem near.a {ne : Nat} {F F2 : Nat → Nat → Int32} (h : near ne F F2) : ∀ e, e ≠ ne → F2 38 e = F 38 e := h.2.1
theorem near.c {ne : Nat} {F F2 : Nat → Nat → Int32} (h : near ne F F2) : ∀ e, e ≠ ne → F2 40 e = F 40 e := h.2.2
theorem near.mk {ne : Nat} {F F2 : Nat → Nat → Int32} (h0 : ∀ i, i ≠ 38 → i ≠ 39 → i ≠ 40 → i ≠ 41 → i ≠ 45 → F2 i = F i) (h1 : ∀ e, e ≠ ne → F2 38 e = F 38 e) (h2 : ∀ e, e ≠ ne → F2 40 e = F 40 e) : near ne F F2 := ⟨h0, h1, h2⟩
theorem near.q {s : Nat} (hn : near G.ne F F2) (hq : RMq (addN G s W) rl G.ne F R I) : RMq (addN G s W) rl G.ne F2 R I := by
  have e32 := hn.o 32 (by decide) (by decide) (by decide) (by decide) (by decide)
  have e33 := hn.o 33 (by decide) (by decide) (by decide) (by decide) (by decide)
  have e35 := hn.o 35 (by decide) (by decide) (by decide) (by decide) (by decide)
  have e36 := hn.o 36 (by decide) (by decide) (by decide) (by decide) (by decide)
  have e37 := hn.o 37 (by decide) (by decide) (by decide) (by decide) (by decide)
  have e42 := hn.o 42 (by decide) (by decide) (by decide) (by decide) (by decide)
  have e43 := hn.o 43 (by decide) (by decide) (by decide) (by decide) (by decide)
  have e44 := hn.o 44 (by decide) (by decide) (by decide) (by decide) (by decide)
  have e48 := hn.o 48 (by decide) (by decide) (by decide) (by decide) (by decide)
  have e49 := hn.o 49 (by decide) (by decide) (by decide) (by decide) (by decide)
  have e50 := hn.o 50 (by decide) (by decide) (by decide) (by decide) (by decide)
  refine RMq.mk hq.ne hq.na hq.no ?_ ?_ ?_ hq.ev hq.rl ?_ ?_ ?_ (fun e he h => ?_) (fun e he hi => ?_) ?_ ?_ ?_ ?_
  · rw [e42]; exact hq.rc
  · rw [e32]; exact hq.nm
  · rw [e33]; exact hq.ct
  · rw [e35]; exact hq.sl
  · rw [e36]; exact hq.nu
  · rw [e37]; exact hq.pa
  · rw [hn.a e h]; exact hq.ins e he h
  · have h : e ≠ G.ne := fun h => by
      have hi' : ug G.ins G.ne false e = true := hi
      rw [h, ug_at] at hi'; cases hi'
    rw [hn.c e h]; exact hq.cd e he hi
  · rw [e42, e43]; exact hq.lc
  · rw [e42, e44]; exact hq.rch
  · rw [e48, e49]; exact hq.de
  · rw [e50]; exact hq.ord
theorem near.s (hn : near M.m F F2) {i : Nat} (hi : i = 38 ∨ i = 39 ∨ i = 40 ∨ i = 41 ∨ i = 45) (v : Int32) : near M.m F (ug F2 i (ug (F2 i) M.m v)) := by
  refine near.mk (fun j h1 h2 h3 h4 h5 => ?_) (fun e he => ?_) (fun e he => ?_)
  · rw [ug_ne (by omega)]; exact hn.o j h1 h2 h3 h4 h5
  · by_cases h : i = 38
    · subst h; rw [ug_at, ug_ne he]; exact hn.a e he
    · rw [ug_ne (fun h' => h h'.symm)]; exact hn.a e he
  · by_cases h : i = 40
    · subst h; rw [ug_at, ug_ne he]; exact hn.c e he
    · rw [ug_ne (fun h' => h h'.symm)]; exact hn.c e he
theorem near.w {ne : Nat} (hn : near ne F F2) {i : Nat} (hi : i = 38 ∨ i = 39 ∨ i = 40 ∨ i = 41 ∨ i = 45) (v : Int32) : near ne F (ug F2 i (ug (F2 i) ne v)) := near.s (M := MA.mk ne 0 (fun _ => 0) (fun _ => 0) (fun _ => 0) 0) hn hi v
theorem q_addI (hw : WF G) {s : Nat} {c : Int32} {k2 : Nat → Bool → List Nat} (hw2 : WF (addI G s W c k2)) (hq : RMn G s W rl F R I) {a1 a2 : List Nat} (o1 : od G = a1 ++ a2) (o2 : tr_S k2 8193 0 = a1 ++ (G.ne + 1) :: a2) (hl : 0 < a1.length) (h29 : I2 29 = I 29) (h30 : I2 30 = I 30) (h31 : I2 31 = nI ((od G).length - 1 + 1)) (hrc : chI (F2 42) (I2 46) ((k2 0 true).map (· - 1))) (hrt : rT k2 (F2 42) (F2 43) (F2 44)) (n38 : F2 38 G.ne = 1) (n40 : F2 40 G.ne = c) (n49 : F 49 G.ne = -1)
    (f38 : ∀ e, e ≠ G.ne → F2 38 e = F 38 e) (f40 : ∀ e, e ≠ G.ne → F2 40 e = F 40 e) (hF : ∀ i, i = 32 ∨ i = 33 ∨ i = 35 ∨ i = 36 ∨ i = 37 ∨ i = 48 ∨ i = 49 → F2 i = F i) (p1 : ∀ j, j < a1.length - 1 → F2 50 j = F 50 j) (p2 : F2 50 (a1.length - 1) = nI G.ne) (p3 : ∀ j, a1.length - 1 < j → j ≤ (od G).length - 1 → F2 50 j = F 50 (j - 1)) : RMq (addI G s W c k2) rl 8192 F2 R I2 := by
  have sp : ∀ e, e < G.ne + 1 → e < G.ne ∨ e = G.ne := fun e he => by omega
  have e32 := hF 32 (by decide)
  have e33 := hF 33 (by decide)
  have e35 := hF 35 (by decide)
  have e36 := hF 36 (by decide)
  have e37 := hF 37 (by decide)
  have e48 := hF 48 (by decide)
  have e49 := hF 49 (by decide)
  have eo : od (addI G s W c k2) = a1 ++ (G.ne + 1) :: a2 := o2
  have hin : ∀ e, e < G.ne + 1 → ug G.ins G.ne true e = true → (e + 1) ∈ tr_S k2 8193 0 := fun e he hi => (hw2.mem (e + 1)).mpr (Or.inr ⟨e, rfl, he, hi⟩)
  refine RMq.mk (h29.trans hq.ne) (h30.trans hq.na) ?_ hrc ?_ ?_ hq.ev hq.rw ?_ ?_ ?_ (fun e he _ => ?_) (fun e he hi => ?_) (fun e he hi => ?_) (fun e he hi => ?_) (fun e he hi => ?_) (fun i x hx => ?_)
  · rw [eo, h31, o1]
    congr 1
    simp only [List.length_append, List.length_cons]
    omega
  · rw [e32]; exact hq.nm
  · rw [e33]; exact hq.ct
  · rw [e35]; exact hq.sl
  · rw [e36]; exact hq.nu
  · rw [e37]; exact hq.pa
  · show F2 38 e = if ug G.ins G.ne true e = true then 1 else 0
    rcases sp e he with h | rfl
    · rw [f38 e (by omega), ug_ne (by omega)]; exact hq.ins e h
    · rw [n38, ug_at]; rfl
  · show F2 40 e = ug G.cd G.ne c e
    have hi' : ug G.ins G.ne true e = true := hi
    rcases sp e he with h | rfl
    · rw [ug_ne (by omega)] at hi'
      rw [f40 e (by omega), ug_ne (by omega)]; exact hq.cd e h hi'
    · rw [n40, ug_at]
  · exact hrt e (hin e he hi) false
  · exact hrt e (hin e he hi) true
  · show chI (F2 48) (F2 49 e) (G.de e)
    have hi' : ug G.ins G.ne true e = true := hi
    rw [e48, e49]
    rcases sp e he with h | rfl
    · rw [ug_ne (by omega)] at hi'
      exact hq.de e h hi'
    · have hd : G.de G.ne = [] := by
        cases hd : G.de G.ne with
        | nil => rfl
        | cons d l => exact absurd (hw.de_lt G.ne d (by rw [hd]; exact List.mem_cons_self)).1 (Nat.lt_irrefl _)
      rw [hd]; exact n49
  · rw [eo] at hx
    rcases Nat.lt_trichotomy (i + 1) a1.length with h | h | h
    · rw [List.getElem?_append_left h] at hx
      rw [p1 i (by omega)]
      refine hq.ord i x ?_
      rw [o1, List.getElem?_append_left h]; exact hx
    · rw [h, List.getElem?_append_right (Nat.le_refl _), Nat.sub_self] at hx
      have hx' : x = G.ne + 1 := by
        have : some (G.ne + 1) = some x := hx
        injection this with this; exact this.symm
      subst hx'
      have : i = a1.length - 1 := by omega
      rw [this, p2]; rfl
    · rw [List.getElem?_append_right (by omega)] at hx
      obtain ⟨j, hj⟩ : ∃ j, i + 1 - a1.length = j + 1 := ⟨i - a1.length, by omega⟩
      rw [hj, List.getElem?_cons_succ] at hx
      have hjl := (List.getElem?_eq_some_iff.mp hx).1
      have hlen : (od G).length = a1.length + a2.length := by rw [o1, List.length_append]
      rw [p3 i (by omega) (by omega)]
      refine hq.ord (i - 1) x ?_
      rw [o1, List.getElem?_append_right (by omega)]
      have : i - 1 + 1 - a1.length = j := by omega
      rw [this]; exact hx
end MINS
