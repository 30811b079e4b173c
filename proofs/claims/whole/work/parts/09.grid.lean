/-! arrays of arrays -/
abbrev Sg_T (g : Sg) : Nat → Option (Nat × Nat) := hT g
theorem oC_arr (c : ClassId) (N h0 : Nat) : ∀ i : Nat, Jvm.Free.Multi.outerC c N h0 i = arrV c N (fun j => va_rf (if j < i then some (h0 + 1 + j) else none))
  | 0 => by
    show ({ cls := c, slots := Array.replicate N .null, vm := .none } : Cell) = _
    rw [arrV_new]
    rfl
  | i + 1 => by
    show (Jvm.Free.Multi.outerC c N h0 i).setSlot i (.ref (h0 + 1 + i)) = _
    rw [oC_arr c N h0 i, arrV_store]
    congr 1
    funext j
    by_cases hj : j = i
    · subst hj; simp [updV, va_rf]
    · have h1 : (j < i + 1) = (j < i) := by apply propext; omega
      simp [updV, hj, h1]
theorem iC_arr (c : ClassId) (M : Nat) (dv : Value) : Jvm.Free.Multi.innerC c M dv = arrV c M (fun _ => dv) := by
  show ({ cls := c, slots := Array.replicate M dv, vm := .none } : Cell) = _
  rw [arrV_new]
/-- new int[16][8]: the outer array at a, the rows behind it -/
def nM (g : Sg) (a : Nat) : Sg := (fun b => if b = a then some (107, 16) else if a < b ∧ b < a + 17 then some (100, 8) else g.1 b, fun f b => if a ≤ b ∧ b < a + 17 then 0 else g.2.1 f b, fun f b => if a ≤ b ∧ b < a + 17 then none else g.2.2.1 f b,
  fun b i => if a ≤ b ∧ b < a + 17 then 0 else g.2.2.2.1 b i, fun b i => if b = a then (if i < 16 then some (a + 1 + i) else none) else if a < b ∧ b < a + 17 then none else g.2.2.2.2.1 b i, fun b i => if a ≤ b ∧ b < a + 17 then 0 else g.2.2.2.2.2 b i)
theorem enc_nM_ne {cA : Nat → ClassId} {g : Sg} {a b : Nat} (h : ¬ (a ≤ b ∧ b < a + 17)) : enc cA (nM g a) b = enc cA g b := by
  have ha : b ≠ a := fun e => h (by omega)
  have hb : ¬ (a < b ∧ b < a + 17) := fun e => h (by omega)
  have h0 : hT (nM g a) b = hT g b := by simp [hT, nM, ha, hb]
  have h1 : eV (nM g a) b = eV g b := funext fun d => by simp [eV, nM, fR, fI, h]
  have h2 : ∀ k', eA k' (nM g a) b = eA k' g b := fun k' => by simp [eA, nM, aI, aL, aR, h, ha, hb]
  unfold enc
  rw [h0, h1]
  cases hT g b with
  | none => rfl
  | some q => simp only [h2]
theorem enc_nM_o {cA : Nat → ClassId} {g : Sg} {a : Nat} : enc cA (nM g a) a = .inl (cA 107, 16, .inr (.inr (.inr (.inr (fun j => if j < 16 then some (a + 1 + j) else none))))) := by
  rw [enc_R (k := 107) (n := 16) (by simp [hT, nM]) (by omega)]
  simp [aR, nM]
theorem enc_nM_i {cA : Nat → ClassId} {g : Sg} {a j : Nat} (hj : j < 16) : enc cA (nM g a) (a + 1 + j) = .inl (cA 100, 8, .inl (fun _ => 0)) := by
  have h1 : ¬ a + 1 + j = a := by omega
  have h2 : a < a + 1 + j ∧ a + 1 + j < a + 17 := by omega
  have h3 : a ≤ a + 1 + j ∧ a + 1 + j < a + 17 := by omega
  rw [enc_I (k := 100) (n := 8) (by simp [hT, nM, h1, h2]) (by omega) (by omega)]
  simp [aI, nM, h3]
section HM
variable {p : Program} {l : Launch} {e : Env} {R : Room} {s : State} {m : MethodId} {args : Array Value} {below : List Frame} {meth : Method} {c : Code} {H : Heap} {locs : List Loc} {cells slots : Nat} {Q : State → Prop}
variable {cc : ByteArray} {nL pc : Nat} {ls : Array Slot} {rest : List Value} {own : String} {D : va_G} {cA : Nat → ClassId} {sz z mi : Nat} {g : Sg} {a b j n index : Nat} {i : Int32}
/-- the rows' class is the outer array's component -/
theorem Ws.grid (hZ : Ws D cA sz z mi s) : ∃ k : Class, s.vm.classes[cA 107]? = some k ∧ k.kind = .array (cA 100) (.array .int) := by
  obtain ⟨comp, c9, k, h1, h3, h4, h5⟩ := Cond.arrayOver_specA (hZ.2.2.2.2.2.2.2.2.2.2.2.2.2.2.2.2.1)
  have e1 : comp = cA 100 := Option.some.inj (h1.symm.trans (hZ.1.2 0 _ rfl).2)
  have e2 : c9 = cA 107 := Option.some.inj (h5.symm.trans (hZ.1.2 7 _ rfl).2)
  subst e1; subst e2
  exact ⟨k, h3, h4⟩
theorem r_mast (S : CallFix p m c cc nL s args TBL own) (hZ : Ws D cA sz z mi s) (hG : WP D cA sz g H) (hS : va_S (oA sz) s.heap H locs) (hi : inA g a 107 i j) (hv : hT g b = some (100, n)) (hdg : decode cc pc = .ok (.aastore, 1))
    (kk : ∀ (g2 : Sg) (H1 : Heap) (locs1 : List Loc), g2 = sR g a j (some b) → WP D cA sz g2 H1 → va_S (oA sz) s.heap H1 locs1 → W p l e R s m args below meth c H1 locs1 cells slots Q (F0 m (pc + 1) ls rest)) : W p l e R s m args below meth c H locs cells slots Q (F0 m pc ls (.ref b :: .int i :: .ref a :: rest)) := by
  obtain ⟨n1, ha, hv1, rfl, hlt⟩ := hi.vp
  obtain ⟨L, hL, hP, hD⟩ := hG
  obtain ⟨hm, q0, hq⟩ := WP.at (cA := cA) (by rw [ha]; exact fun h => nomatch h) hL
  obtain ⟨hm2, q2, hq2⟩ := WP.at (cA := cA) (a := b) (by rw [hv]; exact fun h => nomatch h) hL
  rw [enc_I hv (by omega) (by omega)] at hq2
  have hq' := hq
  rw [enc_R ha (by omega)] at hq
  obtain ⟨k, k1, k2⟩ := hZ.grid
  obtain ⟨-, kC, hkC, -⟩ := (hZ.1.2 0 _ rfl).1 0 (fun _ => .null)
  have hc : H[b]? = some (vp_cell (cA 100) (n, .inl (aI g b))) := hP q2 _ hq2
  have h0 : ¬ i < 0 := fun q => hv1 (Or.inl q)
  refine W.aast S.1 S.2.1 (hP q0 _ hq) (fun q h => by cases h) (fun h => by cases h) k1 k2 rfl hkC ⟨h0, by show _ < (arrV _ _ _).slots.size; rw [arrV_size]; exact hlt⟩ hc (fun q h => by cases h) hkC (va_asg _ _) rfl rfl hdg fun H1 e1 z1 oq => ?_
  have hat : va_at D hp_cl (a, .inl (cA 107, n1, .inr (.inr (.inr (.inr (va_up (aR g a) i.toNatClampNeg (some b))))))) H1 := by
    show H1[a]? = some (vp_cell _ _)
    rw [e1]
    rw [vp_cell_q, vp_cell_q, arrV_store]
    congr 2
    funext q
    by_cases hq9 : q = i.toNatClampNeg
    · subst hq9; simp [updV, va_up, va_rf]
    · simp [updV, va_up, hq9]
  exact kk _ H1 _ rfl (WP.upd hL (hT_sR g a _ _) hD hm hq' (enc_sR ha (by omega)) (fun b hb => enc_sR_ne hb) (hP.set hD hq hat oq) (hD.set hq)) (hS.put z1 oq (hD.2 q0 _ hq))
theorem r_mna {i8 i16 : Int32} (S : CallFix p m c cc nL s args TBL own) (hZ : Ws D cA sz z mi s) (hG : WP D cA sz g H) (hS : va_S (oA sz) s.heap H locs) (hcl : (Cond.classLink own index "[[I").before args s = true) (harr : (Cond.arrayClass .int).before args s = true) (e8 : i8 = 8) (e16 : i16 = 16) (hc : cells + 17 ≤ R.cells) (hs : slots + 144 ≤ R.slots) (hdg : decode cc pc = .ok (.multianewarray index 2, 4))
    (kk : ∀ (q : Nat) (g2 : Sg) (H1 : Heap), (∀ i, i < 17 → hT g (q + i) = none) → g2 = nM g q → WP D cA sz g2 H1 → va_S (oA sz) s.heap H1 locs → W p l e R s m args below meth c H1 locs (cells + 17) (slots + 144) Q (F0 m (pc + 4) ls (.ref q :: rest))) : W p l e R s m args below meth c H locs cells slots Q (F0 m pc ls (.int i8 :: .int i16 :: rest)) := by
  subst e8; subst e16
  obtain ⟨hx, hb, hml, hown, hts⟩ := S
  obtain ⟨L, hL, hP, hD⟩ := hG
  have hov : (Cond.arrayOver (.array .int)).before args s = true := hZ.2.2.2.2.2.2.2.2.2.2.2.2.2.2.2.2.1
  intro T hTT X
  have t16 : (16 : Int32).toNatClampNeg = 16 := by decide
  have t8 : (8 : Int32).toNatClampNeg = 8 := by decide
  obtain ⟨vm₁, c1, c2, hW, f1, f2, -, -, X1, st⟩ := X.multianewarray2F hx (ty := .int) hown hcl hov harr (g := F0 m pc ls (.int 8 :: .int 16 :: rest)) rfl (by rw [hb]; exact hdg) rfl (by decide) (by decide) (by decide) (by decide) (by decide) rfl rfl (by rw [t16]; exact hc) (by rw [t16, t8]; exact hs)
  have e1 : c1 = cA 107 := Option.some.inj (f1.symm.trans (hZ.1.2 7 _ rfl).2)
  have e2 : c2 = cA 100 := Option.some.inj (f2.symm.trans (hZ.1.2 0 _ rfl).2)
  subst e1; subst e2
  rw [t16, t8] at X1 st
  rw [hTT] at st
  have hTh : (T.setVm vm₁).heap = H := hTT
  obtain ⟨s1, s2, -, -⟩ := Jvm.Free.Multi.fill_facts (T.setVm vm₁) (cA 107) (cA 100) 16 8 (defaultValue .int) 16
  have s3 : ∀ q : Nat, q < H.size → _ := fun q hq => Jvm.Free.Multi.fill_old (T.setVm vm₁) (cA 107) (cA 100) 16 8 (defaultValue .int) (a := q) (by rw [hTh]; exact hq) 16
  have s4 := Jvm.Free.Multi.fill_inner (T.setVm vm₁) (cA 107) (cA 100) 16 8 (defaultValue .int) 16
  rw [hTh] at s1 s2 s3 s4
  rw [oC_arr] at s2
  generalize hF : Jvm.Free.Multi.fill (T.setVm vm₁) (cA 107) (cA 100) 16 8 (defaultValue .int) 16 = U at X1 st s1 s2 s3 s4
  have hnone : ∀ i, i < 17 → Sg_T g (H.size + i) = none := fun i _ => by
    cases h : Sg_T g (H.size + i) with
    | none => rfl
    | some x =>
      obtain ⟨_, k, hk⟩ := WP.at (cA := cA) (g := g) (a := H.size + i) (by show Sg_T g _ ≠ none; rw [h]; exact fun h => nomatch h) hL
      have := (hP k _ hk).lt
      omega
  have hsz := hS.1
  have hz9 := hZ.2.1
  have hin : ∀ b, (b ∈ L ∨ (H.size ≤ b ∧ b < H.size + 17)) ↔ Sg_T (nM g H.size) b ≠ none := by
    intro b
    by_cases h1 : b = H.size
    · subst h1; simp [Sg_T, hT, nM]
    · by_cases h2 : H.size < b ∧ b < H.size + 17
      · have h3 : H.size ≤ b ∧ b < H.size + 17 := by omega
        simp [Sg_T, hT, nM, h1, h2, h3]
      · have h3 : ¬ (H.size ≤ b ∧ b < H.size + 17) := by omega
        have h4 : Sg_T (nM g H.size) b = Sg_T g b := by simp [Sg_T, hT, nM, h1, h2]
        rw [h4]
        simp only [h3, or_false]
        exact hL b
  have hWP : WP D cA sz (nM g H.size) U.heap := by
    refine ⟨L ++ (List.range 17).map (fun i => H.size + i), fun b => ?_, ?_, ?_⟩
    · rw [← hin b, List.mem_append]
      refine or_congr Iff.rfl ?_
      simp only [List.mem_map, List.mem_range]
      constructor
      · rintro ⟨i, h1, h2⟩; omega
      · intro h; exact ⟨b - H.size, by omega, by omega⟩
    · intro k q hq
      have hq := List.mem_of_getElem? hq
      obtain ⟨b, hb9, rfl⟩ := List.mem_map.mp hq
      rcases List.mem_append.mp hb9 with h | h
      · obtain ⟨k9, hk9⟩ := va_pl_get (X := []) (f := enc cA g) h
        have hat := hP k9 _ hk9
        have hlt : b < H.size := hat.lt
        rw [enc_nM_ne (by omega)]
        exact hat.kept (s3 b hlt)
      · obtain ⟨i, h1, rfl⟩ := List.mem_map.mp h
        have hi : i < 17 := List.mem_range.mp h1
        by_cases h0 : i = 0
        · subst h0
          rw [Nat.add_zero, enc_nM_o]
          show U.heap[H.size]? = some (vp_cell _ _)
          rw [s2, vp_cell_q]
        · obtain ⟨i', rfl⟩ : ∃ i', i = i' + 1 := ⟨i - 1, by omega⟩
          have e9 : H.size + (i' + 1) = H.size + 1 + i' := by omega
          rw [e9, enc_nM_i (by omega)]
          show U.heap[H.size + 1 + i']? = some (vp_cell _ _)
          rw [s4 i' (by omega), iC_arr, vp_cell_i]
          rfl
    · have hnd : (L ++ (List.range 17).map (fun i => H.size + i)).Nodup := by
        have hLn : L.Nodup := by
          rw [List.nodup_iff_pairwise_ne, List.pairwise_iff_getElem]
          intro i j hi hj hij h
          have g1 : (va_pl L (enc cA g))[i]? = some (L[i], enc cA g L[i]) := by simp [va_pl, hi]
          have g2 : (va_pl L (enc cA g))[j]? = some (L[j], enc cA g L[j]) := by simp [va_pl, hj]
          have := hD.1 i j _ _ g1 g2 h
          omega
        refine List.nodup_append.mpr ⟨hLn, ?_, ?_⟩
        · (rw [List.nodup_iff_pairwise_ne, List.pairwise_map]; exact List.Pairwise.imp (fun {x y} h e => h (by omega)) (List.nodup_iff_pairwise_ne.mp List.nodup_range))
        · intro x hx y hy h
          subst h
          obtain ⟨k9, hk9⟩ := va_pl_get (X := []) (f := enc cA g) hx
          have hlt := (hP k9 _ hk9).lt
          obtain ⟨i, h1, h2⟩ := List.mem_map.mp hy
          have hlt' : x < H.size := hlt
          omega
      refine ⟨fun i j x y hi hj hxy => ?_, fun k q hq => ?_⟩
      · unfold va_pl at hi hj
        rw [List.getElem?_map] at hi hj
        cases h1 : (L ++ (List.range 17).map (fun i => H.size + i))[i]? with
        | none => rw [h1] at hi; cases hi
        | some u =>
          cases h2 : (L ++ (List.range 17).map (fun i => H.size + i))[j]? with
          | none => rw [h2] at hj; cases hj
          | some v =>
            rw [h1] at hi; rw [h2] at hj
            cases hi; cases hj
            have huv : u = v := hxy
            subst huv
            exact (List.getElem?_inj (List.getElem?_eq_some_iff.mp h1).1 hnd).mp (h1.trans h2.symm)
      · have hq := List.mem_of_getElem? hq
        obtain ⟨b, hb9, rfl⟩ := List.mem_map.mp hq
        rcases List.mem_append.mp hb9 with h | h
        · obtain ⟨k9, hk9⟩ := va_pl_get (X := []) (f := enc cA g) h
          exact hD.2 k9 (b, enc cA g b) hk9
        · obtain ⟨i, h1, rfl⟩ := List.mem_map.mp h
          show sz ≤ _
          omega
  have X2 : Stand p l e R s m args below meth c U locs (cells + 17) (slots + 144) := by
    have h1 : cells + 1 + 16 = cells + 17 := by omega
    have h2 : slots + 16 + 16 * 8 = slots + 144 := by omega
    rw [h1, h2] at X1
    exact X1
  obtain ⟨t, a1, b1⟩ := kk H.size _ U.heap hnone rfl hWP ⟨by omega, fun q h1 h2 => by rw [s3 q (by omega)]; exact hS.2.1 q h1 h2, hS.2.2⟩ U rfl X2
  exact ⟨t, st t a1, b1⟩
end HM
