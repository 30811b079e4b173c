/-- i is the place j of the array at a, of kind k -/
def inA (g : Sg) (a k : Nat) (i : Int32) (j : Nat) : Prop := ∃ n, hT g a = some (k, n) ∧ i = nI j ∧ j < n ∧ n ≤ 1000000
/-- the array's length -/
def lenA (g : Sg) (z a n : Nat) : Prop := (∃ k, hT g a = some (k, n) ∧ 100 ≤ k ∧ k < 108) ∨ (a = z ∧ n = 0)
theorem enc_sI_ne {cA : Nat → ClassId} {g : Sg} {a b i : Nat} {v : Int32} (h : b ≠ a) : enc cA (sI g a i v) b = enc cA g b := by
  have h1 : eV (sI g a i v) b = eV g b := rfl
  have h2 : ∀ k, eA k (sI g a i v) b = eA k g b := fun k => by simp [eA, sI, aI, aL, aR, h]
  unfold enc
  rw [hT_sI, h1]
  cases hT g b with
  | none => rfl
  | some q => simp only [h2]
theorem enc_sR_ne {cA : Nat → ClassId} {g : Sg} {a b i : Nat} {v : Option Nat} (h : b ≠ a) : enc cA (sR g a i v) b = enc cA g b := by
  have h1 : eV (sR g a i v) b = eV g b := rfl
  have h2 : ∀ k, eA k (sR g a i v) b = eA k g b := fun k => by simp [eA, sR, aI, aL, aR, h]
  unfold enc
  rw [hT_sR, h1]
  cases hT g b with
  | none => rfl
  | some q => simp only [h2]
theorem enc_sL_ne {cA : Nat → ClassId} {g : Sg} {a b i : Nat} {v : Int64} (h : b ≠ a) : enc cA (sL g a i v) b = enc cA g b := by
  have h1 : eV (sL g a i v) b = eV g b := rfl
  have h2 : ∀ k, eA k (sL g a i v) b = eA k g b := fun k => by simp [eA, sL, aI, aL, aR, h]
  unfold enc
  rw [hT_sL, h1]
  cases hT g b with
  | none => rfl
  | some q => simp only [h2]
theorem aI_sI (g : Sg) (a j : Nat) (v : Int32) : aI (sI g a j v) a = upd (aI g a) j v := by
  funext i; simp [aI, sI, upd]
theorem aL_sL (g : Sg) (a j : Nat) (v : Int64) : aL (sL g a j v) a = vp_updL (aL g a) j v := by
  funext i; simp [aL, sL, vp_updL]
theorem aR_sR (g : Sg) (a j : Nat) (v : Option Nat) : aR (sR g a j v) a = va_up (aR g a) j v := by
  funext i; simp [aR, sR, va_up]
theorem enc_sI {cA : Nat → ClassId} {g : Sg} {a k n j : Nat} {v : Int32} (h : hT g a = some (k, n)) (h1 : 100 ≤ k) (h2 : k < 103) : enc cA (sI g a j v) a = .inl (cA k, n, .inl (upd (aI g a) j v)) := by
  rw [enc_arr (by rw [hT_sI]; exact h) h1]
  simp [eA, h2, aI_sI]
theorem enc_sL {cA : Nat → ClassId} {g : Sg} {a n j : Nat} {v : Int64} (h : hT g a = some (103, n)) : enc cA (sL g a j v) a = .inl (cA 103, n, .inr (.inl (vp_updL (aL g a) j v))) := by
  rw [enc_arr (by rw [hT_sL]; exact h) (by omega)]
  simp [eA, aL_sL]
theorem enc_sR {cA : Nat → ClassId} {g : Sg} {a k n j : Nat} {v : Option Nat} (h : hT g a = some (k, n)) (h1 : 103 < k) : enc cA (sR g a j v) a = .inl (cA k, n, .inr (.inr (.inr (.inr (va_up (aR g a) j v))))) := by
  rw [enc_arr (by rw [hT_sR]; exact h) (by omega)]
  have h2 : ¬ k < 103 := by omega
  have h3 : ¬ k = 103 := by omega
  simp [eA, h2, h3, aR_sR]
theorem enc_I {cA : Nat → ClassId} {g : Sg} {a k n : Nat} (h : hT g a = some (k, n)) (h1 : 100 ≤ k) (h2 : k < 103) : enc cA g a = .inl (cA k, n, .inl (aI g a)) := by
  rw [enc_arr h h1]; simp [eA, h2]
theorem enc_L {cA : Nat → ClassId} {g : Sg} {a n : Nat} (h : hT g a = some (103, n)) : enc cA g a = .inl (cA 103, n, .inr (.inl (aL g a))) := by
  rw [enc_arr h (by omega)]; simp [eA]
theorem enc_R {cA : Nat → ClassId} {g : Sg} {a k n : Nat} (h : hT g a = some (k, n)) (h1 : 103 < k) : enc cA g a = .inl (cA k, n, .inr (.inr (.inr (.inr (aR g a))))) := by
  rw [enc_arr h (by omega)]
  have h2 : ¬ k < 103 := by omega
  have h3 : ¬ k = 103 := by omega
  simp [eA, h2, h3]
section HA
variable {p : Program} {l : Launch} {e : Env} {R : Room} {s : State} {m : MethodId} {args : Array Value} {below : List Frame} {meth : Method} {c : Code} {H : Heap} {locs : List Loc} {cells slots : Nat} {Q : State → Prop}
variable {cc : ByteArray} {nL pc : Nat} {ls : Array Slot} {rest : List Value} {Ts : List Cond} {own : String} {D : va_G} {cA : Nat → ClassId} {sz z mi : Nat} {g : Sg} {a j : Nat} {i : Int32}
theorem inA.vp {k : Nat} (h : inA g a k i j) : ∃ n, hT g a = some (k, n) ∧ vp_in i n ∧ i.toNatClampNeg = j ∧ j < n := by
  obtain ⟨n, h1, rfl, h3, h4⟩ := h
  exact ⟨n, h1, vp_in_nI h3 (by omega), nI_clamp (by omega), h3⟩
theorem r_iald (S : CallFix p m c cc nL s args Ts own) (hZ : Ws D cA sz z mi s) (hG : WP D cA sz g H) (hi : inA g a 100 i j) (hdg : decode cc pc = .ok (.iaload, 1))
    (kk : ∀ x : Int32, x = aI g a j → W p l e R s m args below meth c H locs cells slots Q (F0 m (pc + 1) ls (.int x :: rest))) : W p l e R s m args below meth c H locs cells slots Q (F0 m pc ls (.int i :: .ref a :: rest)) := by
  obtain ⟨n, ha, hv, rfl, -⟩ := hi.vp
  obtain ⟨L, hL, hP, hD⟩ := hG
  obtain ⟨hm, q0, hq⟩ := WP.at (cA := cA) (by rw [ha]; exact fun h => nomatch h) hL
  rw [enc_I ha (by omega) (by omega)] at hq
  exact va_iald S.1 S.2.1 hZ.1 hP q0 0 hq rfl hv hdg (kk _ rfl)
theorem r_sald (S : CallFix p m c cc nL s args Ts own) (hZ : Ws D cA sz z mi s) (hG : WP D cA sz g H) (hi : inA g a 101 i j) (hdg : decode cc pc = .ok (.saload, 1))
    (kk : ∀ x : Int32, x = aI g a j → W p l e R s m args below meth c H locs cells slots Q (F0 m (pc + 1) ls (.int x :: rest))) : W p l e R s m args below meth c H locs cells slots Q (F0 m pc ls (.int i :: .ref a :: rest)) := by
  obtain ⟨n, ha, hv, rfl, -⟩ := hi.vp
  obtain ⟨L, hL, hP, hD⟩ := hG
  obtain ⟨hm, q0, hq⟩ := WP.at (cA := cA) (by rw [ha]; exact fun h => nomatch h) hL
  rw [enc_I ha (by omega) (by omega)] at hq
  exact va_sald S.1 S.2.1 hZ.1 hP q0 1 hq rfl hv hdg (kk _ rfl)
theorem r_zald (S : CallFix p m c cc nL s args Ts own) (hZ : Ws D cA sz z mi s) (hG : WP D cA sz g H) (hi : inA g a 102 i j) (hdg : decode cc pc = .ok (.baload, 1))
    (kk : ∀ x : Int32, x = aI g a j → W p l e R s m args below meth c H locs cells slots Q (F0 m (pc + 1) ls (.int x :: rest))) : W p l e R s m args below meth c H locs cells slots Q (F0 m pc ls (.int i :: .ref a :: rest)) := by
  obtain ⟨n, ha, hv, rfl, -⟩ := hi.vp
  obtain ⟨L, hL, hP, hD⟩ := hG
  obtain ⟨hm, q0, hq⟩ := WP.at (cA := cA) (by rw [ha]; exact fun h => nomatch h) hL
  rw [enc_I ha (by omega) (by omega)] at hq
  exact va_zald S.1 S.2.1 hZ.1 hP q0 2 hq rfl hv hdg (kk _ rfl)
theorem r_lald (S : CallFix p m c cc nL s args Ts own) (hZ : Ws D cA sz z mi s) (hG : WP D cA sz g H) (hi : inA g a 103 i j) (hdg : decode cc pc = .ok (.laload, 1))
    (kk : ∀ x : Int64, x = aL g a j → W p l e R s m args below meth c H locs cells slots Q (F0 m (pc + 1) ls (.long x :: rest))) : W p l e R s m args below meth c H locs cells slots Q (F0 m pc ls (.int i :: .ref a :: rest)) := by
  obtain ⟨n, ha, hv, rfl, -⟩ := hi.vp
  obtain ⟨L, hL, hP, hD⟩ := hG
  obtain ⟨hm, q0, hq⟩ := WP.at (cA := cA) (by rw [ha]; exact fun h => nomatch h) hL
  rw [enc_L ha] at hq
  exact va_lald S.1 S.2.1 hZ.1 hP q0 3 hq rfl hv hdg (kk _ rfl)
theorem r_aald {k : Nat} {C : String} (S : CallFix p m c cc nL s args Ts own) (hZ : Ws D cA sz z mi s) (hG : WP D cA sz g H) (hi : inA g a k i j) (h1 : 103 < k) (ht : (hp_tys cA)[k - 100]? = some (cA k, .object C)) (hdg : decode cc pc = .ok (.aaload, 1))
    (kk : ∀ x : Option Nat, x = aR g a j → W p l e R s m args below meth c H locs cells slots Q (F0 m (pc + 1) ls (va_rf x :: rest))) : W p l e R s m args below meth c H locs cells slots Q (F0 m pc ls (.int i :: .ref a :: rest)) := by
  obtain ⟨n, ha, hv, rfl, -⟩ := hi.vp
  obtain ⟨L, hL, hP, hD⟩ := hG
  obtain ⟨hm, q0, hq⟩ := WP.at (cA := cA) (by rw [ha]; exact fun h => nomatch h) hL
  rw [enc_R ha h1] at hq
  exact va_aldq S.1 S.2.1 hZ.1 hP q0 (k - 100) hq ht hv hdg (kk _ rfl)
theorem r_mald (S : CallFix p m c cc nL s args Ts own) (hZ : Ws D cA sz z mi s) (hG : WP D cA sz g H) (hi : inA g a 107 i j) (hdg : decode cc pc = .ok (.aaload, 1))
    (kk : ∀ x : Option Nat, x = aR g a j → W p l e R s m args below meth c H locs cells slots Q (F0 m (pc + 1) ls (va_rf x :: rest))) : W p l e R s m args below meth c H locs cells slots Q (F0 m pc ls (.int i :: .ref a :: rest)) := by
  obtain ⟨n, ha, hv, rfl, hlt⟩ := hi.vp
  obtain ⟨L, hL, hP, hD⟩ := hG
  obtain ⟨hm, q0, hq⟩ := WP.at (cA := cA) (by rw [ha]; exact fun h => nomatch h) hL
  rw [enc_R ha (by omega)] at hq
  exact W.aald (v := va_rf (aR g a i.toNatClampNeg)) (ty := .array .int) S.1 S.2.1 (hP q0 _ hq) ((hZ.1.2 7 _ rfl).1 n (fun j => va_rf (aR g a j))) rfl (fun q => by cases q) (by show ¬ (i < 0 ∨ (arrV _ _ _).slots.size ≤ _); rw [arrV_size]; exact hv) (by show (arrV _ _ _).slots[_]? = _; rw [arrV_read _ _ hlt]) rfl rfl hdg (kk _ rfl)
theorem r_iast {v : Int32} (S : CallFix p m c cc nL s args Ts own) (hZ : Ws D cA sz z mi s) (hG : WP D cA sz g H) (hS : va_S (oA sz) s.heap H locs) (hi : inA g a 100 i j) (hdg : decode cc pc = .ok (.iastore, 1))
    (kk : ∀ (g2 : Sg) (H1 : Heap) (locs1 : List Loc), g2 = sI g a j v → WP D cA sz g2 H1 → va_S (oA sz) s.heap H1 locs1 → W p l e R s m args below meth c H1 locs1 cells slots Q (F0 m (pc + 1) ls rest)) : W p l e R s m args below meth c H locs cells slots Q (F0 m pc ls (.int v :: .int i :: .ref a :: rest)) := by
  obtain ⟨n, ha, hv, rfl, -⟩ := hi.vp
  obtain ⟨L, hL, hP, hD⟩ := hG
  obtain ⟨hm, q0, hq⟩ := WP.at (cA := cA) (by rw [ha]; exact fun h => nomatch h) hL
  have hq' := hq
  rw [enc_I ha (by omega) (by omega)] at hq
  exact va_iast S.1 S.2.1 hZ.1 hP hD hS q0 0 hq rfl hv hdg (fun H1 locs1 h1 h2 h3 => kk _ H1 locs1 rfl (WP.upd hL (hT_sI g a _ v) hD hm hq' (enc_sI ha (by omega) (by omega)) (fun b hb => enc_sI_ne hb) h1 h2) h3)
theorem r_sast {v : Int32} (S : CallFix p m c cc nL s args Ts own) (hZ : Ws D cA sz z mi s) (hG : WP D cA sz g H) (hS : va_S (oA sz) s.heap H locs) (hi : inA g a 101 i j) (hdg : decode cc pc = .ok (.sastore, 1))
    (kk : ∀ (g2 : Sg) (H1 : Heap) (locs1 : List Loc), g2 = sI g a j (vp_nar .short v) → WP D cA sz g2 H1 → va_S (oA sz) s.heap H1 locs1 → W p l e R s m args below meth c H1 locs1 cells slots Q (F0 m (pc + 1) ls rest)) : W p l e R s m args below meth c H locs cells slots Q (F0 m pc ls (.int v :: .int i :: .ref a :: rest)) := by
  obtain ⟨n, ha, hv, rfl, -⟩ := hi.vp
  obtain ⟨L, hL, hP, hD⟩ := hG
  obtain ⟨hm, q0, hq⟩ := WP.at (cA := cA) (by rw [ha]; exact fun h => nomatch h) hL
  have hq' := hq
  rw [enc_I ha (by omega) (by omega)] at hq
  exact va_sast S.1 S.2.1 hZ.1 hP hD hS q0 1 hq rfl hv hdg (fun H1 locs1 h1 h2 h3 => kk _ H1 locs1 rfl (WP.upd hL (hT_sI g a _ _) hD hm hq' (enc_sI ha (by omega) (by omega)) (fun b hb => enc_sI_ne hb) h1 h2) h3)
theorem r_zast {v : Int32} (S : CallFix p m c cc nL s args Ts own) (hZ : Ws D cA sz z mi s) (hG : WP D cA sz g H) (hS : va_S (oA sz) s.heap H locs) (hi : inA g a 102 i j) (hdg : decode cc pc = .ok (.bastore, 1))
    (kk : ∀ (g2 : Sg) (H1 : Heap) (locs1 : List Loc), g2 = sI g a j (vp_nar .boolean v) → WP D cA sz g2 H1 → va_S (oA sz) s.heap H1 locs1 → W p l e R s m args below meth c H1 locs1 cells slots Q (F0 m (pc + 1) ls rest)) : W p l e R s m args below meth c H locs cells slots Q (F0 m pc ls (.int v :: .int i :: .ref a :: rest)) := by
  obtain ⟨n, ha, hv, rfl, -⟩ := hi.vp
  obtain ⟨L, hL, hP, hD⟩ := hG
  obtain ⟨hm, q0, hq⟩ := WP.at (cA := cA) (by rw [ha]; exact fun h => nomatch h) hL
  have hq' := hq
  rw [enc_I ha (by omega) (by omega)] at hq
  exact va_zast S.1 S.2.1 hZ.1 hP hD hS q0 2 hq rfl hv hdg (fun H1 locs1 h1 h2 h3 => kk _ H1 locs1 rfl (WP.upd hL (hT_sI g a _ _) hD hm hq' (enc_sI ha (by omega) (by omega)) (fun b hb => enc_sI_ne hb) h1 h2) h3)
theorem r_last {v : Int64} (S : CallFix p m c cc nL s args Ts own) (hZ : Ws D cA sz z mi s) (hG : WP D cA sz g H) (hS : va_S (oA sz) s.heap H locs) (hi : inA g a 103 i j) (hdg : decode cc pc = .ok (.lastore, 1))
    (kk : ∀ (g2 : Sg) (H1 : Heap) (locs1 : List Loc), g2 = sL g a j v → WP D cA sz g2 H1 → va_S (oA sz) s.heap H1 locs1 → W p l e R s m args below meth c H1 locs1 cells slots Q (F0 m (pc + 1) ls rest)) : W p l e R s m args below meth c H locs cells slots Q (F0 m pc ls (.long v :: .int i :: .ref a :: rest)) := by
  obtain ⟨n, ha, hv, rfl, -⟩ := hi.vp
  obtain ⟨L, hL, hP, hD⟩ := hG
  obtain ⟨hm, q0, hq⟩ := WP.at (cA := cA) (by rw [ha]; exact fun h => nomatch h) hL
  have hq' := hq
  rw [enc_L ha] at hq
  exact va_last S.1 S.2.1 hZ.1 hP hD hS q0 3 hq rfl hv hdg (fun H1 locs1 h1 h2 h3 => kk _ H1 locs1 rfl (WP.upd hL (hT_sL g a _ v) hD hm hq' (enc_sL ha) (fun b hb => enc_sL_ne hb) h1 h2) h3)
end HA
/-! cells are made -/
theorem enc_nO_ne {cA : Nat → ClassId} {g : Sg} {a k n b : Nat} (h : b ≠ a) : enc cA (nO g a k n) b = enc cA g b := by
  have h0 : hT (nO g a k n) b = hT g b := by simp [hT, nO, h]
  have h1 : eV (nO g a k n) b = eV g b := funext fun d => by simp [eV, nO, fR, fI, h]
  have h2 : ∀ k', eA k' (nO g a k n) b = eA k' g b := fun k' => by simp [eA, nO, aI, aL, aR, h]
  unfold enc
  rw [h0, h1]
  cases hT g b with
  | none => rfl
  | some q => simp only [h2]
theorem hT_nO (g : Sg) (a k n : Nat) : hT (nO g a k n) a = some (k, n) := by simp [hT, nO]
theorem hT_nO_ne {g : Sg} {a k n b : Nat} (h : b ≠ a) : hT (nO g a k n) b = hT g b := by simp [hT, nO, h]
theorem WP.new {D : va_G} {cA : Nat → ClassId} {sz : Nat} {g : Sg} {H : Heap} {L : List Nat} {q k n : Nat} {e : va_E} (hL : ∀ a, a ∈ L ↔ hT g a ≠ none) (he : enc cA (nO g q k n) q = e)
    (hP1 : va_P D hp_cl ((va_pl L (enc cA g)) ++ [(q, e)]) H) (hD1 : va_D (fun q => sz ≤ q) ((va_pl L (enc cA g)) ++ [(q, e)])) : hT g q = none ∧ WP D cA sz (nO g q k n) H := by
  have hq : q ∉ L := va_pl_fresh2 (X := []) (by rw [List.nil_append]; exact hD1)
  have h0 : hT g q = none := by
    cases h : hT g q with
    | none => rfl
    | some x => exact absurd ((hL q).mpr (by rw [h]; exact fun h => nomatch h)) hq
  have hs : va_pl L (enc cA g) ++ [(q, e)] = va_pl (L ++ [q]) (enc cA (nO g q k n)) := by
    rw [va_pl_push hq]
    refine va_pl_congr (fun b => ?_)
    by_cases hb : b = q
    · subst hb; rw [va_up_self, he]
    · rw [va_up_ne _ _ hb, enc_nO_ne hb]
  rw [hs] at hP1 hD1
  refine ⟨h0, L ++ [q], fun a => ?_, hP1, hD1⟩
  rw [List.mem_append, List.mem_singleton]
  by_cases ha : a = q
  · subst ha; simp [hT_nO]
  · rw [hT_nO_ne ha, ← hL a]; simp [ha]
section HN
variable {p : Program} {l : Launch} {e : Env} {R : Room} {s : State} {m : MethodId} {args : Array Value} {below : List Frame} {meth : Method} {c : Code} {H : Heap} {locs : List Loc} {cells slots : Nat} {Q : State → Prop}
variable {cc : ByteArray} {nL pc : Nat} {ls : Array Slot} {rest : List Value} {Ts : List Cond} {own : String} {D : va_G} {cA : Nat → ClassId} {sz z mi : Nat} {g : Sg} {a j : Nat} {i : Int32}
theorem Ws.A (hZ : Ws D cA sz z mi s) : ∀ q, s.heap.size ≤ q → oA sz q := fun _ h => Nat.le_trans hZ.2.1 h
theorem r_new {k N index : Nat} {C : String} {T : u_T} (S : CallFix p m c cc nL s args Ts own) (hZ : Ws D cA sz z mi s) (hG : WP D cA sz g H) (hS : va_S (oA sz) s.heap H locs) (hk : k < hp_no) (hc : hp_cl[k]? = some (C, T, N)) (hcl : (Cond.classLink own index C).before args s = true) (hinst : (Cond.instantiable C N).before args s = true) (hini : (Cond.initialized C).before args s = true)
    (hcells : cells + 1 ≤ R.cells) (hslots : slots + N ≤ R.slots) (hdg : decode cc pc = .ok (.new index, 3))
    (kk : ∀ (q : Nat) (g2 : Sg) (H1 : Heap), hT g q = none → g2 = nO g q k N → WP D cA sz g2 H1 → va_S (oA sz) s.heap H1 locs → W p l e R s m args below meth c H1 locs (cells + 1) (slots + N) Q (F0 m (pc + 3) ls (.ref q :: rest))) : W p l e R s m args below meth c H locs cells slots Q (F0 m pc ls rest) := by
  obtain ⟨L, hL, hP, hD⟩ := hG
  obtain ⟨C', T', N', ty, hc', hlen, hty, hnm, hro, hnd⟩ := hp_all k hk
  cases Option.some.inj (hc'.symm.trans hc)
  have hfs : ∀ j, j < N → defaultValue (ty j) = vp_V ((hp_fd k).map (fun d => if d.2 = true then Value.null else .int 0)) j := by
    intro j hj
    have hjl : j < (hp_fd k).length := by omega
    obtain ⟨-, h1, h2⟩ := hro j hj _ (List.getElem?_eq_getElem hjl)
    have e1 : vp_V ((hp_fd k).map (fun d => if d.2 = true then Value.null else .int 0)) j = (if ((hp_fd k)[j]).2 = true then Value.null else .int 0) := by
      simp [vp_V, List.getD_eq_getElem?_getD, List.getElem?_map, List.getElem?_eq_getElem hjl]
    rw [e1]
    cases hb : ((hp_fd k)[j]).2 with
    | false => rw [h1 hb]; rfl
    | true =>
      have h3 := (h2 hb).1
      simp only [if_true]
      cases ht : ty j with
      | object n => rfl
      | array t => rfl
      | _ => rw [ht] at h3; simp [fits] at h3
  refine va_new S.1 S.2.1 (hZ.lays hc args) (fun w h => h) ty hty S.2.2.2.1 hcl hinst hini hZ.1 hP hD hS hZ.A hc hfs hcells hslots hdg (fun q H1 h1 h2 h3 => ?_)
  have he : enc cA (nO g q k N) q = .inr (k, (hp_fd k).map (fun d => if d.2 = true then Value.null else .int 0)) := by
    rw [enc_obj (hT_nO g q k N) (Nat.lt_of_lt_of_le hk hp_no_lt)]
    congr 2
    refine List.map_congr_left (fun d _ => ?_)
    cases hb : d.2 <;> simp [eV, hb, nO, fR, fI, va_rf]
  obtain ⟨f1, f2⟩ := WP.new hL he h1 h2
  exact kk q _ H1 f1 rfl f2 h3
/-- an array's class is found by its name: there is one -/
theorem va_RA.one {ca cb : ClassId} {ty : FieldType} (h1 : va_RA s ca ty) (h2 : va_RA s cb ty) : ca = cb := by
  cases ty with
  | object C =>
    obtain ⟨_, _, _, _, _, a1⟩ := h1
    obtain ⟨_, _, _, _, _, a2⟩ := h2
    exact Option.some.inj (a1.symm.trans a2)
  | _ => exact Option.some.inj (Eq.trans (Eq.symm h1) h2)
theorem r_newa {k n : Nat} {atype : ArrayType} {ty : FieldType} (S : CallFix p m c cc nL s args Ts own) (hZ : Ws D cA sz z mi s) (hG : WP D cA sz g H) (hS : va_S (oA sz) s.heap H locs) (harr : (Cond.arrayClass ty).before args s = true) (hty : newarray.typeOf atype = ty) (hk : 100 ≤ k ∧ k < 104) (ht : (hp_tys cA)[k - 100]? = some (cA k, ty)) (hi : i = nI n) (hn : n ≤ 1000000) (hde : ∀ c0 : ClassId, vp_cell c0 (n, eA k (nO g a k n) a) = arrV c0 n (fun _ => defaultValue ty)) (hby : componentBytes ty ≤ 8)
    (hcells : cells + 1 ≤ R.cells) (hslots : slots + n ≤ R.slots) (hdg : decode cc pc = .ok (.newarray atype, 2))
    (kk : ∀ (q : Nat) (g2 : Sg) (H1 : Heap), hT g q = none → g2 = nO g q k n → WP D cA sz g2 H1 → va_S (oA sz) s.heap H1 locs → W p l e R s m args below meth c H1 locs (cells + 1) (slots + n) Q (F0 m (pc + 2) ls (.ref q :: rest))) : W p l e R s m args below meth c H locs cells slots Q (F0 m pc ls (.int i :: rest)) := by
  obtain ⟨L, hL, hP, hD⟩ := hG
  subst hi
  have hb : n * componentBytes ty ≤ 536870912 := Nat.le_trans (Nat.mul_le_mul hn hby) (by decide)
  refine va_newa S.1 S.2.1 (by rw [hty]; exact harr) hty hZ.1 hP hD hS hZ.A hde (nI_pos (by omega)) (nI_clamp (by omega)) hb hcells hslots hdg (fun q c9 H1 hK h1 h2 h3 => ?_)
  have e9 : c9 = cA k := by
    have q1 := (hK.2 8 (c9, ty) rfl).2
    exact va_RA.one q1 (hZ.1.2 _ _ ht).2
  subst e9
  have he : enc cA (nO g q k n) q = .inl (cA k, n, eA k (nO g a k n) a) := by
    rw [enc_arr (hT_nO g q k n) hk.1]
    have : eA k (nO g q k n) q = eA k (nO g a k n) a := by simp [eA, nO, aI, aL, aR]
    rw [this]
  obtain ⟨f1, f2⟩ := WP.new hL he h1 h2
  exact kk q _ H1 f1 rfl f2 h3
theorem r_newq {k n index : Nat} {C : String} (S : CallFix p m c cc nL s args Ts own) (hZ : Ws D cA sz z mi s) (hG : WP D cA sz g H) (hS : va_S (oA sz) s.heap H locs) (hcl : (Cond.classLink own index C).before args s = true) (hov : va_AO C s) (hk : 103 < k) (ht : (hp_tys cA)[k - 100]? = some (cA k, .object C)) (hi : i = nI n) (hn : n ≤ 1000000)
    (hcells : cells + 1 ≤ R.cells) (hslots : slots + n ≤ R.slots) (hdg : decode cc pc = .ok (.anewarray index, 3))
    (kk : ∀ (q : Nat) (g2 : Sg) (H1 : Heap), hT g q = none → g2 = nO g q k n → WP D cA sz g2 H1 → va_S (oA sz) s.heap H1 locs → W p l e R s m args below meth c H1 locs (cells + 1) (slots + n) Q (F0 m (pc + 3) ls (.ref q :: rest))) : W p l e R s m args below meth c H locs cells slots Q (F0 m pc ls (.int i :: rest)) := by
  obtain ⟨L, hL, hP, hD⟩ := hG
  subst hi
  refine va_newq S.1 S.2.1 S.2.2.2.1 hcl hov hZ.1 hP hD hS hZ.A (nI_pos (by omega)) (nI_clamp (by omega)) (by omega) hcells hslots hdg (fun q c9 H1 hK h1 h2 h3 => ?_)
  have e9 : c9 = cA k := by
    have q1 := (hK.2 8 (c9, .object C) rfl).2
    exact va_RA.one q1 (hZ.1.2 _ _ ht).2
  subst e9
  have he : enc cA (nO g q k n) q = .inl (cA k, n, .inr (.inr (.inr (.inr (fun _ => none))))) := by
    rw [enc_R (hT_nO g q k n) hk]
    simp [nO, aR]
  obtain ⟨f1, f2⟩ := WP.new hL he h1 h2
  exact kk q _ H1 f1 rfl f2 h3
theorem r_alen {n : Nat} (S : CallFix p m c cc nL s args Ts own) (hZ : Ws D cA sz z mi s) (hG : WP D cA sz g H) (hS : va_S (oA sz) s.heap H locs) (hl : lenA g z a n) (hdg : decode cc pc = .ok (.arraylength, 1))
    (kk : ∀ x : Int32, x = nI n → W p l e R s m args below meth c H locs cells slots Q (F0 m (pc + 1) ls (.int x :: rest))) : W p l e R s m args below meth c H locs cells slots Q (F0 m pc ls (.ref a :: rest)) := by
  rcases hl with ⟨k, ha, h1, h2⟩ | ⟨rfl, rfl⟩
  · obtain ⟨L, hL, hP, hD⟩ := hG
    obtain ⟨hm, q0, hq⟩ := WP.at (cA := cA) (by rw [ha]; exact fun h => nomatch h) hL
    rw [enc_arr ha h1] at hq
    have ht : ∃ ty, (hp_tys cA)[k - 100]? = some (cA k, ty) := by
      rcases (show k = 100 ∨ k = 101 ∨ k = 102 ∨ k = 103 ∨ k = 104 ∨ k = 105 ∨ k = 106 ∨ k = 107 by omega) with rfl | rfl | rfl | rfl | rfl | rfl | rfl | rfl <;> exact ⟨_, rfl⟩
    obtain ⟨ty, ht⟩ := ht
    exact va_alen S.1 S.2.1 hZ.1 hP q0 (k - 100) hq ht rfl hdg (kk _ rfl)
  · exact va_tlen S.1 S.2.1 hZ.2.2.2.2.2.2.1 hS rfl hdg (kk _ rfl)
end HN
