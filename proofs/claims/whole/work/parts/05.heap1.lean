/-! THE HEAP AS FUNCTIONS: kind and length of a cell; int and reference fields by a field's number; elements of arrays of ints, of references, of longs -/
abbrev Sg : Type := (Nat → Option (Nat × Nat)) × (Nat → Nat → Int32) × (Nat → Nat → Option Nat) × (Nat → Nat → Int32) × (Nat → Nat → Option Nat) × (Nat → Nat → Int64)
def hT (g : Sg) : Nat → Option (Nat × Nat) := g.1
def fI (g : Sg) : Nat → Nat → Int32 := g.2.1
def fR (g : Sg) : Nat → Nat → Option Nat := g.2.2.1
def aI (g : Sg) : Nat → Nat → Int32 := g.2.2.2.1
def aR (g : Sg) : Nat → Nat → Option Nat := g.2.2.2.2.1
def aL (g : Sg) : Nat → Nat → Int64 := g.2.2.2.2.2
/-- a field, a place of an array is written; a cell is made -/
def wI (g : Sg) (f a : Nat) (v : Int32) : Sg := (g.1, fun f' a' => if f' = f ∧ a' = a then v else g.2.1 f' a', g.2.2)
def wR (g : Sg) (f a : Nat) (v : Option Nat) : Sg := (g.1, g.2.1, fun f' a' => if f' = f ∧ a' = a then v else g.2.2.1 f' a', g.2.2.2)
def sI (g : Sg) (a i : Nat) (v : Int32) : Sg := (g.1, g.2.1, g.2.2.1, fun a' i' => if a' = a ∧ i' = i then v else g.2.2.2.1 a' i', g.2.2.2.2)
def sR (g : Sg) (a i : Nat) (v : Option Nat) : Sg := (g.1, g.2.1, g.2.2.1, g.2.2.2.1, fun a' i' => if a' = a ∧ i' = i then v else g.2.2.2.2.1 a' i', g.2.2.2.2.2)
def sL (g : Sg) (a i : Nat) (v : Int64) : Sg := (g.1, g.2.1, g.2.2.1, g.2.2.2.1, g.2.2.2.2.1, fun a' i' => if a' = a ∧ i' = i then v else g.2.2.2.2.2 a' i')
def nO (g : Sg) (a k n : Nat) : Sg := (fun a' => if a' = a then some (k, n) else g.1 a', fun f' a' => if a' = a then 0 else g.2.1 f' a', fun f' a' => if a' = a then none else g.2.2.1 f' a', fun a' i' => if a' = a then 0 else g.2.2.2.1 a' i', fun a' i' => if a' = a then none else g.2.2.2.2.1 a' i', fun a' i' => if a' = a then 0 else g.2.2.2.2.2 a' i')
/-- a whole array's ints, references anew -/
def cI (g : Sg) (a : Nat) (h : Nat → Int32) : Sg := (g.1, g.2.1, g.2.2.1, fun a' i' => if a' = a then h i' else g.2.2.2.1 a' i', g.2.2.2.2)
def cR (g : Sg) (a : Nat) (h : Nat → Option Nat) : Sg := (g.1, g.2.1, g.2.2.1, g.2.2.2.1, fun a' i' => if a' = a then h i' else g.2.2.2.2.1 a' i', g.2.2.2.2.2)
/-! how the machine's heap holds it -/
def eV (g : Sg) (a : Nat) (d : Nat × Bool) : Value := if d.2 = true then va_rf (fR g d.1 a) else .int (fI g d.1 a)
/-- an array kind's content: 100, 101, 102: int[], short[], boolean[]; 103: long[]; from 104 on: references -/
def eA (k : Nat) (g : Sg) (a : Nat) : (Nat → Int32) ⊕ (Nat → Int64) ⊕ (Nat → UInt32) ⊕ (Nat → UInt64) ⊕ (Nat → Option Nat) := if k < 103 then .inl (aI g a) else if k = 103 then .inr (.inl (aL g a)) else .inr (.inr (.inr (.inr (aR g a))))
def enc (cA : Nat → ClassId) (g : Sg) (a : Nat) : va_E := match hT g a with
  | none => .inr (0, [])
  | some (k, n) => if k < 100 then .inr (k, (hp_fd k).map (eV g a)) else .inl (cA k, n, eA k g a)
theorem enc_obj {cA : Nat → ClassId} {g : Sg} {a k n : Nat} (h : hT g a = some (k, n)) (hk : k < 100) : enc cA g a = .inr (k, (hp_fd k).map (eV g a)) := by
  unfold enc; rw [h]; simp [hk]
theorem enc_arr {cA : Nat → ClassId} {g : Sg} {a k n : Nat} (h : hT g a = some (k, n)) (hk : 100 ≤ k) : enc cA g a = .inl (cA k, n, eA k g a) := by
  unfold enc; rw [h]; simp [Nat.not_lt.mpr hk]
/-- the world: all cells that are told of, at addresses from sz on -/
def WP (D : va_G) (cA : Nat → ClassId) (sz : Nat) (g : Sg) (H : Heap) : Prop := ∃ L : List Nat, (∀ a, a ∈ L ↔ hT g a ≠ none) ∧ va_P D hp_cl (va_pl L (enc cA g)) H ∧ va_D (fun q => sz ≤ q) (va_pl L (enc cA g))
/-- has the object at a the int field f, the reference field f -/
def hasI (g : Sg) (a f : Nat) : Prop := ∃ k n j : Nat, hT g a = some (k, n) ∧ k < hp_no ∧ (hp_fd k)[j]? = some (f, false)
def hasR (g : Sg) (a f : Nat) : Prop := ∃ k n j : Nat, hT g a = some (k, n) ∧ k < hp_no ∧ (hp_fd k)[j]? = some (f, true)
theorem hasI_of {g : Sg} {a k n f : Nat} (h : hT g a = some (k, n)) (hk : (decide (k < hp_no) && (hp_fd k).contains (f, false)) = true) : hasI g a f := by
  simp only [Bool.and_eq_true, decide_eq_true_eq, List.contains_iff_mem] at hk
  obtain ⟨j, hj⟩ := List.getElem?_of_mem hk.2
  exact ⟨k, n, j, h, hk.1, hj⟩
theorem hasR_of {g : Sg} {a k n f : Nat} (h : hT g a = some (k, n)) (hk : (decide (k < hp_no) && (hp_fd k).contains (f, true)) = true) : hasR g a f := by
  simp only [Bool.and_eq_true, decide_eq_true_eq, List.contains_iff_mem] at hk
  obtain ⟨j, hj⟩ := List.getElem?_of_mem hk.2
  exact ⟨k, n, j, h, hk.1, hj⟩
theorem hp_no_lt : hp_no ≤ 100 := by decide
theorem eV_get {g : Sg} {a k j f : Nat} {b : Bool} (h : (hp_fd k)[j]? = some (f, b)) : ((hp_fd k).map (eV g a))[j]? = some (eV g a (f, b)) := by
  rw [List.getElem?_map, h]; rfl
/-- the tables: what the class files say of a kind's fields -/
def hp_row (k : Nat) : Prop := ∃ (C : String) (T : u_T) (N : Nat) (ty : Nat → FieldType), hp_cl[k]? = some (C, T, N) ∧ (hp_fd k).length = N ∧ (∀ j, j < N → parseFieldDescriptor (T j).2.2.1 = some (ty j)) ∧ (∀ a, a < N → ∀ b, b < N → a ≠ b → (T a).2.1 ≠ (T b).2.1) ∧
  (∀ j, j < N → ∀ d, (hp_fd k)[j]? = some d → T j = hp_dc d.1 ∧ (d.2 = false → ty j = .int) ∧ (d.2 = true → fits (ty j) .null = true ∧ ∀ x : Nat, fits (ty j) (.ref x) = true ∧ narrow (ty j) (.ref x) = .ref x ∧ narrow (ty j) .null = .null)) ∧ ((hp_fd k).map Prod.fst).Nodup
def hp_tys (cA : Nat → ClassId) : List (ClassId × FieldType) := [(cA 100, .int), (cA 101, .short), (cA 102, .boolean), (cA 103, .long), (cA 104, .object "WeaveCore$Agent"), (cA 105, .object "WeaveCore$Event"), (cA 106, .object "java/lang/Object"), (cA 107, .array .int)]
set_option maxRecDepth 20000 in
theorem hp_all : ∀ k : Nat, k < hp_no → hp_row k := by
  intro k hk
  have key : ∀ (ty : FieldType), (∃ n, ty = .object n) ∨ (∃ t, ty = .array t) → fits ty .null = true ∧ ∀ x : Nat, fits ty (.ref x) = true ∧ narrow ty (.ref x) = .ref x ∧ narrow ty .null = .null := by
    intro ty h
    rcases h with ⟨n, rfl⟩ | ⟨t, rfl⟩ <;> exact ⟨rfl, fun x => ⟨rfl, rfl, rfl⟩⟩
  have go : ∀ {k N : Nat} {C : String} {T : u_T} {ty : Nat → FieldType}, hp_cl[k]? = some (C, T, N) → (hp_fd k).length = N → (∀ j, j < N → parseFieldDescriptor (T j).2.2.1 = some (ty j)) → (∀ a, a < N → ∀ b, b < N → a ≠ b → (T a).2.1 ≠ (T b).2.1) →
      (∀ j, j < N → T j = hp_dc ((hp_fd k).getD j (0, false)).1 ∧ (((hp_fd k).getD j (0, false)).2 = false → ty j = .int) ∧ (((hp_fd k).getD j (0, false)).2 = true → (∃ n, ty j = .object n) ∨ (∃ t, ty j = .array t))) → ((hp_fd k).map Prod.fst).Nodup → hp_row k := by
    intro k N C T ty h1 h2 h3 h4 h5 h6
    refine ⟨C, T, N, ty, h1, h2, h3, h4, fun j hj d hd => ?_, h6⟩
    have e : (hp_fd k).getD j (0, false) = d := by simp [List.getD_eq_getElem?_getD, hd]
    obtain ⟨q1, q2, q3⟩ := h5 j hj
    rw [e] at q1 q2 q3
    exact ⟨q1, q2, fun h => key _ (q3 h)⟩
  match k, hk with
  | 0, _ => exact go (T := T_0) (ty := ty_0) rfl rfl tyok_0 nm_0 (fun j hj => by match j, hj with | 0, _ => exact ⟨rfl, fun _ => rfl, (fun h => nomatch h)⟩ | 1, _ => exact ⟨rfl, (fun h => nomatch h), fun _ => Or.inr ⟨_, rfl⟩⟩ | 2, _ => exact ⟨rfl, fun _ => rfl, (fun h => nomatch h)⟩) (by decide)
  | 1, _ => exact go (T := T_1) (ty := ty_1) rfl rfl tyok_1 nm_1 (fun j hj => by match j, hj with | 0, _ => exact ⟨rfl, fun _ => rfl, (fun h => nomatch h)⟩ | 1, _ => exact ⟨rfl, fun _ => rfl, (fun h => nomatch h)⟩ | 2, _ => exact ⟨rfl, (fun h => nomatch h), fun _ => Or.inl ⟨_, rfl⟩⟩) (by decide)
  | 2, _ => exact go (T := T_2) (ty := ty_2) rfl rfl tyok_2 nm_2 (fun j hj => by match j, hj with | 0, _ => exact ⟨rfl, (fun h => nomatch h), fun _ => Or.inl ⟨_, rfl⟩⟩ | 1, _ => exact ⟨rfl, fun _ => rfl, (fun h => nomatch h)⟩ | 2, _ => exact ⟨rfl, (fun h => nomatch h), fun _ => Or.inr ⟨_, rfl⟩⟩ | 3, _ => exact ⟨rfl, fun _ => rfl, (fun h => nomatch h)⟩ | 4, _ => exact ⟨rfl, fun _ => rfl, (fun h => nomatch h)⟩ | 5, _ => exact ⟨rfl, (fun h => nomatch h), fun _ => Or.inl ⟨_, rfl⟩⟩) (by decide)
  | 3, _ => exact go (T := T_3) (ty := ty_3) rfl rfl tyok_3 nm_3 (fun j hj => by match j, hj with | 0, _ => exact ⟨rfl, (fun h => nomatch h), fun _ => Or.inl ⟨_, rfl⟩⟩ | 1, _ => exact ⟨rfl, fun _ => rfl, (fun h => nomatch h)⟩ | 2, _ => exact ⟨rfl, (fun h => nomatch h), fun _ => Or.inr ⟨_, rfl⟩⟩ | 3, _ => exact ⟨rfl, fun _ => rfl, (fun h => nomatch h)⟩ | 4, _ => exact ⟨rfl, fun _ => rfl, (fun h => nomatch h)⟩ | 5, _ => exact ⟨rfl, fun _ => rfl, (fun h => nomatch h)⟩ | 6, _ => exact ⟨rfl, (fun h => nomatch h), fun _ => Or.inl ⟨_, rfl⟩⟩ | 7, _ => exact ⟨rfl, (fun h => nomatch h), fun _ => Or.inl ⟨_, rfl⟩⟩ | 8, _ => exact ⟨rfl, (fun h => nomatch h), fun _ => Or.inl ⟨_, rfl⟩⟩ | 9, _ => exact ⟨rfl, (fun h => nomatch h), fun _ => Or.inl ⟨_, rfl⟩⟩ | 10, _ => exact ⟨rfl, (fun h => nomatch h), fun _ => Or.inl ⟨_, rfl⟩⟩ | 11, _ => exact ⟨rfl, (fun h => nomatch h), fun _ => Or.inl ⟨_, rfl⟩⟩ | 12, _ => exact ⟨rfl, fun _ => rfl, (fun h => nomatch h)⟩) (by decide)
  | 4, _ => exact go (T := T_4) (ty := ty_4) rfl rfl tyok_4 nm_4 (fun j hj => by match j, hj with | 0, _ => exact ⟨rfl, (fun h => nomatch h), fun _ => Or.inr ⟨_, rfl⟩⟩ | 1, _ => exact ⟨rfl, (fun h => nomatch h), fun _ => Or.inl ⟨_, rfl⟩⟩ | 2, _ => exact ⟨rfl, (fun h => nomatch h), fun _ => Or.inl ⟨_, rfl⟩⟩ | 3, _ => exact ⟨rfl, (fun h => nomatch h), fun _ => Or.inr ⟨_, rfl⟩⟩ | 4, _ => exact ⟨rfl, (fun h => nomatch h), fun _ => Or.inr ⟨_, rfl⟩⟩ | 5, _ => exact ⟨rfl, fun _ => rfl, (fun h => nomatch h)⟩ | 6, _ => exact ⟨rfl, fun _ => rfl, (fun h => nomatch h)⟩ | 7, _ => exact ⟨rfl, fun _ => rfl, (fun h => nomatch h)⟩) (by decide)
  | 5, _ => exact go (T := T_5) (ty := ty_5) rfl rfl tyok_5 nm_5 (fun j hj => by match j, hj with | 0, _ => exact ⟨rfl, fun _ => rfl, (fun h => nomatch h)⟩ | 1, _ => exact ⟨rfl, fun _ => rfl, (fun h => nomatch h)⟩ | 2, _ => exact ⟨rfl, fun _ => rfl, (fun h => nomatch h)⟩ | 3, _ => exact ⟨rfl, (fun h => nomatch h), fun _ => Or.inr ⟨_, rfl⟩⟩ | 4, _ => exact ⟨rfl, (fun h => nomatch h), fun _ => Or.inr ⟨_, rfl⟩⟩ | 5, _ => exact ⟨rfl, (fun h => nomatch h), fun _ => Or.inr ⟨_, rfl⟩⟩ | 6, _ => exact ⟨rfl, (fun h => nomatch h), fun _ => Or.inr ⟨_, rfl⟩⟩ | 7, _ => exact ⟨rfl, (fun h => nomatch h), fun _ => Or.inr ⟨_, rfl⟩⟩ | 8, _ => exact ⟨rfl, (fun h => nomatch h), fun _ => Or.inr ⟨_, rfl⟩⟩ | 9, _ => exact ⟨rfl, (fun h => nomatch h), fun _ => Or.inr ⟨_, rfl⟩⟩ | 10, _ => exact ⟨rfl, (fun h => nomatch h), fun _ => Or.inr ⟨_, rfl⟩⟩ | 11, _ => exact ⟨rfl, (fun h => nomatch h), fun _ => Or.inr ⟨_, rfl⟩⟩ | 12, _ => exact ⟨rfl, (fun h => nomatch h), fun _ => Or.inr ⟨_, rfl⟩⟩ | 13, _ => exact ⟨rfl, (fun h => nomatch h), fun _ => Or.inr ⟨_, rfl⟩⟩ | 14, _ => exact ⟨rfl, (fun h => nomatch h), fun _ => Or.inr ⟨_, rfl⟩⟩ | 15, _ => exact ⟨rfl, (fun h => nomatch h), fun _ => Or.inr ⟨_, rfl⟩⟩ | 16, _ => exact ⟨rfl, (fun h => nomatch h), fun _ => Or.inr ⟨_, rfl⟩⟩ | 17, _ => exact ⟨rfl, fun _ => rfl, (fun h => nomatch h)⟩ | 18, _ => exact ⟨rfl, (fun h => nomatch h), fun _ => Or.inr ⟨_, rfl⟩⟩ | 19, _ => exact ⟨rfl, (fun h => nomatch h), fun _ => Or.inr ⟨_, rfl⟩⟩ | 20, _ => exact ⟨rfl, (fun h => nomatch h), fun _ => Or.inr ⟨_, rfl⟩⟩ | 21, _ => exact ⟨rfl, (fun h => nomatch h), fun _ => Or.inr ⟨_, rfl⟩⟩ | j + 22, h => exact absurd h (by omega)) (by decide)
  | 6, _ => exact go (T := T_6) (ty := ty_6) rfl rfl tyok_6 nm_6 (fun j hj => by match j, hj with | 0, _ => exact ⟨rfl, (fun h => nomatch h), fun _ => Or.inl ⟨_, rfl⟩⟩ | 1, _ => exact ⟨rfl, (fun h => nomatch h), fun _ => Or.inr ⟨_, rfl⟩⟩ | 2, _ => exact ⟨rfl, (fun h => nomatch h), fun _ => Or.inr ⟨_, rfl⟩⟩ | 3, _ => exact ⟨rfl, fun _ => rfl, (fun h => nomatch h)⟩ | 4, _ => exact ⟨rfl, (fun h => nomatch h), fun _ => Or.inr ⟨_, rfl⟩⟩ | 5, _ => exact ⟨rfl, fun _ => rfl, (fun h => nomatch h)⟩) (by decide)
/-! what writing does to the picture -/
theorem hT_wI (g : Sg) (f a : Nat) (v : Int32) : hT (wI g f a v) = hT g := rfl
theorem hT_wR (g : Sg) (f a : Nat) (v : Option Nat) : hT (wR g f a v) = hT g := rfl
theorem hT_sI (g : Sg) (a i : Nat) (v : Int32) : hT (sI g a i v) = hT g := rfl
theorem hT_sR (g : Sg) (a i : Nat) (v : Option Nat) : hT (sR g a i v) = hT g := rfl
theorem hT_sL (g : Sg) (a i : Nat) (v : Int64) : hT (sL g a i v) = hT g := rfl
theorem enc_wI_ne {cA : Nat → ClassId} {g : Sg} {f a b : Nat} {v : Int32} (h : b ≠ a) : enc cA (wI g f a v) b = enc cA g b := by
  have hF : ∀ d : Nat × Bool, eV (wI g f a v) b d = eV g b d := fun d => by simp [eV, wI, fR, fI, h]
  unfold enc
  rw [hT_wI, show eV (wI g f a v) b = eV g b from funext hF]
  rfl
theorem enc_wR_ne {cA : Nat → ClassId} {g : Sg} {f a b : Nat} {v : Option Nat} (h : b ≠ a) : enc cA (wR g f a v) b = enc cA g b := by
  have hF : ∀ d : Nat × Bool, eV (wR g f a v) b d = eV g b d := fun d => by simp [eV, wR, fR, fI, h]
  unfold enc
  rw [hT_wR, show eV (wR g f a v) b = eV g b from funext hF]
  rfl
/-- a list of fields, one of them written -/
theorem eV_set {φ ψ : Nat × Bool → Value} {j : Nat} {d : Nat × Bool} {v : Value} {l : List (Nat × Bool)} (hn : (l.map Prod.fst).Nodup) (hj : l[j]? = some d) (hv : ψ d = v) (ho : ∀ e ∈ l, e.1 ≠ d.1 → ψ e = φ e) : (l.map φ).set j v = l.map ψ := by
  apply List.ext_getElem?
  intro i
  by_cases hi : i = j
  · subst hi
    have hl : i < (l.map φ).length := by rw [List.length_map]; exact (List.getElem?_eq_some_iff.mp hj).1
    rw [List.getElem?_set_self hl, List.getElem?_map, hj, Option.map_some, hv]
  · rw [List.getElem?_set_ne (Ne.symm hi), List.getElem?_map, List.getElem?_map]
    cases he : l[i]? with
    | none => rfl
    | some e =>
      have hne : e.1 ≠ d.1 := fun h => by
        have h1 : (l.map Prod.fst)[i]? = some d.1 := by rw [List.getElem?_map, he]; simp [h]
        have h2 : (l.map Prod.fst)[j]? = some d.1 := by rw [List.getElem?_map, hj]; rfl
        exact hi ((List.getElem?_inj (List.getElem?_eq_some_iff.mp h1).1 hn).mp (h1.trans h2.symm))
      rw [Option.map_some, Option.map_some, ho e (List.mem_of_getElem? he) hne]
theorem enc_wI {cA : Nat → ClassId} {g : Sg} {f a k n j : Nat} {v : Int32} (h : hT g a = some (k, n)) (hk : k < hp_no) (hj : (hp_fd k)[j]? = some (f, false)) : enc cA (wI g f a v) a = .inr (k, ((hp_fd k).map (eV g a)).set j (.int v)) := by
  have hk' := Nat.lt_of_lt_of_le hk hp_no_lt
  obtain ⟨C, T, N, ty, -, -, -, -, hro, hnd⟩ := hp_all k hk
  rw [enc_obj (by rw [hT_wI]; exact h) hk']
  congr 2
  refine (eV_set hnd hj (by simp [eV, wI, fI]) (fun d hd hne => ?_)).symm
  have hne' : d.1 ≠ f := hne
  simp [eV, wI, fR, fI, hne']
theorem enc_wR {cA : Nat → ClassId} {g : Sg} {f a k n j : Nat} {v : Option Nat} (h : hT g a = some (k, n)) (hk : k < hp_no) (hj : (hp_fd k)[j]? = some (f, true)) : enc cA (wR g f a v) a = .inr (k, ((hp_fd k).map (eV g a)).set j (va_rf v)) := by
  have hk' := Nat.lt_of_lt_of_le hk hp_no_lt
  obtain ⟨C, T, N, ty, -, -, -, -, hro, hnd⟩ := hp_all k hk
  rw [enc_obj (by rw [hT_wR]; exact h) hk']
  congr 2
  refine (eV_set hnd hj (by simp [eV, wR, fR]) (fun d hd hne => ?_)).symm
  have hne' : d.1 ≠ f := hne
  simp [eV, wR, fR, fI, hne']
/-- a cell's picture is put anew -/
theorem WP.upd {D : va_G} {cA : Nat → ClassId} {sz : Nat} {g g2 : Sg} {H : Heap} {L : List Nat} {a q0 : Nat} {e : va_E} (hL : ∀ a, a ∈ L ↔ hT g a ≠ none) (hT2 : hT g2 = hT g) (hD : va_D (fun q => sz ≤ q) (va_pl L (enc cA g))) (ha : a ∈ L) (hq : (va_pl L (enc cA g))[q0]? = some (a, enc cA g a)) (he : enc cA g2 a = e) (ho : ∀ b, b ≠ a → enc cA g2 b = enc cA g b)
    (hP1 : va_P D hp_cl ((va_pl L (enc cA g)).set q0 (a, e)) H) (hD1 : va_D (fun q => sz ≤ q) ((va_pl L (enc cA g)).set q0 (a, e))) : WP D cA sz g2 H := by
  have hs : (va_pl L (enc cA g)).set q0 (a, e) = va_pl L (enc cA g2) := by
    have h1 := va_pl_set (X := []) hD ha hq (e := e)
    rw [List.nil_append, List.nil_append] at h1
    rw [h1]
    refine va_pl_congr (fun b => ?_)
    by_cases hb : b = a
    · subst hb; rw [va_up_self, he]
    · rw [va_up_ne _ _ hb, ho b hb]
  rw [hs] at hP1 hD1
  exact ⟨L, by rw [hT2]; exact hL, hP1, hD1⟩
/-! what stays: the tables, and statics that nobody writes -/
abbrev oA (sz : Nat) : Nat → Prop := fun q => sz ≤ q
def nCast : List (String × String) := [("WeaveCore$Cut", "WeaveCore$Event"), ("WeaveCore$Node", "WeaveCore$Event"), ("WeaveCore$Node", "WeaveCore$Node"), ("WeaveCore$Node", "java/lang/Object"), ("WeaveCore$Cut", "java/lang/Object"), ("[I", "java/lang/Cloneable")]
def nDecl : List MethodName := [⟨"java/lang/RuntimeException", "<init>", "()V"⟩, ⟨"java/lang/RuntimeException", "<init>", "(Ljava/lang/String;)V"⟩, ⟨"java/lang/Exception", "<init>", "()V"⟩, ⟨"java/lang/Exception", "<init>", "(Ljava/lang/String;)V"⟩, ⟨"java/lang/Throwable", "<init>", "()V"⟩, ⟨"java/lang/Throwable", "<init>", "(Ljava/lang/String;)V"⟩, y_E_isIn, y_E_hasSmallerIdThan, ⟨"java/lang/Object", "getClass", "()Ljava/lang/Class;"⟩]
def exN : Nat → String := fun i => match i with
  | 0 => "java/util/NoSuchElementException"
  | 1 => "java/lang/UnsupportedOperationException"
  | 2 => "java/lang/IllegalStateException"
  | 3 => "java/lang/IllegalArgumentException"
  | _ => "java/lang/IndexOutOfBoundsException"
def Ws (D : va_G) (cA : Nat → ClassId) (sz z mi : Nat) (s : State) : Prop :=
  va_K D hp_cl (hp_tys cA) s ∧ sz ≤ s.heap.size ∧ (∀ (k : Nat) (q : vw_C), hp_cl[k]? = some q → ∀ w ∈ u_ws q.1 q.2.1 q.2.2, ∀ a' : Array Value, w.before a' s = true) ∧
  vx_Zq Bundle.tN "UNASSIGNED_STACK" Bundle.steD (oA sz) s s.heap ∧ vx_Zq Bundle.tN "SUPPRESSED_SENTINEL" Bundle.listD (oA sz) s s.heap ∧
  va_Z "java/util/ArrayList" "DEFAULTCAPACITY_EMPTY_ELEMENTDATA" "[Ljava/lang/Object;" (.ref z) (oA sz) s s.heap ∧ va_T (.object "java/lang/Object") z 0 (fun _ => .null) (oA sz) s s.heap ∧
  (∀ q ∈ nCast, va_Nw (.castable q.1 q.2) s) ∧ va_Nc "WeaveCore$Cut" "WeaveCore$Node" s ∧ (∀ i j, i < 5 → j < 5 → i ≠ j → va_Nc (exN i) (exN j) s) ∧ (∀ i, i < 5 → va_Nw (.castable (exN i) (exN i)) s) ∧
  va_Nw (.methodLinkNest "WeaveCoreModel" 9 y_G_init "WeaveCoreModel") s ∧ va_Nw (.methodLinkNest "WeaveCoreModel" 149 y_G_inRow "WeaveCoreModel") s ∧
  va_AO "WeaveCore$Agent" s ∧ va_AO "WeaveCore$Event" s ∧ va_AO "java/lang/Object" s ∧ (Cond.arrayOver (.array .int)).before #[] s = true ∧ va_Mi "[Ljava/lang/Object;" mi s ∧ ∀ x ∈ nDecl, va_Nw (.declares x) s
section HW
variable {p : Program} {l : Launch} {e : Env} {R : Room} {s : State} {m : MethodId} {args : Array Value} {below : List Frame} {meth : Method} {c : Code} {H : Heap} {locs : List Loc} {cells slots : Nat} {Q : State → Prop}
variable {cc : ByteArray} {nL pc : Nat} {ls : Array Slot} {rest : List Value} {Ts : List Cond} {own : String} {D : va_G} {cA : Nat → ClassId} {sz z mi : Nat} {g : Sg} {a : Nat}
theorem Ws.lays (h : Ws D cA sz z mi s) {k : Nat} {q : vw_C} (hk : hp_cl[k]? = some q) (args : Array Value) : ∀ w ∈ u_ws q.1 q.2.1 q.2.2, w.before args s = true := fun w hw => h.2.2.1 k q hk w hw args
/-- a cell of the world: its place in the list -/
theorem WP.at (h : hT g a ≠ none) {L : List Nat} (hL : ∀ a, a ∈ L ↔ hT g a ≠ none) : a ∈ L ∧ ∃ q0 : Nat, (va_pl L (enc cA g))[q0]? = some (a, enc cA g a) := by
  have ha := (hL a).mpr h
  obtain ⟨k, hk⟩ := va_pl_get (X := []) (f := enc cA g) ha
  exact ⟨ha, k, hk⟩
theorem r_getI (S : CallFix p m c cc nL s args Ts own) (hZ : Ws D cA sz z mi s) (hG : WP D cA sz g H) {f index : Nat} {ref dec nm ds : String} {fin : Bool} (hd : hp_dc f = (dec, nm, ds, fin)) (hF : hasI g a f) (hlink : (Cond.fieldLink own index ref nm ds).before args s = true)
    (hsame : ∀ x, s.fieldFound? dec nm ds = some x → s.fieldFound? ref nm ds = some x) (hdg : decode cc pc = .ok (.getfield index, 3))
    (kk : ∀ x : Int32, x = fI g f a → W p l e R s m args below meth c H locs cells slots Q (F0 m (pc + 3) ls (.int x :: rest))) : W p l e R s m args below meth c H locs cells slots Q (F0 m pc ls (.ref a :: rest)) := by
  obtain ⟨k, n, j, ha, hk, hj⟩ := hF
  obtain ⟨L, hL, hP, hD⟩ := hG
  obtain ⟨C, T, N, ty, hc, hlen, hty, hnm, hro, -⟩ := hp_all k hk
  have hjN : j < N := by rw [← hlen]; exact (List.getElem?_eq_some_iff.mp hj).1
  have hTj : T j = (dec, nm, ds, fin) := (hro j hjN _ hj).1.trans hd
  obtain ⟨hm, q0, hq⟩ := WP.at (cA := cA) (by rw [ha]; exact fun h => nomatch h) hL
  rw [enc_obj ha (Nat.lt_of_lt_of_le hk hp_no_lt)] at hq
  obtain ⟨hx, hb, -, hown, -⟩ := S
  refine va_get (C := C) (T := T) (N := N) hx hb (hZ.lays hc args) (fun w h => h) hown hZ.1 hP q0 hq hc j hjN (by rw [hTj]; exact hlink) (by rw [hTj]; exact hsame) (v := .int (fI g f a)) ?_ hdg (kk _ rfl)
  rw [eV_get hj]; rfl
theorem r_getR (S : CallFix p m c cc nL s args Ts own) (hZ : Ws D cA sz z mi s) (hG : WP D cA sz g H) {f index : Nat} {ref dec nm ds : String} {fin : Bool} (hd : hp_dc f = (dec, nm, ds, fin)) (hF : hasR g a f) (hlink : (Cond.fieldLink own index ref nm ds).before args s = true)
    (hsame : ∀ x, s.fieldFound? dec nm ds = some x → s.fieldFound? ref nm ds = some x) (hdg : decode cc pc = .ok (.getfield index, 3))
    (kk : ∀ x : Option Nat, x = fR g f a → W p l e R s m args below meth c H locs cells slots Q (F0 m (pc + 3) ls (va_rf x :: rest))) : W p l e R s m args below meth c H locs cells slots Q (F0 m pc ls (.ref a :: rest)) := by
  obtain ⟨k, n, j, ha, hk, hj⟩ := hF
  obtain ⟨L, hL, hP, hD⟩ := hG
  obtain ⟨C, T, N, ty, hc, hlen, hty, hnm, hro, -⟩ := hp_all k hk
  have hjN : j < N := by rw [← hlen]; exact (List.getElem?_eq_some_iff.mp hj).1
  have hTj : T j = (dec, nm, ds, fin) := (hro j hjN _ hj).1.trans hd
  obtain ⟨hm, q0, hq⟩ := WP.at (cA := cA) (by rw [ha]; exact fun h => nomatch h) hL
  rw [enc_obj ha (Nat.lt_of_lt_of_le hk hp_no_lt)] at hq
  obtain ⟨hx, hb, -, hown, -⟩ := S
  refine va_get (C := C) (T := T) (N := N) hx hb (hZ.lays hc args) (fun w h => h) hown hZ.1 hP q0 hq hc j hjN (by rw [hTj]; exact hlink) (by rw [hTj]; exact hsame) (v := va_rf (fR g f a)) ?_ hdg (kk _ rfl)
  rw [eV_get hj]; rfl
theorem r_putI (S : CallFix p m c cc nL s args Ts own) (hZ : Ws D cA sz z mi s) (hG : WP D cA sz g H) (hS : va_S (oA sz) s.heap H locs) {f index : Nat} {v : Int32} {ref dec nm ds : String} {fin : Bool} (hd : hp_dc f = (dec, nm, ds, fin)) (hF : hasI g a f) (hlink : (Cond.fieldLink own index ref nm ds).before args s = true)
    (hsame : ∀ x, s.fieldFound? dec nm ds = some x → s.fieldFound? ref nm ds = some x) (hfin : fin = false ∨ (fin = true ∧ meth.name = "<init>" ∧ dec = own)) (hdg : decode cc pc = .ok (.putfield index, 3))
    (kk : ∀ (g2 : Sg) (H1 : Heap) (locs1 : List Loc), g2 = wI g f a v → WP D cA sz g2 H1 → va_S (oA sz) s.heap H1 locs1 → W p l e R s m args below meth c H1 locs1 cells slots Q (F0 m (pc + 3) ls rest)) : W p l e R s m args below meth c H locs cells slots Q (F0 m pc ls (.int v :: .ref a :: rest)) := by
  obtain ⟨k, n, j, ha, hk, hj⟩ := hF
  obtain ⟨L, hL, hP, hD⟩ := hG
  obtain ⟨C, T, N, ty, hc, hlen, hty, hnm, hro, -⟩ := hp_all k hk
  have hjN : j < N := by rw [← hlen]; exact (List.getElem?_eq_some_iff.mp hj).1
  obtain ⟨hT0, hI, -⟩ := hro j hjN _ hj
  have hTj : T j = (dec, nm, ds, fin) := hT0.trans hd
  obtain ⟨hm, q0, hq⟩ := WP.at (cA := cA) (by rw [ha]; exact fun h => nomatch h) hL
  have hq' := hq
  rw [enc_obj ha (Nat.lt_of_lt_of_le hk hp_no_lt)] at hq
  obtain ⟨hx, hb, -, hown, -⟩ := S
  have hl : j < ((hp_fd k).map (eV g a)).length := by rw [List.length_map]; exact (List.getElem?_eq_some_iff.mp hj).1
  have go : ∀ (H1 : Heap) (locs1 : List Loc), va_P D hp_cl ((va_pl L (enc cA g)).set q0 (a, .inr (k, ((hp_fd k).map (eV g a)).set j (.int v)))) H1 → va_D (oA sz) ((va_pl L (enc cA g)).set q0 (a, .inr (k, ((hp_fd k).map (eV g a)).set j (.int v)))) → va_S (oA sz) s.heap H1 locs1 → W p l e R s m args below meth c H1 locs1 cells slots Q (F0 m (pc + 3) ls rest) :=
    fun H1 locs1 h1 h2 h3 => kk _ H1 locs1 rfl (WP.upd hL (hT_wI g f a v) hD hm hq' (enc_wI ha hk hj) (fun b hb => enc_wI_ne hb) h1 h2) h3
  rcases hfin with hfin | ⟨hfin, hin, hdec⟩
  · exact va_put (C := C) (T := T) (N := N) hx hb (hZ.lays hc args) (fun w h => h) ty hty hnm hown hZ.1 hP hD hS q0 hq hc j hjN (by rw [hTj]; exact hlink) (by rw [hTj]; exact hsame) (by rw [hTj]; exact hfin) (ty := .int) (by rw [hty j hjN, hI rfl]) rfl rfl hl hdg go
  · exact va_putF (C := C) (T := T) (N := N) hx hb (hZ.lays hc args) (fun w h => h) ty hty hnm hown hZ.1 hP hD hS q0 hq hc j hjN (by rw [hTj]; exact hlink) (by rw [hTj]; exact hsame) (by rw [hTj]; exact hfin) hin (by rw [hTj]; exact hdec) (ty := .int) (by rw [hty j hjN, hI rfl]) rfl rfl hl hdg go
theorem r_putR (S : CallFix p m c cc nL s args Ts own) (hZ : Ws D cA sz z mi s) (hG : WP D cA sz g H) (hS : va_S (oA sz) s.heap H locs) {f index : Nat} {v : Option Nat} {ref dec nm ds : String} {fin : Bool} (hd : hp_dc f = (dec, nm, ds, fin)) (hF : hasR g a f) (hlink : (Cond.fieldLink own index ref nm ds).before args s = true)
    (hsame : ∀ x, s.fieldFound? dec nm ds = some x → s.fieldFound? ref nm ds = some x) (hfin : fin = false ∨ (fin = true ∧ meth.name = "<init>" ∧ dec = own)) (hdg : decode cc pc = .ok (.putfield index, 3))
    (kk : ∀ (g2 : Sg) (H1 : Heap) (locs1 : List Loc), g2 = wR g f a v → WP D cA sz g2 H1 → va_S (oA sz) s.heap H1 locs1 → W p l e R s m args below meth c H1 locs1 cells slots Q (F0 m (pc + 3) ls rest)) : W p l e R s m args below meth c H locs cells slots Q (F0 m pc ls (va_rf v :: .ref a :: rest)) := by
  obtain ⟨k, n, j, ha, hk, hj⟩ := hF
  obtain ⟨L, hL, hP, hD⟩ := hG
  obtain ⟨C, T, N, ty, hc, hlen, hty, hnm, hro, -⟩ := hp_all k hk
  have hjN : j < N := by rw [← hlen]; exact (List.getElem?_eq_some_iff.mp hj).1
  obtain ⟨hT0, -, hI⟩ := hro j hjN _ hj
  have hTj : T j = (dec, nm, ds, fin) := hT0.trans hd
  obtain ⟨i1, i2⟩ := hI rfl
  have hfit : fits (ty j) (va_rf v) = true := by cases v with | none => exact i1 | some x => exact (i2 x).1
  have hnar : narrow (ty j) (va_rf v) = va_rf v := by cases v with | none => exact (i2 0).2.2 | some x => exact (i2 x).2.1
  obtain ⟨hm, q0, hq⟩ := WP.at (cA := cA) (by rw [ha]; exact fun h => nomatch h) hL
  have hq' := hq
  rw [enc_obj ha (Nat.lt_of_lt_of_le hk hp_no_lt)] at hq
  obtain ⟨hx, hb, -, hown, -⟩ := S
  have hl : j < ((hp_fd k).map (eV g a)).length := by rw [List.length_map]; exact (List.getElem?_eq_some_iff.mp hj).1
  have go : ∀ (H1 : Heap) (locs1 : List Loc), va_P D hp_cl ((va_pl L (enc cA g)).set q0 (a, .inr (k, ((hp_fd k).map (eV g a)).set j (va_rf v)))) H1 → va_D (oA sz) ((va_pl L (enc cA g)).set q0 (a, .inr (k, ((hp_fd k).map (eV g a)).set j (va_rf v)))) → va_S (oA sz) s.heap H1 locs1 → W p l e R s m args below meth c H1 locs1 cells slots Q (F0 m (pc + 3) ls rest) :=
    fun H1 locs1 h1 h2 h3 => kk _ H1 locs1 rfl (WP.upd hL (hT_wR g f a v) hD hm hq' (enc_wR ha hk hj) (fun b hb => enc_wR_ne hb) h1 h2) h3
  rcases hfin with hfin | ⟨hfin, hin, hdec⟩
  · exact va_put (C := C) (T := T) (N := N) hx hb (hZ.lays hc args) (fun w h => h) ty hty hnm hown hZ.1 hP hD hS q0 hq hc j hjN (by rw [hTj]; exact hlink) (by rw [hTj]; exact hsame) (by rw [hTj]; exact hfin) (hty j hjN) hnar hfit hl hdg go
  · exact va_putF (C := C) (T := T) (N := N) hx hb (hZ.lays hc args) (fun w h => h) ty hty hnm hown hZ.1 hP hD hS q0 hq hc j hjN (by rw [hTj]; exact hlink) (by rw [hTj]; exact hsame) (by rw [hTj]; exact hfin) hin (by rw [hTj]; exact hdec) (hty j hjN) hnar hfit hl hdg go
end HW
