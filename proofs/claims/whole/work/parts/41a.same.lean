theorem u_hT_wI (g : Sg) (f a : Nat) (v : Int32) : hT (wI g f a v) = hT g := rfl
theorem u_hT_wR (g : Sg) (f a : Nat) (v : Option Nat) : hT (wR g f a v) = hT g := rfl
theorem u_hT_sI (g : Sg) (a i : Nat) (v : Int32) : hT (sI g a i v) = hT g := rfl
theorem u_hT_sR (g : Sg) (a i : Nat) (v : Option Nat) : hT (sR g a i v) = hT g := rfl
theorem u_hT_sL (g : Sg) (a i : Nat) (v : Int64) : hT (sL g a i v) = hT g := rfl
theorem u_hT_cI (g : Sg) (a : Nat) (h : Nat → Int32) : hT (cI g a h) = hT g := rfl
theorem u_hT_cR (g : Sg) (a : Nat) (h : Nat → Option Nat) : hT (cR g a h) = hT g := rfl
theorem u_fI_wR (g : Sg) (f a : Nat) (v : Option Nat) : fI (wR g f a v) = fI g := rfl
theorem u_fI_sI (g : Sg) (a i : Nat) (v : Int32) : fI (sI g a i v) = fI g := rfl
theorem u_fI_sR (g : Sg) (a i : Nat) (v : Option Nat) : fI (sR g a i v) = fI g := rfl
theorem u_fI_sL (g : Sg) (a i : Nat) (v : Int64) : fI (sL g a i v) = fI g := rfl
theorem u_fI_cI (g : Sg) (a : Nat) (h : Nat → Int32) : fI (cI g a h) = fI g := rfl
theorem u_fI_cR (g : Sg) (a : Nat) (h : Nat → Option Nat) : fI (cR g a h) = fI g := rfl
theorem u_fR_wI (g : Sg) (f a : Nat) (v : Int32) : fR (wI g f a v) = fR g := rfl
theorem u_fR_sI (g : Sg) (a i : Nat) (v : Int32) : fR (sI g a i v) = fR g := rfl
theorem u_fR_sR (g : Sg) (a i : Nat) (v : Option Nat) : fR (sR g a i v) = fR g := rfl
theorem u_fR_sL (g : Sg) (a i : Nat) (v : Int64) : fR (sL g a i v) = fR g := rfl
theorem u_fR_cI (g : Sg) (a : Nat) (h : Nat → Int32) : fR (cI g a h) = fR g := rfl
theorem u_fR_cR (g : Sg) (a : Nat) (h : Nat → Option Nat) : fR (cR g a h) = fR g := rfl
theorem u_aI_wI (g : Sg) (f a : Nat) (v : Int32) : aI (wI g f a v) = aI g := rfl
theorem u_aI_wR (g : Sg) (f a : Nat) (v : Option Nat) : aI (wR g f a v) = aI g := rfl
theorem u_aI_sR (g : Sg) (a i : Nat) (v : Option Nat) : aI (sR g a i v) = aI g := rfl
theorem u_aI_sL (g : Sg) (a i : Nat) (v : Int64) : aI (sL g a i v) = aI g := rfl
theorem u_aI_cR (g : Sg) (a : Nat) (h : Nat → Option Nat) : aI (cR g a h) = aI g := rfl
theorem u_aR_wI (g : Sg) (f a : Nat) (v : Int32) : aR (wI g f a v) = aR g := rfl
theorem u_aR_wR (g : Sg) (f a : Nat) (v : Option Nat) : aR (wR g f a v) = aR g := rfl
theorem u_aR_sI (g : Sg) (a i : Nat) (v : Int32) : aR (sI g a i v) = aR g := rfl
theorem u_aR_sL (g : Sg) (a i : Nat) (v : Int64) : aR (sL g a i v) = aR g := rfl
theorem u_aR_cI (g : Sg) (a : Nat) (h : Nat → Int32) : aR (cI g a h) = aR g := rfl
theorem u_aL_wI (g : Sg) (f a : Nat) (v : Int32) : aL (wI g f a v) = aL g := rfl
theorem u_aL_wR (g : Sg) (f a : Nat) (v : Option Nat) : aL (wR g f a v) = aL g := rfl
theorem u_aL_sI (g : Sg) (a i : Nat) (v : Int32) : aL (sI g a i v) = aL g := rfl
theorem u_aL_sR (g : Sg) (a i : Nat) (v : Option Nat) : aL (sR g a i v) = aL g := rfl
theorem u_aL_cI (g : Sg) (a : Nat) (h : Nat → Int32) : aL (cI g a h) = aL g := rfl
theorem u_aL_cR (g : Sg) (a : Nat) (h : Nat → Option Nat) : aL (cR g a h) = aL g := rfl
