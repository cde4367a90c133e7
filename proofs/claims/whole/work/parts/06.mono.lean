/-! more may be asked of what comes after: the rules only go forward -/
section zM
variable {X : List Int} {P P2 : zPT} {i pc c s : Nat} {ls : zLL} {st : List zAV} {sh : zSH} {h : zHP} {Q : zPO} {n r1 r2 : Nat} {r3 : Int}
theorem zLdI_mono (hP : ∀ i pc c s ls st sh h Q, P i pc c s ls st sh h Q → P2 i pc c s ls st sh h Q) (k : Nat) (q : zLdI  P i pc c s ls st sh h Q n k) : zLdI  P2 i pc c s ls st sh h Q n k := by
  unfold zLdI at q ⊢
  split at q <;> first | exact q.elim | exact hP _ _ _ _ _ _ _ _ _ q | exact ⟨q.1, hP _ _ _ _ _ _ _ _ _ q.2⟩ | exact ⟨q.1, q.2.1, hP _ _ _ _ _ _ _ _ _ q.2.2⟩ | exact ⟨q.1, q.2.1, q.2.2.1, hP _ _ _ _ _ _ _ _ _ q.2.2.2⟩ | exact ⟨q.1, q.2.1, q.2.2.1, q.2.2.2.1, hP _ _ _ _ _ _ _ _ _ q.2.2.2.2⟩ | exact ⟨q.1, q.2.1, q.2.2.1, q.2.2.2.1, q.2.2.2.2.1, hP _ _ _ _ _ _ _ _ _ q.2.2.2.2.2⟩ | exact ⟨q.1, q.2.1, q.2.2.1, q.2.2.2.1, q.2.2.2.2.1, q.2.2.2.2.2.1, hP _ _ _ _ _ _ _ _ _ q.2.2.2.2.2.2⟩ | exact ⟨q.1, q.2.1, q.2.2.1, q.2.2.2.1, q.2.2.2.2.1, q.2.2.2.2.2.1, q.2.2.2.2.2.2.1, hP _ _ _ _ _ _ _ _ _ q.2.2.2.2.2.2.2⟩ | exact ⟨fun z => hP _ _ _ _ _ _ _ _ _ (q.1 z), fun z => hP _ _ _ _ _ _ _ _ _ (q.2 z)⟩
theorem zLdL_mono (hP : ∀ i pc c s ls st sh h Q, P i pc c s ls st sh h Q → P2 i pc c s ls st sh h Q) (k : Nat) (q : zLdL  P i pc c s ls st sh h Q n k) : zLdL  P2 i pc c s ls st sh h Q n k := by
  unfold zLdL at q ⊢
  split at q <;> first | exact q.elim | exact hP _ _ _ _ _ _ _ _ _ q | exact ⟨q.1, hP _ _ _ _ _ _ _ _ _ q.2⟩ | exact ⟨q.1, q.2.1, hP _ _ _ _ _ _ _ _ _ q.2.2⟩ | exact ⟨q.1, q.2.1, q.2.2.1, hP _ _ _ _ _ _ _ _ _ q.2.2.2⟩ | exact ⟨q.1, q.2.1, q.2.2.1, q.2.2.2.1, hP _ _ _ _ _ _ _ _ _ q.2.2.2.2⟩ | exact ⟨q.1, q.2.1, q.2.2.1, q.2.2.2.1, q.2.2.2.2.1, hP _ _ _ _ _ _ _ _ _ q.2.2.2.2.2⟩ | exact ⟨q.1, q.2.1, q.2.2.1, q.2.2.2.1, q.2.2.2.2.1, q.2.2.2.2.2.1, hP _ _ _ _ _ _ _ _ _ q.2.2.2.2.2.2⟩ | exact ⟨q.1, q.2.1, q.2.2.1, q.2.2.2.1, q.2.2.2.2.1, q.2.2.2.2.2.1, q.2.2.2.2.2.2.1, hP _ _ _ _ _ _ _ _ _ q.2.2.2.2.2.2.2⟩ | exact ⟨fun z => hP _ _ _ _ _ _ _ _ _ (q.1 z), fun z => hP _ _ _ _ _ _ _ _ _ (q.2 z)⟩
theorem zLdR_mono (hP : ∀ i pc c s ls st sh h Q, P i pc c s ls st sh h Q → P2 i pc c s ls st sh h Q) (k : Nat) (q : zLdR  P i pc c s ls st sh h Q n k) : zLdR  P2 i pc c s ls st sh h Q n k := by
  unfold zLdR at q ⊢
  split at q <;> first | exact q.elim | exact hP _ _ _ _ _ _ _ _ _ q | exact ⟨q.1, hP _ _ _ _ _ _ _ _ _ q.2⟩ | exact ⟨q.1, q.2.1, hP _ _ _ _ _ _ _ _ _ q.2.2⟩ | exact ⟨q.1, q.2.1, q.2.2.1, hP _ _ _ _ _ _ _ _ _ q.2.2.2⟩ | exact ⟨q.1, q.2.1, q.2.2.1, q.2.2.2.1, hP _ _ _ _ _ _ _ _ _ q.2.2.2.2⟩ | exact ⟨q.1, q.2.1, q.2.2.1, q.2.2.2.1, q.2.2.2.2.1, hP _ _ _ _ _ _ _ _ _ q.2.2.2.2.2⟩ | exact ⟨q.1, q.2.1, q.2.2.1, q.2.2.2.1, q.2.2.2.2.1, q.2.2.2.2.2.1, hP _ _ _ _ _ _ _ _ _ q.2.2.2.2.2.2⟩ | exact ⟨q.1, q.2.1, q.2.2.1, q.2.2.2.1, q.2.2.2.2.1, q.2.2.2.2.2.1, q.2.2.2.2.2.2.1, hP _ _ _ _ _ _ _ _ _ q.2.2.2.2.2.2.2⟩ | exact ⟨fun z => hP _ _ _ _ _ _ _ _ _ (q.1 z), fun z => hP _ _ _ _ _ _ _ _ _ (q.2 z)⟩
theorem zStI_mono (hP : ∀ i pc c s ls st sh h Q, P i pc c s ls st sh h Q → P2 i pc c s ls st sh h Q) (k : Nat) (q : zStI  P i pc c s ls st sh h Q n k) : zStI  P2 i pc c s ls st sh h Q n k := by
  unfold zStI at q ⊢
  split at q <;> first | exact q.elim | exact hP _ _ _ _ _ _ _ _ _ q | exact ⟨q.1, hP _ _ _ _ _ _ _ _ _ q.2⟩ | exact ⟨q.1, q.2.1, hP _ _ _ _ _ _ _ _ _ q.2.2⟩ | exact ⟨q.1, q.2.1, q.2.2.1, hP _ _ _ _ _ _ _ _ _ q.2.2.2⟩ | exact ⟨q.1, q.2.1, q.2.2.1, q.2.2.2.1, hP _ _ _ _ _ _ _ _ _ q.2.2.2.2⟩ | exact ⟨q.1, q.2.1, q.2.2.1, q.2.2.2.1, q.2.2.2.2.1, hP _ _ _ _ _ _ _ _ _ q.2.2.2.2.2⟩ | exact ⟨q.1, q.2.1, q.2.2.1, q.2.2.2.1, q.2.2.2.2.1, q.2.2.2.2.2.1, hP _ _ _ _ _ _ _ _ _ q.2.2.2.2.2.2⟩ | exact ⟨q.1, q.2.1, q.2.2.1, q.2.2.2.1, q.2.2.2.2.1, q.2.2.2.2.2.1, q.2.2.2.2.2.2.1, hP _ _ _ _ _ _ _ _ _ q.2.2.2.2.2.2.2⟩ | exact ⟨fun z => hP _ _ _ _ _ _ _ _ _ (q.1 z), fun z => hP _ _ _ _ _ _ _ _ _ (q.2 z)⟩
theorem zStL_mono (hP : ∀ i pc c s ls st sh h Q, P i pc c s ls st sh h Q → P2 i pc c s ls st sh h Q) (k : Nat) (q : zStL  P i pc c s ls st sh h Q n k) : zStL  P2 i pc c s ls st sh h Q n k := by
  unfold zStL at q ⊢
  split at q <;> first | exact q.elim | exact hP _ _ _ _ _ _ _ _ _ q | exact ⟨q.1, hP _ _ _ _ _ _ _ _ _ q.2⟩ | exact ⟨q.1, q.2.1, hP _ _ _ _ _ _ _ _ _ q.2.2⟩ | exact ⟨q.1, q.2.1, q.2.2.1, hP _ _ _ _ _ _ _ _ _ q.2.2.2⟩ | exact ⟨q.1, q.2.1, q.2.2.1, q.2.2.2.1, hP _ _ _ _ _ _ _ _ _ q.2.2.2.2⟩ | exact ⟨q.1, q.2.1, q.2.2.1, q.2.2.2.1, q.2.2.2.2.1, hP _ _ _ _ _ _ _ _ _ q.2.2.2.2.2⟩ | exact ⟨q.1, q.2.1, q.2.2.1, q.2.2.2.1, q.2.2.2.2.1, q.2.2.2.2.2.1, hP _ _ _ _ _ _ _ _ _ q.2.2.2.2.2.2⟩ | exact ⟨q.1, q.2.1, q.2.2.1, q.2.2.2.1, q.2.2.2.2.1, q.2.2.2.2.2.1, q.2.2.2.2.2.2.1, hP _ _ _ _ _ _ _ _ _ q.2.2.2.2.2.2.2⟩ | exact ⟨fun z => hP _ _ _ _ _ _ _ _ _ (q.1 z), fun z => hP _ _ _ _ _ _ _ _ _ (q.2 z)⟩
theorem zStR_mono (hP : ∀ i pc c s ls st sh h Q, P i pc c s ls st sh h Q → P2 i pc c s ls st sh h Q) (k : Nat) (q : zStR  P i pc c s ls st sh h Q n k) : zStR  P2 i pc c s ls st sh h Q n k := by
  unfold zStR at q ⊢
  split at q <;> first | exact q.elim | exact hP _ _ _ _ _ _ _ _ _ q | exact ⟨q.1, hP _ _ _ _ _ _ _ _ _ q.2⟩ | exact ⟨q.1, q.2.1, hP _ _ _ _ _ _ _ _ _ q.2.2⟩ | exact ⟨q.1, q.2.1, q.2.2.1, hP _ _ _ _ _ _ _ _ _ q.2.2.2⟩ | exact ⟨q.1, q.2.1, q.2.2.1, q.2.2.2.1, hP _ _ _ _ _ _ _ _ _ q.2.2.2.2⟩ | exact ⟨q.1, q.2.1, q.2.2.1, q.2.2.2.1, q.2.2.2.2.1, hP _ _ _ _ _ _ _ _ _ q.2.2.2.2.2⟩ | exact ⟨q.1, q.2.1, q.2.2.1, q.2.2.2.1, q.2.2.2.2.1, q.2.2.2.2.2.1, hP _ _ _ _ _ _ _ _ _ q.2.2.2.2.2.2⟩ | exact ⟨q.1, q.2.1, q.2.2.1, q.2.2.2.1, q.2.2.2.2.1, q.2.2.2.2.2.1, q.2.2.2.2.2.2.1, hP _ _ _ _ _ _ _ _ _ q.2.2.2.2.2.2.2⟩ | exact ⟨fun z => hP _ _ _ _ _ _ _ _ _ (q.1 z), fun z => hP _ _ _ _ _ _ _ _ _ (q.2 z)⟩
theorem zPush_mono (hP : ∀ i pc c s ls st sh h Q, P i pc c s ls st sh h Q → P2 i pc c s ls st sh h Q) (v : zAV) (q : zPush  P i pc c s ls st sh h Q n v) : zPush  P2 i pc c s ls st sh h Q n v := by
  unfold zPush at q ⊢
  exact hP _ _ _ _ _ _ _ _ _ q
theorem zBin_mono (hP : ∀ i pc c s ls st sh h Q, P i pc c s ls st sh h Q → P2 i pc c s ls st sh h Q) (f : Int → Int → Int) (q : zBin  P i pc c s ls st sh h Q n f) : zBin  P2 i pc c s ls st sh h Q n f := by
  unfold zBin at q ⊢
  split at q <;> first | exact q.elim | exact hP _ _ _ _ _ _ _ _ _ q | exact ⟨q.1, hP _ _ _ _ _ _ _ _ _ q.2⟩ | exact ⟨q.1, q.2.1, hP _ _ _ _ _ _ _ _ _ q.2.2⟩ | exact ⟨q.1, q.2.1, q.2.2.1, hP _ _ _ _ _ _ _ _ _ q.2.2.2⟩ | exact ⟨q.1, q.2.1, q.2.2.1, q.2.2.2.1, hP _ _ _ _ _ _ _ _ _ q.2.2.2.2⟩ | exact ⟨q.1, q.2.1, q.2.2.1, q.2.2.2.1, q.2.2.2.2.1, hP _ _ _ _ _ _ _ _ _ q.2.2.2.2.2⟩ | exact ⟨q.1, q.2.1, q.2.2.1, q.2.2.2.1, q.2.2.2.2.1, q.2.2.2.2.2.1, hP _ _ _ _ _ _ _ _ _ q.2.2.2.2.2.2⟩ | exact ⟨q.1, q.2.1, q.2.2.1, q.2.2.2.1, q.2.2.2.2.1, q.2.2.2.2.2.1, q.2.2.2.2.2.2.1, hP _ _ _ _ _ _ _ _ _ q.2.2.2.2.2.2.2⟩ | exact ⟨fun z => hP _ _ _ _ _ _ _ _ _ (q.1 z), fun z => hP _ _ _ _ _ _ _ _ _ (q.2 z)⟩
theorem zDiv_mono (hP : ∀ i pc c s ls st sh h Q, P i pc c s ls st sh h Q → P2 i pc c s ls st sh h Q) (f : Int → Int → Int) (q : zDiv  P i pc c s ls st sh h Q n f) : zDiv  P2 i pc c s ls st sh h Q n f := by
  unfold zDiv at q ⊢
  split at q <;> first | exact q.elim | exact hP _ _ _ _ _ _ _ _ _ q | exact ⟨q.1, hP _ _ _ _ _ _ _ _ _ q.2⟩ | exact ⟨q.1, q.2.1, hP _ _ _ _ _ _ _ _ _ q.2.2⟩ | exact ⟨q.1, q.2.1, q.2.2.1, hP _ _ _ _ _ _ _ _ _ q.2.2.2⟩ | exact ⟨q.1, q.2.1, q.2.2.1, q.2.2.2.1, hP _ _ _ _ _ _ _ _ _ q.2.2.2.2⟩ | exact ⟨q.1, q.2.1, q.2.2.1, q.2.2.2.1, q.2.2.2.2.1, hP _ _ _ _ _ _ _ _ _ q.2.2.2.2.2⟩ | exact ⟨q.1, q.2.1, q.2.2.1, q.2.2.2.1, q.2.2.2.2.1, q.2.2.2.2.2.1, hP _ _ _ _ _ _ _ _ _ q.2.2.2.2.2.2⟩ | exact ⟨q.1, q.2.1, q.2.2.1, q.2.2.2.1, q.2.2.2.2.1, q.2.2.2.2.2.1, q.2.2.2.2.2.2.1, hP _ _ _ _ _ _ _ _ _ q.2.2.2.2.2.2.2⟩ | exact ⟨fun z => hP _ _ _ _ _ _ _ _ _ (q.1 z), fun z => hP _ _ _ _ _ _ _ _ _ (q.2 z)⟩
theorem zBinL_mono (hP : ∀ i pc c s ls st sh h Q, P i pc c s ls st sh h Q → P2 i pc c s ls st sh h Q) (f : Int → Int → Int) (q : zBinL  P i pc c s ls st sh h Q n f) : zBinL  P2 i pc c s ls st sh h Q n f := by
  unfold zBinL at q ⊢
  split at q <;> first | exact q.elim | exact hP _ _ _ _ _ _ _ _ _ q | exact ⟨q.1, hP _ _ _ _ _ _ _ _ _ q.2⟩ | exact ⟨q.1, q.2.1, hP _ _ _ _ _ _ _ _ _ q.2.2⟩ | exact ⟨q.1, q.2.1, q.2.2.1, hP _ _ _ _ _ _ _ _ _ q.2.2.2⟩ | exact ⟨q.1, q.2.1, q.2.2.1, q.2.2.2.1, hP _ _ _ _ _ _ _ _ _ q.2.2.2.2⟩ | exact ⟨q.1, q.2.1, q.2.2.1, q.2.2.2.1, q.2.2.2.2.1, hP _ _ _ _ _ _ _ _ _ q.2.2.2.2.2⟩ | exact ⟨q.1, q.2.1, q.2.2.1, q.2.2.2.1, q.2.2.2.2.1, q.2.2.2.2.2.1, hP _ _ _ _ _ _ _ _ _ q.2.2.2.2.2.2⟩ | exact ⟨q.1, q.2.1, q.2.2.1, q.2.2.2.1, q.2.2.2.2.1, q.2.2.2.2.2.1, q.2.2.2.2.2.2.1, hP _ _ _ _ _ _ _ _ _ q.2.2.2.2.2.2.2⟩ | exact ⟨fun z => hP _ _ _ _ _ _ _ _ _ (q.1 z), fun z => hP _ _ _ _ _ _ _ _ _ (q.2 z)⟩
theorem zShL_mono (hP : ∀ i pc c s ls st sh h Q, P i pc c s ls st sh h Q → P2 i pc c s ls st sh h Q) (f : Int → Int → Int) (q : zShL  P i pc c s ls st sh h Q n f) : zShL  P2 i pc c s ls st sh h Q n f := by
  unfold zShL at q ⊢
  split at q <;> first | exact q.elim | exact hP _ _ _ _ _ _ _ _ _ q | exact ⟨q.1, hP _ _ _ _ _ _ _ _ _ q.2⟩ | exact ⟨q.1, q.2.1, hP _ _ _ _ _ _ _ _ _ q.2.2⟩ | exact ⟨q.1, q.2.1, q.2.2.1, hP _ _ _ _ _ _ _ _ _ q.2.2.2⟩ | exact ⟨q.1, q.2.1, q.2.2.1, q.2.2.2.1, hP _ _ _ _ _ _ _ _ _ q.2.2.2.2⟩ | exact ⟨q.1, q.2.1, q.2.2.1, q.2.2.2.1, q.2.2.2.2.1, hP _ _ _ _ _ _ _ _ _ q.2.2.2.2.2⟩ | exact ⟨q.1, q.2.1, q.2.2.1, q.2.2.2.1, q.2.2.2.2.1, q.2.2.2.2.2.1, hP _ _ _ _ _ _ _ _ _ q.2.2.2.2.2.2⟩ | exact ⟨q.1, q.2.1, q.2.2.1, q.2.2.2.1, q.2.2.2.2.1, q.2.2.2.2.2.1, q.2.2.2.2.2.2.1, hP _ _ _ _ _ _ _ _ _ q.2.2.2.2.2.2.2⟩ | exact ⟨fun z => hP _ _ _ _ _ _ _ _ _ (q.1 z), fun z => hP _ _ _ _ _ _ _ _ _ (q.2 z)⟩
theorem zCmpL_mono (hP : ∀ i pc c s ls st sh h Q, P i pc c s ls st sh h Q → P2 i pc c s ls st sh h Q)  (q : zCmpL  P i pc c s ls st sh h Q n ) : zCmpL  P2 i pc c s ls st sh h Q n  := by
  unfold zCmpL at q ⊢
  split at q <;> first | exact q.elim | exact hP _ _ _ _ _ _ _ _ _ q | exact ⟨q.1, hP _ _ _ _ _ _ _ _ _ q.2⟩ | exact ⟨q.1, q.2.1, hP _ _ _ _ _ _ _ _ _ q.2.2⟩ | exact ⟨q.1, q.2.1, q.2.2.1, hP _ _ _ _ _ _ _ _ _ q.2.2.2⟩ | exact ⟨q.1, q.2.1, q.2.2.1, q.2.2.2.1, hP _ _ _ _ _ _ _ _ _ q.2.2.2.2⟩ | exact ⟨q.1, q.2.1, q.2.2.1, q.2.2.2.1, q.2.2.2.2.1, hP _ _ _ _ _ _ _ _ _ q.2.2.2.2.2⟩ | exact ⟨q.1, q.2.1, q.2.2.1, q.2.2.2.1, q.2.2.2.2.1, q.2.2.2.2.2.1, hP _ _ _ _ _ _ _ _ _ q.2.2.2.2.2.2⟩ | exact ⟨q.1, q.2.1, q.2.2.1, q.2.2.2.1, q.2.2.2.2.1, q.2.2.2.2.2.1, q.2.2.2.2.2.2.1, hP _ _ _ _ _ _ _ _ _ q.2.2.2.2.2.2.2⟩ | exact ⟨fun z => hP _ _ _ _ _ _ _ _ _ (q.1 z), fun z => hP _ _ _ _ _ _ _ _ _ (q.2 z)⟩
theorem zUn_mono (hP : ∀ i pc c s ls st sh h Q, P i pc c s ls st sh h Q → P2 i pc c s ls st sh h Q) (f : Int → Int) (q : zUn  P i pc c s ls st sh h Q n f) : zUn  P2 i pc c s ls st sh h Q n f := by
  unfold zUn at q ⊢
  split at q <;> first | exact q.elim | exact hP _ _ _ _ _ _ _ _ _ q | exact ⟨q.1, hP _ _ _ _ _ _ _ _ _ q.2⟩ | exact ⟨q.1, q.2.1, hP _ _ _ _ _ _ _ _ _ q.2.2⟩ | exact ⟨q.1, q.2.1, q.2.2.1, hP _ _ _ _ _ _ _ _ _ q.2.2.2⟩ | exact ⟨q.1, q.2.1, q.2.2.1, q.2.2.2.1, hP _ _ _ _ _ _ _ _ _ q.2.2.2.2⟩ | exact ⟨q.1, q.2.1, q.2.2.1, q.2.2.2.1, q.2.2.2.2.1, hP _ _ _ _ _ _ _ _ _ q.2.2.2.2.2⟩ | exact ⟨q.1, q.2.1, q.2.2.1, q.2.2.2.1, q.2.2.2.2.1, q.2.2.2.2.2.1, hP _ _ _ _ _ _ _ _ _ q.2.2.2.2.2.2⟩ | exact ⟨q.1, q.2.1, q.2.2.1, q.2.2.2.1, q.2.2.2.2.1, q.2.2.2.2.2.1, q.2.2.2.2.2.2.1, hP _ _ _ _ _ _ _ _ _ q.2.2.2.2.2.2.2⟩ | exact ⟨fun z => hP _ _ _ _ _ _ _ _ _ (q.1 z), fun z => hP _ _ _ _ _ _ _ _ _ (q.2 z)⟩
theorem zIL_mono (hP : ∀ i pc c s ls st sh h Q, P i pc c s ls st sh h Q → P2 i pc c s ls st sh h Q)  (q : zIL  P i pc c s ls st sh h Q n ) : zIL  P2 i pc c s ls st sh h Q n  := by
  unfold zIL at q ⊢
  split at q <;> first | exact q.elim | exact hP _ _ _ _ _ _ _ _ _ q | exact ⟨q.1, hP _ _ _ _ _ _ _ _ _ q.2⟩ | exact ⟨q.1, q.2.1, hP _ _ _ _ _ _ _ _ _ q.2.2⟩ | exact ⟨q.1, q.2.1, q.2.2.1, hP _ _ _ _ _ _ _ _ _ q.2.2.2⟩ | exact ⟨q.1, q.2.1, q.2.2.1, q.2.2.2.1, hP _ _ _ _ _ _ _ _ _ q.2.2.2.2⟩ | exact ⟨q.1, q.2.1, q.2.2.1, q.2.2.2.1, q.2.2.2.2.1, hP _ _ _ _ _ _ _ _ _ q.2.2.2.2.2⟩ | exact ⟨q.1, q.2.1, q.2.2.1, q.2.2.2.1, q.2.2.2.2.1, q.2.2.2.2.2.1, hP _ _ _ _ _ _ _ _ _ q.2.2.2.2.2.2⟩ | exact ⟨q.1, q.2.1, q.2.2.1, q.2.2.2.1, q.2.2.2.2.1, q.2.2.2.2.2.1, q.2.2.2.2.2.2.1, hP _ _ _ _ _ _ _ _ _ q.2.2.2.2.2.2.2⟩ | exact ⟨fun z => hP _ _ _ _ _ _ _ _ _ (q.1 z), fun z => hP _ _ _ _ _ _ _ _ _ (q.2 z)⟩
theorem zLI_mono (hP : ∀ i pc c s ls st sh h Q, P i pc c s ls st sh h Q → P2 i pc c s ls st sh h Q)  (q : zLI  P i pc c s ls st sh h Q n ) : zLI  P2 i pc c s ls st sh h Q n  := by
  unfold zLI at q ⊢
  split at q <;> first | exact q.elim | exact hP _ _ _ _ _ _ _ _ _ q | exact ⟨q.1, hP _ _ _ _ _ _ _ _ _ q.2⟩ | exact ⟨q.1, q.2.1, hP _ _ _ _ _ _ _ _ _ q.2.2⟩ | exact ⟨q.1, q.2.1, q.2.2.1, hP _ _ _ _ _ _ _ _ _ q.2.2.2⟩ | exact ⟨q.1, q.2.1, q.2.2.1, q.2.2.2.1, hP _ _ _ _ _ _ _ _ _ q.2.2.2.2⟩ | exact ⟨q.1, q.2.1, q.2.2.1, q.2.2.2.1, q.2.2.2.2.1, hP _ _ _ _ _ _ _ _ _ q.2.2.2.2.2⟩ | exact ⟨q.1, q.2.1, q.2.2.1, q.2.2.2.1, q.2.2.2.2.1, q.2.2.2.2.2.1, hP _ _ _ _ _ _ _ _ _ q.2.2.2.2.2.2⟩ | exact ⟨q.1, q.2.1, q.2.2.1, q.2.2.2.1, q.2.2.2.2.1, q.2.2.2.2.2.1, q.2.2.2.2.2.2.1, hP _ _ _ _ _ _ _ _ _ q.2.2.2.2.2.2.2⟩ | exact ⟨fun z => hP _ _ _ _ _ _ _ _ _ (q.1 z), fun z => hP _ _ _ _ _ _ _ _ _ (q.2 z)⟩
theorem zInc_mono (hP : ∀ i pc c s ls st sh h Q, P i pc c s ls st sh h Q → P2 i pc c s ls st sh h Q) (k : Nat) (d : Int) (q : zInc  P i pc c s ls st sh h Q n k d) : zInc  P2 i pc c s ls st sh h Q n k d := by
  unfold zInc at q ⊢
  split at q <;> first | exact q.elim | exact hP _ _ _ _ _ _ _ _ _ q | exact ⟨q.1, hP _ _ _ _ _ _ _ _ _ q.2⟩ | exact ⟨q.1, q.2.1, hP _ _ _ _ _ _ _ _ _ q.2.2⟩ | exact ⟨q.1, q.2.1, q.2.2.1, hP _ _ _ _ _ _ _ _ _ q.2.2.2⟩ | exact ⟨q.1, q.2.1, q.2.2.1, q.2.2.2.1, hP _ _ _ _ _ _ _ _ _ q.2.2.2.2⟩ | exact ⟨q.1, q.2.1, q.2.2.1, q.2.2.2.1, q.2.2.2.2.1, hP _ _ _ _ _ _ _ _ _ q.2.2.2.2.2⟩ | exact ⟨q.1, q.2.1, q.2.2.1, q.2.2.2.1, q.2.2.2.2.1, q.2.2.2.2.2.1, hP _ _ _ _ _ _ _ _ _ q.2.2.2.2.2.2⟩ | exact ⟨q.1, q.2.1, q.2.2.1, q.2.2.2.1, q.2.2.2.2.1, q.2.2.2.2.2.1, q.2.2.2.2.2.2.1, hP _ _ _ _ _ _ _ _ _ q.2.2.2.2.2.2.2⟩ | exact ⟨fun z => hP _ _ _ _ _ _ _ _ _ (q.1 z), fun z => hP _ _ _ _ _ _ _ _ _ (q.2 z)⟩
theorem zIf_mono (hP : ∀ i pc c s ls st sh h Q, P i pc c s ls st sh h Q → P2 i pc c s ls st sh h Q) (q9 : Jvm.ClassFile.Cond) (q : zIf  P i pc c s ls st sh h Q n r1 q9) : zIf  P2 i pc c s ls st sh h Q n r1 q9 := by
  unfold zIf at q ⊢
  split at q <;> first | exact q.elim | exact hP _ _ _ _ _ _ _ _ _ q | exact ⟨q.1, hP _ _ _ _ _ _ _ _ _ q.2⟩ | exact ⟨q.1, q.2.1, hP _ _ _ _ _ _ _ _ _ q.2.2⟩ | exact ⟨q.1, q.2.1, q.2.2.1, hP _ _ _ _ _ _ _ _ _ q.2.2.2⟩ | exact ⟨q.1, q.2.1, q.2.2.1, q.2.2.2.1, hP _ _ _ _ _ _ _ _ _ q.2.2.2.2⟩ | exact ⟨q.1, q.2.1, q.2.2.1, q.2.2.2.1, q.2.2.2.2.1, hP _ _ _ _ _ _ _ _ _ q.2.2.2.2.2⟩ | exact ⟨q.1, q.2.1, q.2.2.1, q.2.2.2.1, q.2.2.2.2.1, q.2.2.2.2.2.1, hP _ _ _ _ _ _ _ _ _ q.2.2.2.2.2.2⟩ | exact ⟨q.1, q.2.1, q.2.2.1, q.2.2.2.1, q.2.2.2.2.1, q.2.2.2.2.2.1, q.2.2.2.2.2.2.1, hP _ _ _ _ _ _ _ _ _ q.2.2.2.2.2.2.2⟩ | exact ⟨fun z => hP _ _ _ _ _ _ _ _ _ (q.1 z), fun z => hP _ _ _ _ _ _ _ _ _ (q.2 z)⟩
theorem zIf2_mono (hP : ∀ i pc c s ls st sh h Q, P i pc c s ls st sh h Q → P2 i pc c s ls st sh h Q) (q9 : Jvm.ClassFile.Cond) (q : zIf2  P i pc c s ls st sh h Q n r1 q9) : zIf2  P2 i pc c s ls st sh h Q n r1 q9 := by
  unfold zIf2 at q ⊢
  split at q <;> first | exact q.elim | exact hP _ _ _ _ _ _ _ _ _ q | exact ⟨q.1, hP _ _ _ _ _ _ _ _ _ q.2⟩ | exact ⟨q.1, q.2.1, hP _ _ _ _ _ _ _ _ _ q.2.2⟩ | exact ⟨q.1, q.2.1, q.2.2.1, hP _ _ _ _ _ _ _ _ _ q.2.2.2⟩ | exact ⟨q.1, q.2.1, q.2.2.1, q.2.2.2.1, hP _ _ _ _ _ _ _ _ _ q.2.2.2.2⟩ | exact ⟨q.1, q.2.1, q.2.2.1, q.2.2.2.1, q.2.2.2.2.1, hP _ _ _ _ _ _ _ _ _ q.2.2.2.2.2⟩ | exact ⟨q.1, q.2.1, q.2.2.1, q.2.2.2.1, q.2.2.2.2.1, q.2.2.2.2.2.1, hP _ _ _ _ _ _ _ _ _ q.2.2.2.2.2.2⟩ | exact ⟨q.1, q.2.1, q.2.2.1, q.2.2.2.1, q.2.2.2.2.1, q.2.2.2.2.2.1, q.2.2.2.2.2.2.1, hP _ _ _ _ _ _ _ _ _ q.2.2.2.2.2.2.2⟩ | exact ⟨fun z => hP _ _ _ _ _ _ _ _ _ (q.1 z), fun z => hP _ _ _ _ _ _ _ _ _ (q.2 z)⟩
theorem zIfA_mono (hP : ∀ i pc c s ls st sh h Q, P i pc c s ls st sh h Q → P2 i pc c s ls st sh h Q) (q9 : ACond) (q : zIfA  P i pc c s ls st sh h Q n r1 q9) : zIfA  P2 i pc c s ls st sh h Q n r1 q9 := by
  unfold zIfA at q ⊢
  split at q
  · obtain ⟨a1, a2, q⟩ := q
    refine ⟨a1, a2, ?_⟩
    split at q <;> exact ⟨fun z => hP _ _ _ _ _ _ _ _ _ (q.1 z), fun z => hP _ _ _ _ _ _ _ _ _ (q.2 z)⟩
  · exact q.elim
theorem zIfN_mono (hP : ∀ i pc c s ls st sh h Q, P i pc c s ls st sh h Q → P2 i pc c s ls st sh h Q)  (q : zIfN  P i pc c s ls st sh h Q n r1 ) : zIfN  P2 i pc c s ls st sh h Q n r1  := by
  unfold zIfN at q ⊢
  split at q <;> first | exact q.elim | exact hP _ _ _ _ _ _ _ _ _ q | exact ⟨q.1, hP _ _ _ _ _ _ _ _ _ q.2⟩ | exact ⟨q.1, q.2.1, hP _ _ _ _ _ _ _ _ _ q.2.2⟩ | exact ⟨q.1, q.2.1, q.2.2.1, hP _ _ _ _ _ _ _ _ _ q.2.2.2⟩ | exact ⟨q.1, q.2.1, q.2.2.1, q.2.2.2.1, hP _ _ _ _ _ _ _ _ _ q.2.2.2.2⟩ | exact ⟨q.1, q.2.1, q.2.2.1, q.2.2.2.1, q.2.2.2.2.1, hP _ _ _ _ _ _ _ _ _ q.2.2.2.2.2⟩ | exact ⟨q.1, q.2.1, q.2.2.1, q.2.2.2.1, q.2.2.2.2.1, q.2.2.2.2.2.1, hP _ _ _ _ _ _ _ _ _ q.2.2.2.2.2.2⟩ | exact ⟨q.1, q.2.1, q.2.2.1, q.2.2.2.1, q.2.2.2.2.1, q.2.2.2.2.2.1, q.2.2.2.2.2.2.1, hP _ _ _ _ _ _ _ _ _ q.2.2.2.2.2.2.2⟩ | exact ⟨fun z => hP _ _ _ _ _ _ _ _ _ (q.1 z), fun z => hP _ _ _ _ _ _ _ _ _ (q.2 z)⟩
theorem zIfNN_mono (hP : ∀ i pc c s ls st sh h Q, P i pc c s ls st sh h Q → P2 i pc c s ls st sh h Q)  (q : zIfNN  P i pc c s ls st sh h Q n r1 ) : zIfNN  P2 i pc c s ls st sh h Q n r1  := by
  unfold zIfNN at q ⊢
  split at q <;> first | exact q.elim | exact hP _ _ _ _ _ _ _ _ _ q | exact ⟨q.1, hP _ _ _ _ _ _ _ _ _ q.2⟩ | exact ⟨q.1, q.2.1, hP _ _ _ _ _ _ _ _ _ q.2.2⟩ | exact ⟨q.1, q.2.1, q.2.2.1, hP _ _ _ _ _ _ _ _ _ q.2.2.2⟩ | exact ⟨q.1, q.2.1, q.2.2.1, q.2.2.2.1, hP _ _ _ _ _ _ _ _ _ q.2.2.2.2⟩ | exact ⟨q.1, q.2.1, q.2.2.1, q.2.2.2.1, q.2.2.2.2.1, hP _ _ _ _ _ _ _ _ _ q.2.2.2.2.2⟩ | exact ⟨q.1, q.2.1, q.2.2.1, q.2.2.2.1, q.2.2.2.2.1, q.2.2.2.2.2.1, hP _ _ _ _ _ _ _ _ _ q.2.2.2.2.2.2⟩ | exact ⟨q.1, q.2.1, q.2.2.1, q.2.2.2.1, q.2.2.2.2.1, q.2.2.2.2.2.1, q.2.2.2.2.2.2.1, hP _ _ _ _ _ _ _ _ _ q.2.2.2.2.2.2.2⟩ | exact ⟨fun z => hP _ _ _ _ _ _ _ _ _ (q.1 z), fun z => hP _ _ _ _ _ _ _ _ _ (q.2 z)⟩
theorem zTab_mono (hP : ∀ i pc c s ls st sh h Q, P i pc c s ls st sh h Q → P2 i pc c s ls st sh h Q) (d lo hi : Int) (os : Array Int) (q : zTab  P i pc c s ls st sh h Q  d lo hi os) : zTab  P2 i pc c s ls st sh h Q  d lo hi os := by
  unfold zTab at q ⊢
  split at q <;> first | exact q.elim | (refine ⟨fun z => ⟨(q.1 z).1, hP _ _ _ _ _ _ _ _ _ (q.1 z).2⟩, fun a b => ?_⟩; obtain ⟨o, e1, e2, e3⟩ := q.2 a b; exact ⟨o, e1, e2, hP _ _ _ _ _ _ _ _ _ e3⟩)
theorem zLook_mono (hP : ∀ i pc c s ls st sh h Q, P i pc c s ls st sh h Q → P2 i pc c s ls st sh h Q) (d : Int) (ps : Array (Int × Int)) (q : zLook  P i pc c s ls st sh h Q  d ps) : zLook  P2 i pc c s ls st sh h Q  d ps := by
  unfold zLook at q ⊢
  split at q <;> first | exact q.elim | exact hP _ _ _ _ _ _ _ _ _ q | exact ⟨q.1, hP _ _ _ _ _ _ _ _ _ q.2⟩ | exact ⟨q.1, q.2.1, hP _ _ _ _ _ _ _ _ _ q.2.2⟩ | exact ⟨q.1, q.2.1, q.2.2.1, hP _ _ _ _ _ _ _ _ _ q.2.2.2⟩ | exact ⟨q.1, q.2.1, q.2.2.1, q.2.2.2.1, hP _ _ _ _ _ _ _ _ _ q.2.2.2.2⟩ | exact ⟨q.1, q.2.1, q.2.2.1, q.2.2.2.1, q.2.2.2.2.1, hP _ _ _ _ _ _ _ _ _ q.2.2.2.2.2⟩ | exact ⟨q.1, q.2.1, q.2.2.1, q.2.2.2.1, q.2.2.2.2.1, q.2.2.2.2.2.1, hP _ _ _ _ _ _ _ _ _ q.2.2.2.2.2.2⟩ | exact ⟨q.1, q.2.1, q.2.2.1, q.2.2.2.1, q.2.2.2.2.1, q.2.2.2.2.2.1, q.2.2.2.2.2.2.1, hP _ _ _ _ _ _ _ _ _ q.2.2.2.2.2.2.2⟩ | exact ⟨fun z => hP _ _ _ _ _ _ _ _ _ (q.1 z), fun z => hP _ _ _ _ _ _ _ _ _ (q.2 z)⟩
theorem zALd_mono (hP : ∀ i pc c s ls st sh h Q, P i pc c s ls st sh h Q → P2 i pc c s ls st sh h Q) (t1 t2 : Nat) (q : zALd X P i pc c s ls st sh h Q n t1 t2) : zALd X P2 i pc c s ls st sh h Q n t1 t2 := by
  unfold zALd at q ⊢
  split at q <;> first | exact q.elim | exact hP _ _ _ _ _ _ _ _ _ q | exact ⟨q.1, hP _ _ _ _ _ _ _ _ _ q.2⟩ | exact ⟨q.1, q.2.1, hP _ _ _ _ _ _ _ _ _ q.2.2⟩ | exact ⟨q.1, q.2.1, q.2.2.1, hP _ _ _ _ _ _ _ _ _ q.2.2.2⟩ | exact ⟨q.1, q.2.1, q.2.2.1, q.2.2.2.1, hP _ _ _ _ _ _ _ _ _ q.2.2.2.2⟩ | exact ⟨q.1, q.2.1, q.2.2.1, q.2.2.2.1, q.2.2.2.2.1, hP _ _ _ _ _ _ _ _ _ q.2.2.2.2.2⟩ | exact ⟨q.1, q.2.1, q.2.2.1, q.2.2.2.1, q.2.2.2.2.1, q.2.2.2.2.2.1, hP _ _ _ _ _ _ _ _ _ q.2.2.2.2.2.2⟩ | exact ⟨q.1, q.2.1, q.2.2.1, q.2.2.2.1, q.2.2.2.2.1, q.2.2.2.2.2.1, q.2.2.2.2.2.2.1, hP _ _ _ _ _ _ _ _ _ q.2.2.2.2.2.2.2⟩ | exact ⟨fun z => hP _ _ _ _ _ _ _ _ _ (q.1 z), fun z => hP _ _ _ _ _ _ _ _ _ (q.2 z)⟩
theorem zALdL_mono (hP : ∀ i pc c s ls st sh h Q, P i pc c s ls st sh h Q → P2 i pc c s ls st sh h Q)  (q : zALdL X P i pc c s ls st sh h Q n ) : zALdL X P2 i pc c s ls st sh h Q n  := by
  unfold zALdL at q ⊢
  split at q <;> first | exact q.elim | exact hP _ _ _ _ _ _ _ _ _ q | exact ⟨q.1, hP _ _ _ _ _ _ _ _ _ q.2⟩ | exact ⟨q.1, q.2.1, hP _ _ _ _ _ _ _ _ _ q.2.2⟩ | exact ⟨q.1, q.2.1, q.2.2.1, hP _ _ _ _ _ _ _ _ _ q.2.2.2⟩ | exact ⟨q.1, q.2.1, q.2.2.1, q.2.2.2.1, hP _ _ _ _ _ _ _ _ _ q.2.2.2.2⟩ | exact ⟨q.1, q.2.1, q.2.2.1, q.2.2.2.1, q.2.2.2.2.1, hP _ _ _ _ _ _ _ _ _ q.2.2.2.2.2⟩ | exact ⟨q.1, q.2.1, q.2.2.1, q.2.2.2.1, q.2.2.2.2.1, q.2.2.2.2.2.1, hP _ _ _ _ _ _ _ _ _ q.2.2.2.2.2.2⟩ | exact ⟨q.1, q.2.1, q.2.2.1, q.2.2.2.1, q.2.2.2.2.1, q.2.2.2.2.2.1, q.2.2.2.2.2.2.1, hP _ _ _ _ _ _ _ _ _ q.2.2.2.2.2.2.2⟩ | exact ⟨fun z => hP _ _ _ _ _ _ _ _ _ (q.1 z), fun z => hP _ _ _ _ _ _ _ _ _ (q.2 z)⟩
theorem zALdR_mono (hP : ∀ i pc c s ls st sh h Q, P i pc c s ls st sh h Q → P2 i pc c s ls st sh h Q)  (q : zALdR X P i pc c s ls st sh h Q n ) : zALdR X P2 i pc c s ls st sh h Q n  := by
  unfold zALdR at q ⊢
  split at q <;> first | exact q.elim | (obtain ⟨a1, a2, a3, a4, a5⟩ := q; refine ⟨a1, a2, a3, a4, ?_⟩; rcases a5 with ⟨y, e1, e2⟩ | ⟨e1, e2⟩; exact Or.inl ⟨y, e1, hP _ _ _ _ _ _ _ _ _ e2⟩; exact Or.inr ⟨e1, hP _ _ _ _ _ _ _ _ _ e2⟩)
theorem zASt_mono (hP : ∀ i pc c s ls st sh h Q, P i pc c s ls st sh h Q → P2 i pc c s ls st sh h Q) (t : Nat) (f : Int → Int) (q : zASt X P i pc c s ls st sh h Q n t f) : zASt X P2 i pc c s ls st sh h Q n t f := by
  unfold zASt at q ⊢
  split at q <;> first | exact q.elim | exact hP _ _ _ _ _ _ _ _ _ q | exact ⟨q.1, hP _ _ _ _ _ _ _ _ _ q.2⟩ | exact ⟨q.1, q.2.1, hP _ _ _ _ _ _ _ _ _ q.2.2⟩ | exact ⟨q.1, q.2.1, q.2.2.1, hP _ _ _ _ _ _ _ _ _ q.2.2.2⟩ | exact ⟨q.1, q.2.1, q.2.2.1, q.2.2.2.1, hP _ _ _ _ _ _ _ _ _ q.2.2.2.2⟩ | exact ⟨q.1, q.2.1, q.2.2.1, q.2.2.2.1, q.2.2.2.2.1, hP _ _ _ _ _ _ _ _ _ q.2.2.2.2.2⟩ | exact ⟨q.1, q.2.1, q.2.2.1, q.2.2.2.1, q.2.2.2.2.1, q.2.2.2.2.2.1, hP _ _ _ _ _ _ _ _ _ q.2.2.2.2.2.2⟩ | exact ⟨q.1, q.2.1, q.2.2.1, q.2.2.2.1, q.2.2.2.2.1, q.2.2.2.2.2.1, q.2.2.2.2.2.2.1, hP _ _ _ _ _ _ _ _ _ q.2.2.2.2.2.2.2⟩ | exact ⟨fun z => hP _ _ _ _ _ _ _ _ _ (q.1 z), fun z => hP _ _ _ _ _ _ _ _ _ (q.2 z)⟩
theorem zAStB_mono (hP : ∀ i pc c s ls st sh h Q, P i pc c s ls st sh h Q → P2 i pc c s ls st sh h Q)  (q : zAStB X P i pc c s ls st sh h Q n ) : zAStB X P2 i pc c s ls st sh h Q n  := by
  unfold zAStB at q ⊢
  split at q <;> first | exact q.elim | (obtain ⟨a1, a2, a3, a4⟩ := q; refine ⟨a1, a2, a3, ?_⟩; rcases a4 with ⟨e1, e2⟩ | ⟨e1, e3, e2⟩; exact Or.inl ⟨e1, hP _ _ _ _ _ _ _ _ _ e2⟩; exact Or.inr ⟨e1, e3, hP _ _ _ _ _ _ _ _ _ e2⟩)
theorem zAStL_mono (hP : ∀ i pc c s ls st sh h Q, P i pc c s ls st sh h Q → P2 i pc c s ls st sh h Q)  (q : zAStL X P i pc c s ls st sh h Q n ) : zAStL X P2 i pc c s ls st sh h Q n  := by
  unfold zAStL at q ⊢
  split at q <;> first | exact q.elim | exact hP _ _ _ _ _ _ _ _ _ q | exact ⟨q.1, hP _ _ _ _ _ _ _ _ _ q.2⟩ | exact ⟨q.1, q.2.1, hP _ _ _ _ _ _ _ _ _ q.2.2⟩ | exact ⟨q.1, q.2.1, q.2.2.1, hP _ _ _ _ _ _ _ _ _ q.2.2.2⟩ | exact ⟨q.1, q.2.1, q.2.2.1, q.2.2.2.1, hP _ _ _ _ _ _ _ _ _ q.2.2.2.2⟩ | exact ⟨q.1, q.2.1, q.2.2.1, q.2.2.2.1, q.2.2.2.2.1, hP _ _ _ _ _ _ _ _ _ q.2.2.2.2.2⟩ | exact ⟨q.1, q.2.1, q.2.2.1, q.2.2.2.1, q.2.2.2.2.1, q.2.2.2.2.2.1, hP _ _ _ _ _ _ _ _ _ q.2.2.2.2.2.2⟩ | exact ⟨q.1, q.2.1, q.2.2.1, q.2.2.2.1, q.2.2.2.2.1, q.2.2.2.2.2.1, q.2.2.2.2.2.2.1, hP _ _ _ _ _ _ _ _ _ q.2.2.2.2.2.2.2⟩ | exact ⟨fun z => hP _ _ _ _ _ _ _ _ _ (q.1 z), fun z => hP _ _ _ _ _ _ _ _ _ (q.2 z)⟩
theorem zAStR_mono (hP : ∀ i pc c s ls st sh h Q, P i pc c s ls st sh h Q → P2 i pc c s ls st sh h Q)  (q : zAStR X P i pc c s ls st sh h Q n ) : zAStR X P2 i pc c s ls st sh h Q n  := by
  unfold zAStR at q ⊢
  split at q <;> first | exact q.elim | exact hP _ _ _ _ _ _ _ _ _ q | exact ⟨q.1, hP _ _ _ _ _ _ _ _ _ q.2⟩ | exact ⟨q.1, q.2.1, hP _ _ _ _ _ _ _ _ _ q.2.2⟩ | exact ⟨q.1, q.2.1, q.2.2.1, hP _ _ _ _ _ _ _ _ _ q.2.2.2⟩ | exact ⟨q.1, q.2.1, q.2.2.1, q.2.2.2.1, hP _ _ _ _ _ _ _ _ _ q.2.2.2.2⟩ | exact ⟨q.1, q.2.1, q.2.2.1, q.2.2.2.1, q.2.2.2.2.1, hP _ _ _ _ _ _ _ _ _ q.2.2.2.2.2⟩ | exact ⟨q.1, q.2.1, q.2.2.1, q.2.2.2.1, q.2.2.2.2.1, q.2.2.2.2.2.1, hP _ _ _ _ _ _ _ _ _ q.2.2.2.2.2.2⟩ | exact ⟨q.1, q.2.1, q.2.2.1, q.2.2.2.1, q.2.2.2.2.1, q.2.2.2.2.2.1, q.2.2.2.2.2.2.1, hP _ _ _ _ _ _ _ _ _ q.2.2.2.2.2.2.2⟩ | exact ⟨fun z => hP _ _ _ _ _ _ _ _ _ (q.1 z), fun z => hP _ _ _ _ _ _ _ _ _ (q.2 z)⟩
theorem zLen_mono (hP : ∀ i pc c s ls st sh h Q, P i pc c s ls st sh h Q → P2 i pc c s ls st sh h Q)  (q : zLen X P i pc c s ls st sh h Q n ) : zLen X P2 i pc c s ls st sh h Q n  := by
  unfold zLen at q ⊢
  split at q <;> first | exact q.elim | exact hP _ _ _ _ _ _ _ _ _ q | exact ⟨q.1, hP _ _ _ _ _ _ _ _ _ q.2⟩ | exact ⟨q.1, q.2.1, hP _ _ _ _ _ _ _ _ _ q.2.2⟩ | exact ⟨q.1, q.2.1, q.2.2.1, hP _ _ _ _ _ _ _ _ _ q.2.2.2⟩ | exact ⟨q.1, q.2.1, q.2.2.1, q.2.2.2.1, hP _ _ _ _ _ _ _ _ _ q.2.2.2.2⟩ | exact ⟨q.1, q.2.1, q.2.2.1, q.2.2.2.1, q.2.2.2.2.1, hP _ _ _ _ _ _ _ _ _ q.2.2.2.2.2⟩ | exact ⟨q.1, q.2.1, q.2.2.1, q.2.2.2.1, q.2.2.2.2.1, q.2.2.2.2.2.1, hP _ _ _ _ _ _ _ _ _ q.2.2.2.2.2.2⟩ | exact ⟨q.1, q.2.1, q.2.2.1, q.2.2.2.1, q.2.2.2.2.1, q.2.2.2.2.2.1, q.2.2.2.2.2.2.1, hP _ _ _ _ _ _ _ _ _ q.2.2.2.2.2.2.2⟩ | exact ⟨fun z => hP _ _ _ _ _ _ _ _ _ (q.1 z), fun z => hP _ _ _ _ _ _ _ _ _ (q.2 z)⟩
theorem zGet_mono (hP : ∀ i pc c s ls st sh h Q, P i pc c s ls st sh h Q → P2 i pc c s ls st sh h Q)  (q : zGet X P i pc c s ls st sh h Q n r1 r2 r3 ) : zGet X P2 i pc c s ls st sh h Q n r1 r2 r3  := by
  unfold zGet at q ⊢
  split at q
  · obtain ⟨a1, a2⟩ := q
    refine ⟨a1, ?_⟩
    split at a2
    · exact hP _ _ _ _ _ _ _ _ _ a2
    · exact hP _ _ _ _ _ _ _ _ _ a2
    · rcases a2 with ⟨y, e1, e2⟩ | ⟨e1, e2⟩
      · exact Or.inl ⟨y, e1, hP _ _ _ _ _ _ _ _ _ e2⟩
      · exact Or.inr ⟨e1, hP _ _ _ _ _ _ _ _ _ e2⟩
  · exact q.elim
theorem zPut_mono (hP : ∀ i pc c s ls st sh h Q, P i pc c s ls st sh h Q → P2 i pc c s ls st sh h Q)  (q : zPut X P i pc c s ls st sh h Q n r1 r2 r3 ) : zPut X P2 i pc c s ls st sh h Q n r1 r2 r3  := by
  unfold zPut at q ⊢
  split at q
  · obtain ⟨a0, a1, a2⟩ := q
    refine ⟨a0, a1, ?_⟩
    split at a2 <;> first | exact a2.elim | exact hP _ _ _ _ _ _ _ _ _ a2
  · exact q.elim
theorem zNew_mono (hP : ∀ i pc c s ls st sh h Q, P i pc c s ls st sh h Q → P2 i pc c s ls st sh h Q)  (q : zNew  P i pc c s ls st sh h Q n r1 r2 ) : zNew  P2 i pc c s ls st sh h Q n r1 r2  := by
  unfold zNew at q ⊢
  exact ⟨q.1, q.2.1, q.2.2.1, hP _ _ _ _ _ _ _ _ _ q.2.2.2⟩
theorem zNewA_mono (hP : ∀ i pc c s ls st sh h Q, P i pc c s ls st sh h Q → P2 i pc c s ls st sh h Q) (t : Nat) (x : Int) (q : zNewA  P i pc c s ls st sh h Q n t x) : zNewA  P2 i pc c s ls st sh h Q n t x := by
  unfold zNewA at q ⊢
  split at q <;> first | exact q.elim | exact hP _ _ _ _ _ _ _ _ _ q | exact ⟨q.1, hP _ _ _ _ _ _ _ _ _ q.2⟩ | exact ⟨q.1, q.2.1, hP _ _ _ _ _ _ _ _ _ q.2.2⟩ | exact ⟨q.1, q.2.1, q.2.2.1, hP _ _ _ _ _ _ _ _ _ q.2.2.2⟩ | exact ⟨q.1, q.2.1, q.2.2.1, q.2.2.2.1, hP _ _ _ _ _ _ _ _ _ q.2.2.2.2⟩ | exact ⟨q.1, q.2.1, q.2.2.1, q.2.2.2.1, q.2.2.2.2.1, hP _ _ _ _ _ _ _ _ _ q.2.2.2.2.2⟩ | exact ⟨q.1, q.2.1, q.2.2.1, q.2.2.2.1, q.2.2.2.2.1, q.2.2.2.2.2.1, hP _ _ _ _ _ _ _ _ _ q.2.2.2.2.2.2⟩ | exact ⟨q.1, q.2.1, q.2.2.1, q.2.2.2.1, q.2.2.2.2.1, q.2.2.2.2.2.1, q.2.2.2.2.2.2.1, hP _ _ _ _ _ _ _ _ _ q.2.2.2.2.2.2.2⟩ | exact ⟨fun z => hP _ _ _ _ _ _ _ _ _ (q.1 z), fun z => hP _ _ _ _ _ _ _ _ _ (q.2 z)⟩
theorem zCall_mono (hP : ∀ i pc c s ls st sh h Q, P i pc c s ls st sh h Q → P2 i pc c s ls st sh h Q) (ok : Prop) (q : zCall  P i pc c s ls st sh h Q r1 r2 ok) : zCall  P2 i pc c s ls st sh h Q r1 r2 ok := by
  unfold zCall at q ⊢
  obtain ⟨a1, a2, a3, a4, R, a6, a7⟩ := q; exact ⟨a1, a2, a3, a4, R, hP _ _ _ _ _ _ _ _ _ a6, fun v sh' h' z => hP _ _ _ _ _ _ _ _ _ (a7 v sh' h' z)⟩
theorem zObj_mono (hP : ∀ i pc c s ls st sh h Q, P i pc c s ls st sh h Q → P2 i pc c s ls st sh h Q)  (q : zObj  P i pc c s ls st sh h Q n ) : zObj  P2 i pc c s ls st sh h Q n  := by
  unfold zObj at q ⊢
  split at q <;> first | exact q.elim | exact hP _ _ _ _ _ _ _ _ _ q | exact ⟨q.1, hP _ _ _ _ _ _ _ _ _ q.2⟩ | exact ⟨q.1, q.2.1, hP _ _ _ _ _ _ _ _ _ q.2.2⟩ | exact ⟨q.1, q.2.1, q.2.2.1, hP _ _ _ _ _ _ _ _ _ q.2.2.2⟩ | exact ⟨q.1, q.2.1, q.2.2.1, q.2.2.2.1, hP _ _ _ _ _ _ _ _ _ q.2.2.2.2⟩ | exact ⟨q.1, q.2.1, q.2.2.1, q.2.2.2.1, q.2.2.2.2.1, hP _ _ _ _ _ _ _ _ _ q.2.2.2.2.2⟩ | exact ⟨q.1, q.2.1, q.2.2.1, q.2.2.2.1, q.2.2.2.2.1, q.2.2.2.2.2.1, hP _ _ _ _ _ _ _ _ _ q.2.2.2.2.2.2⟩ | exact ⟨q.1, q.2.1, q.2.2.1, q.2.2.2.1, q.2.2.2.2.1, q.2.2.2.2.2.1, q.2.2.2.2.2.2.1, hP _ _ _ _ _ _ _ _ _ q.2.2.2.2.2.2.2⟩ | exact ⟨fun z => hP _ _ _ _ _ _ _ _ _ (q.1 z), fun z => hP _ _ _ _ _ _ _ _ _ (q.2 z)⟩
theorem zDup_mono (hP : ∀ i pc c s ls st sh h Q, P i pc c s ls st sh h Q → P2 i pc c s ls st sh h Q)  (q : zDup  P i pc c s ls st sh h Q n ) : zDup  P2 i pc c s ls st sh h Q n  := by
  unfold zDup at q ⊢
  split at q <;> first | exact q.elim | exact hP _ _ _ _ _ _ _ _ _ q | exact ⟨q.1, hP _ _ _ _ _ _ _ _ _ q.2⟩ | exact ⟨q.1, q.2.1, hP _ _ _ _ _ _ _ _ _ q.2.2⟩ | exact ⟨q.1, q.2.1, q.2.2.1, hP _ _ _ _ _ _ _ _ _ q.2.2.2⟩ | exact ⟨q.1, q.2.1, q.2.2.1, q.2.2.2.1, hP _ _ _ _ _ _ _ _ _ q.2.2.2.2⟩ | exact ⟨q.1, q.2.1, q.2.2.1, q.2.2.2.1, q.2.2.2.2.1, hP _ _ _ _ _ _ _ _ _ q.2.2.2.2.2⟩ | exact ⟨q.1, q.2.1, q.2.2.1, q.2.2.2.1, q.2.2.2.2.1, q.2.2.2.2.2.1, hP _ _ _ _ _ _ _ _ _ q.2.2.2.2.2.2⟩ | exact ⟨q.1, q.2.1, q.2.2.1, q.2.2.2.1, q.2.2.2.2.1, q.2.2.2.2.2.1, q.2.2.2.2.2.2.1, hP _ _ _ _ _ _ _ _ _ q.2.2.2.2.2.2.2⟩ | exact ⟨fun z => hP _ _ _ _ _ _ _ _ _ (q.1 z), fun z => hP _ _ _ _ _ _ _ _ _ (q.2 z)⟩
theorem zDup2_mono (hP : ∀ i pc c s ls st sh h Q, P i pc c s ls st sh h Q → P2 i pc c s ls st sh h Q)  (q : zDup2  P i pc c s ls st sh h Q n ) : zDup2  P2 i pc c s ls st sh h Q n  := by
  unfold zDup2 at q ⊢
  split at q <;> first | exact q.elim | exact hP _ _ _ _ _ _ _ _ _ q | exact ⟨q.1, hP _ _ _ _ _ _ _ _ _ q.2⟩ | exact ⟨q.1, q.2.1, hP _ _ _ _ _ _ _ _ _ q.2.2⟩ | exact ⟨q.1, q.2.1, q.2.2.1, hP _ _ _ _ _ _ _ _ _ q.2.2.2⟩ | exact ⟨q.1, q.2.1, q.2.2.1, q.2.2.2.1, hP _ _ _ _ _ _ _ _ _ q.2.2.2.2⟩ | exact ⟨q.1, q.2.1, q.2.2.1, q.2.2.2.1, q.2.2.2.2.1, hP _ _ _ _ _ _ _ _ _ q.2.2.2.2.2⟩ | exact ⟨q.1, q.2.1, q.2.2.1, q.2.2.2.1, q.2.2.2.2.1, q.2.2.2.2.2.1, hP _ _ _ _ _ _ _ _ _ q.2.2.2.2.2.2⟩ | exact ⟨q.1, q.2.1, q.2.2.1, q.2.2.2.1, q.2.2.2.2.1, q.2.2.2.2.2.1, q.2.2.2.2.2.2.1, hP _ _ _ _ _ _ _ _ _ q.2.2.2.2.2.2.2⟩ | exact ⟨fun z => hP _ _ _ _ _ _ _ _ _ (q.1 z), fun z => hP _ _ _ _ _ _ _ _ _ (q.2 z)⟩
theorem zPop_mono (hP : ∀ i pc c s ls st sh h Q, P i pc c s ls st sh h Q → P2 i pc c s ls st sh h Q)  (q : zPop  P i pc c s ls st sh h Q n ) : zPop  P2 i pc c s ls st sh h Q n  := by
  unfold zPop at q ⊢
  split at q <;> first | exact q.elim | exact hP _ _ _ _ _ _ _ _ _ q | exact ⟨q.1, hP _ _ _ _ _ _ _ _ _ q.2⟩ | exact ⟨q.1, q.2.1, hP _ _ _ _ _ _ _ _ _ q.2.2⟩ | exact ⟨q.1, q.2.1, q.2.2.1, hP _ _ _ _ _ _ _ _ _ q.2.2.2⟩ | exact ⟨q.1, q.2.1, q.2.2.1, q.2.2.2.1, hP _ _ _ _ _ _ _ _ _ q.2.2.2.2⟩ | exact ⟨q.1, q.2.1, q.2.2.1, q.2.2.2.1, q.2.2.2.2.1, hP _ _ _ _ _ _ _ _ _ q.2.2.2.2.2⟩ | exact ⟨q.1, q.2.1, q.2.2.1, q.2.2.2.1, q.2.2.2.2.1, q.2.2.2.2.2.1, hP _ _ _ _ _ _ _ _ _ q.2.2.2.2.2.2⟩ | exact ⟨q.1, q.2.1, q.2.2.1, q.2.2.2.1, q.2.2.2.2.1, q.2.2.2.2.2.1, q.2.2.2.2.2.2.1, hP _ _ _ _ _ _ _ _ _ q.2.2.2.2.2.2.2⟩ | exact ⟨fun z => hP _ _ _ _ _ _ _ _ _ (q.1 z), fun z => hP _ _ _ _ _ _ _ _ _ (q.2 z)⟩
theorem zCallG_mono (hP : ∀ i pc c s ls st sh h Q, P i pc c s ls st sh h Q → P2 i pc c s ls st sh h Q) (ok : Prop) (q : zCallG P i pc c s ls st sh h Q r1 r2 ok) : zCallG P2 i pc c s ls st sh h Q r1 r2 ok := by
  unfold zCallG at q ⊢
  cases hb : Nat.blt r1 342 with
  | false => rw [hb] at q; exact q.elim
  | true => rw [hb, cond_true] at q; exact zCall_mono hP ok q
theorem zObjG_mono (hP : ∀ i pc c s ls st sh h Q, P i pc c s ls st sh h Q → P2 i pc c s ls st sh h Q) (q : zObjG P i pc c s ls st sh h Q n r1) : zObjG P2 i pc c s ls st sh h Q n r1 := by
  unfold zObjG at q ⊢
  cases hb : Nat.beq r1 9999 with
  | false => rw [hb] at q; exact q.elim
  | true => rw [hb, cond_true] at q; exact zObj_mono hP q
theorem zMath_mono (hP : ∀ i pc c s ls st sh h Q, P i pc c s ls st sh h Q → P2 i pc c s ls st sh h Q) (q : zMath P i pc c s ls st sh h Q r1) : zMath P2 i pc c s ls st sh h Q r1 := by
  unfold zMath at q ⊢
  cases h9001 : Nat.beq r1 9001 with
  | true =>
    rw [h9001, cond_true] at q; rw [cond_true]
    split at q <;> first | exact q.elim | exact ⟨q.1, hP _ _ _ _ _ _ _ _ _ q.2⟩
  | false =>
  rw [h9001, cond_false] at q; rw [cond_false]
  cases h9002 : Nat.beq r1 9002 with
  | true =>
    rw [h9002, cond_true] at q; rw [cond_true]
    split at q <;> first | exact q.elim | exact ⟨q.1, hP _ _ _ _ _ _ _ _ _ q.2⟩
  | false =>
  rw [h9002, cond_false] at q; rw [cond_false]
  cases h9003 : Nat.beq r1 9003 with
  | true =>
    rw [h9003, cond_true] at q; rw [cond_true]
    split at q <;> first | exact q.elim | exact ⟨q.1, hP _ _ _ _ _ _ _ _ _ q.2⟩
  | false =>
  rw [h9003, cond_false] at q; rw [cond_false]
  cases h9004 : Nat.beq r1 9004 with
  | true =>
    rw [h9004, cond_true] at q; rw [cond_true]
    split at q <;> first | exact q.elim | exact ⟨q.1, hP _ _ _ _ _ _ _ _ _ q.2⟩
  | false =>
  rw [h9004, cond_false] at q; rw [cond_false]
  cases h9005 : Nat.beq r1 9005 with
  | true =>
    rw [h9005, cond_true] at q; rw [cond_true]
    split at q <;> first | exact q.elim | exact ⟨q.1, hP _ _ _ _ _ _ _ _ _ q.2⟩
  | false =>
  rw [h9005, cond_false] at q; rw [cond_false]
  exact q.elim
theorem zMathG_mono (hP : ∀ i pc c s ls st sh h Q, P i pc c s ls st sh h Q → P2 i pc c s ls st sh h Q) (q : bif Nat.blt 9000 r1 then zMath P i pc c s ls st sh h Q r1 else zCallG P i pc c s ls st sh h Q r1 r2 True) : bif Nat.blt 9000 r1 then zMath P2 i pc c s ls st sh h Q r1 else zCallG P2 i pc c s ls st sh h Q r1 r2 True := by
  cases hb : Nat.blt 9000 r1 with
  | true => rw [hb, cond_true] at q; exact zMath_mono hP q
  | false => rw [hb, cond_false] at q; exact zCallG_mono hP _ q
theorem zDo_mono (hP : ∀ i pc c s ls st sh h Q, P i pc c s ls st sh h Q → P2 i pc c s ls st sh h Q) (ins : Instr) (q : zDo X P i pc c s ls st sh h Q n r1 r2 r3 ins) : zDo X P2 i pc c s ls st sh h Q n r1 r2 r3 ins := by
  cases ins <;> first
    | exact q
    | exact zLdI_mono hP _ q
    | exact zLdL_mono hP _ q
    | exact zLdR_mono hP _ q
    | exact zStI_mono hP _ q
    | exact zStL_mono hP _ q
    | exact zStR_mono hP _ q
    | exact zPush_mono hP _ q
    | exact zBin_mono hP _ q
    | exact zDiv_mono hP _ q
    | exact zBinL_mono hP _ q
    | exact zShL_mono hP _ q
    | exact zCmpL_mono hP  q
    | exact zUn_mono hP _ q
    | exact zIL_mono hP  q
    | exact zLI_mono hP  q
    | exact zInc_mono hP _ _ q
    | exact zIf_mono hP _ q
    | exact zIf2_mono hP _ q
    | exact zIfA_mono hP _ q
    | exact zIfN_mono hP  q
    | exact zIfNN_mono hP  q
    | exact zTab_mono hP _ _ _ _ q
    | exact zLook_mono hP _ _ q
    | exact zALd_mono hP _ _ q
    | exact zALdL_mono hP  q
    | exact zALdR_mono hP  q
    | exact zASt_mono hP _ _ q
    | exact zAStB_mono hP  q
    | exact zAStL_mono hP  q
    | exact zAStR_mono hP  q
    | exact zLen_mono hP  q
    | exact zGet_mono hP  q
    | exact zPut_mono hP  q
    | exact zNew_mono hP  q
    | exact zNewA_mono hP _ _ q
    | exact zCall_mono hP _ q
    | exact zObj_mono hP  q
    | exact zDup_mono hP  q
    | exact zDup2_mono hP  q
    | exact zPop_mono hP  q
    | exact zCallG_mono hP _ q
    | exact zMathG_mono hP q
    | exact hP _ _ _ _ _ _ _ _ _ q
    | (rcases r1 with _ | _ | r1 <;> first | exact q | exact zPush_mono hP _ q)
    | (rcases r2 with _ | r2 <;> first | exact zObjG_mono hP q | exact zCallG_mono hP _ q)
theorem zStep_mono (hP : ∀ i pc c s ls st sh h Q, P i pc c s ls st sh h Q → P2 i pc c s ls st sh h Q) (q : zStep X P i pc c s ls st sh h Q) : zStep X P2 i pc c s ls st sh h Q := by
  unfold zStep at q ⊢
  cases hb : Nat.blt i 343 with
  | false => rw [hb] at q; exact q.elim
  | true =>
  rw [hb, cond_true] at q
  rw [cond_true]
  split at q
  · exact q.elim
  · exact zDo_mono hP _ q
theorem zAt.go (q : zStep X (zAt X) i pc c s ls st sh h Q) : zAt X i pc c s ls st sh h Q := fun P hP => hP _ _ _ _ _ _ _ _ _ (zStep_mono (fun _ _ _ _ _ _ _ _ _ z => z P hP) q)
theorem zAt.ind {i pc c s : Nat} {ls : zLL} {st : List zAV} {sh : zSH} {h : zHP} {Q : zPO} (q : zAt X i pc c s ls st sh h Q) (P : zPT) (hP : ∀ i pc c s ls st sh h Q, zStep X P i pc c s ls st sh h Q → P i pc c s ls st sh h Q) : P i pc c s ls st sh h Q := q P hP
end zM
