/-! the rules go forward: with fewer locals told, with more asked at the end -/
section zMp
variable {X : List Int} {P P2 : zPT} {i pc c s : Nat} {ls ls2 : zLL} {st : List zAV} {sh : zSH} {h : zHP} {Q Q2 : zPO} {n r1 r2 : Nat} {r3 : Int}
theorem zLdI_map (hP : ∀ i pc c s st sh h, P i pc c s ls st sh h Q → P2 i pc c s ls2 st sh h Q2) (hL : ∀ k v, ls.getD k none = some v → ls2.getD k none = some v) (k : Nat) (q : zLdI  P i pc c s ls st sh h Q n k) : zLdI  P2 i pc c s ls2 st sh h Q2 n k := by
  unfold zLdI at q ⊢
  split at q
  · rename_i x ex; rw [hL _ _ ex]; exact hP _ _ _ _ _ _ _ q
  · exact q.elim
theorem zLdL_map (hP : ∀ i pc c s st sh h, P i pc c s ls st sh h Q → P2 i pc c s ls2 st sh h Q2) (hL : ∀ k v, ls.getD k none = some v → ls2.getD k none = some v) (k : Nat) (q : zLdL  P i pc c s ls st sh h Q n k) : zLdL  P2 i pc c s ls2 st sh h Q2 n k := by
  unfold zLdL at q ⊢
  split at q
  · rename_i x ex; rw [hL _ _ ex]; exact hP _ _ _ _ _ _ _ q
  · exact q.elim
theorem zLdR_map (hP : ∀ i pc c s st sh h, P i pc c s ls st sh h Q → P2 i pc c s ls2 st sh h Q2) (hL : ∀ k v, ls.getD k none = some v → ls2.getD k none = some v) (k : Nat) (q : zLdR  P i pc c s ls st sh h Q n k) : zLdR  P2 i pc c s ls2 st sh h Q2 n k := by
  unfold zLdR at q ⊢
  split at q
  · rename_i x ex; rw [hL _ _ ex]; exact hP _ _ _ _ _ _ _ q
  · exact q.elim
theorem zStI_map (hn : ls.length = ls2.length) (hS : ∀ k v i pc c s st sh h, P i pc c s (zst1 ls k v) st sh h Q → P2 i pc c s (zst1 ls2 k v) st sh h Q2) (k : Nat) (q : zStI  P i pc c s ls st sh h Q n k) : zStI  P2 i pc c s ls2 st sh h Q2 n k := by
  unfold zStI at q ⊢
  split at q
  · exact ⟨hn ▸ q.1, hS _ _ _ _ _ _ _ _ _ q.2⟩
  · exact q.elim
theorem zStL_map (hn : ls.length = ls2.length) (hS : ∀ k v i pc c s st sh h, P i pc c s (zst2 ls k v) st sh h Q → P2 i pc c s (zst2 ls2 k v) st sh h Q2) (k : Nat) (q : zStL  P i pc c s ls st sh h Q n k) : zStL  P2 i pc c s ls2 st sh h Q2 n k := by
  unfold zStL at q ⊢
  split at q
  · exact ⟨hn ▸ q.1, hS _ _ _ _ _ _ _ _ _ q.2⟩
  · exact q.elim
theorem zStR_map (hn : ls.length = ls2.length) (hS : ∀ k v i pc c s st sh h, P i pc c s (zst1 ls k v) st sh h Q → P2 i pc c s (zst1 ls2 k v) st sh h Q2) (k : Nat) (q : zStR  P i pc c s ls st sh h Q n k) : zStR  P2 i pc c s ls2 st sh h Q2 n k := by
  unfold zStR at q ⊢
  split at q
  · exact ⟨hn ▸ q.1, hS _ _ _ _ _ _ _ _ _ q.2⟩
  · exact q.elim
theorem zPush_map (hP : ∀ i pc c s st sh h, P i pc c s ls st sh h Q → P2 i pc c s ls2 st sh h Q2) (v : zAV) (q : zPush  P i pc c s ls st sh h Q n v) : zPush  P2 i pc c s ls2 st sh h Q2 n v := by
  unfold zPush at q ⊢
  exact hP _ _ _ _ _ _ _ q
theorem zBin_map (hP : ∀ i pc c s st sh h, P i pc c s ls st sh h Q → P2 i pc c s ls2 st sh h Q2) (f : Int → Int → Int) (q : zBin  P i pc c s ls st sh h Q n f) : zBin  P2 i pc c s ls2 st sh h Q2 n f := by
  unfold zBin at q ⊢
  split at q <;> first | exact q.elim | exact hP _ _ _ _ _ _ _ q | exact ⟨q.1, hP _ _ _ _ _ _ _ q.2⟩ | exact ⟨q.1, q.2.1, hP _ _ _ _ _ _ _ q.2.2⟩ | exact ⟨q.1, q.2.1, q.2.2.1, hP _ _ _ _ _ _ _ q.2.2.2⟩ | exact ⟨q.1, q.2.1, q.2.2.1, q.2.2.2.1, hP _ _ _ _ _ _ _ q.2.2.2.2⟩ | exact ⟨q.1, q.2.1, q.2.2.1, q.2.2.2.1, q.2.2.2.2.1, hP _ _ _ _ _ _ _ q.2.2.2.2.2⟩ | exact ⟨q.1, q.2.1, q.2.2.1, q.2.2.2.1, q.2.2.2.2.1, q.2.2.2.2.2.1, hP _ _ _ _ _ _ _ q.2.2.2.2.2.2⟩ | exact ⟨q.1, q.2.1, q.2.2.1, q.2.2.2.1, q.2.2.2.2.1, q.2.2.2.2.2.1, q.2.2.2.2.2.2.1, hP _ _ _ _ _ _ _ q.2.2.2.2.2.2.2⟩ | exact ⟨fun z => hP _ _ _ _ _ _ _ (q.1 z), fun z => hP _ _ _ _ _ _ _ (q.2 z)⟩
theorem zDiv_map (hP : ∀ i pc c s st sh h, P i pc c s ls st sh h Q → P2 i pc c s ls2 st sh h Q2) (f : Int → Int → Int) (q : zDiv  P i pc c s ls st sh h Q n f) : zDiv  P2 i pc c s ls2 st sh h Q2 n f := by
  unfold zDiv at q ⊢
  split at q <;> first | exact q.elim | exact hP _ _ _ _ _ _ _ q | exact ⟨q.1, hP _ _ _ _ _ _ _ q.2⟩ | exact ⟨q.1, q.2.1, hP _ _ _ _ _ _ _ q.2.2⟩ | exact ⟨q.1, q.2.1, q.2.2.1, hP _ _ _ _ _ _ _ q.2.2.2⟩ | exact ⟨q.1, q.2.1, q.2.2.1, q.2.2.2.1, hP _ _ _ _ _ _ _ q.2.2.2.2⟩ | exact ⟨q.1, q.2.1, q.2.2.1, q.2.2.2.1, q.2.2.2.2.1, hP _ _ _ _ _ _ _ q.2.2.2.2.2⟩ | exact ⟨q.1, q.2.1, q.2.2.1, q.2.2.2.1, q.2.2.2.2.1, q.2.2.2.2.2.1, hP _ _ _ _ _ _ _ q.2.2.2.2.2.2⟩ | exact ⟨q.1, q.2.1, q.2.2.1, q.2.2.2.1, q.2.2.2.2.1, q.2.2.2.2.2.1, q.2.2.2.2.2.2.1, hP _ _ _ _ _ _ _ q.2.2.2.2.2.2.2⟩ | exact ⟨fun z => hP _ _ _ _ _ _ _ (q.1 z), fun z => hP _ _ _ _ _ _ _ (q.2 z)⟩
theorem zBinL_map (hP : ∀ i pc c s st sh h, P i pc c s ls st sh h Q → P2 i pc c s ls2 st sh h Q2) (f : Int → Int → Int) (q : zBinL  P i pc c s ls st sh h Q n f) : zBinL  P2 i pc c s ls2 st sh h Q2 n f := by
  unfold zBinL at q ⊢
  split at q <;> first | exact q.elim | exact hP _ _ _ _ _ _ _ q | exact ⟨q.1, hP _ _ _ _ _ _ _ q.2⟩ | exact ⟨q.1, q.2.1, hP _ _ _ _ _ _ _ q.2.2⟩ | exact ⟨q.1, q.2.1, q.2.2.1, hP _ _ _ _ _ _ _ q.2.2.2⟩ | exact ⟨q.1, q.2.1, q.2.2.1, q.2.2.2.1, hP _ _ _ _ _ _ _ q.2.2.2.2⟩ | exact ⟨q.1, q.2.1, q.2.2.1, q.2.2.2.1, q.2.2.2.2.1, hP _ _ _ _ _ _ _ q.2.2.2.2.2⟩ | exact ⟨q.1, q.2.1, q.2.2.1, q.2.2.2.1, q.2.2.2.2.1, q.2.2.2.2.2.1, hP _ _ _ _ _ _ _ q.2.2.2.2.2.2⟩ | exact ⟨q.1, q.2.1, q.2.2.1, q.2.2.2.1, q.2.2.2.2.1, q.2.2.2.2.2.1, q.2.2.2.2.2.2.1, hP _ _ _ _ _ _ _ q.2.2.2.2.2.2.2⟩ | exact ⟨fun z => hP _ _ _ _ _ _ _ (q.1 z), fun z => hP _ _ _ _ _ _ _ (q.2 z)⟩
theorem zShL_map (hP : ∀ i pc c s st sh h, P i pc c s ls st sh h Q → P2 i pc c s ls2 st sh h Q2) (f : Int → Int → Int) (q : zShL  P i pc c s ls st sh h Q n f) : zShL  P2 i pc c s ls2 st sh h Q2 n f := by
  unfold zShL at q ⊢
  split at q <;> first | exact q.elim | exact hP _ _ _ _ _ _ _ q | exact ⟨q.1, hP _ _ _ _ _ _ _ q.2⟩ | exact ⟨q.1, q.2.1, hP _ _ _ _ _ _ _ q.2.2⟩ | exact ⟨q.1, q.2.1, q.2.2.1, hP _ _ _ _ _ _ _ q.2.2.2⟩ | exact ⟨q.1, q.2.1, q.2.2.1, q.2.2.2.1, hP _ _ _ _ _ _ _ q.2.2.2.2⟩ | exact ⟨q.1, q.2.1, q.2.2.1, q.2.2.2.1, q.2.2.2.2.1, hP _ _ _ _ _ _ _ q.2.2.2.2.2⟩ | exact ⟨q.1, q.2.1, q.2.2.1, q.2.2.2.1, q.2.2.2.2.1, q.2.2.2.2.2.1, hP _ _ _ _ _ _ _ q.2.2.2.2.2.2⟩ | exact ⟨q.1, q.2.1, q.2.2.1, q.2.2.2.1, q.2.2.2.2.1, q.2.2.2.2.2.1, q.2.2.2.2.2.2.1, hP _ _ _ _ _ _ _ q.2.2.2.2.2.2.2⟩ | exact ⟨fun z => hP _ _ _ _ _ _ _ (q.1 z), fun z => hP _ _ _ _ _ _ _ (q.2 z)⟩
theorem zCmpL_map (hP : ∀ i pc c s st sh h, P i pc c s ls st sh h Q → P2 i pc c s ls2 st sh h Q2)  (q : zCmpL  P i pc c s ls st sh h Q n ) : zCmpL  P2 i pc c s ls2 st sh h Q2 n  := by
  unfold zCmpL at q ⊢
  split at q <;> first | exact q.elim | exact hP _ _ _ _ _ _ _ q | exact ⟨q.1, hP _ _ _ _ _ _ _ q.2⟩ | exact ⟨q.1, q.2.1, hP _ _ _ _ _ _ _ q.2.2⟩ | exact ⟨q.1, q.2.1, q.2.2.1, hP _ _ _ _ _ _ _ q.2.2.2⟩ | exact ⟨q.1, q.2.1, q.2.2.1, q.2.2.2.1, hP _ _ _ _ _ _ _ q.2.2.2.2⟩ | exact ⟨q.1, q.2.1, q.2.2.1, q.2.2.2.1, q.2.2.2.2.1, hP _ _ _ _ _ _ _ q.2.2.2.2.2⟩ | exact ⟨q.1, q.2.1, q.2.2.1, q.2.2.2.1, q.2.2.2.2.1, q.2.2.2.2.2.1, hP _ _ _ _ _ _ _ q.2.2.2.2.2.2⟩ | exact ⟨q.1, q.2.1, q.2.2.1, q.2.2.2.1, q.2.2.2.2.1, q.2.2.2.2.2.1, q.2.2.2.2.2.2.1, hP _ _ _ _ _ _ _ q.2.2.2.2.2.2.2⟩ | exact ⟨fun z => hP _ _ _ _ _ _ _ (q.1 z), fun z => hP _ _ _ _ _ _ _ (q.2 z)⟩
theorem zUn_map (hP : ∀ i pc c s st sh h, P i pc c s ls st sh h Q → P2 i pc c s ls2 st sh h Q2) (f : Int → Int) (q : zUn  P i pc c s ls st sh h Q n f) : zUn  P2 i pc c s ls2 st sh h Q2 n f := by
  unfold zUn at q ⊢
  split at q <;> first | exact q.elim | exact hP _ _ _ _ _ _ _ q | exact ⟨q.1, hP _ _ _ _ _ _ _ q.2⟩ | exact ⟨q.1, q.2.1, hP _ _ _ _ _ _ _ q.2.2⟩ | exact ⟨q.1, q.2.1, q.2.2.1, hP _ _ _ _ _ _ _ q.2.2.2⟩ | exact ⟨q.1, q.2.1, q.2.2.1, q.2.2.2.1, hP _ _ _ _ _ _ _ q.2.2.2.2⟩ | exact ⟨q.1, q.2.1, q.2.2.1, q.2.2.2.1, q.2.2.2.2.1, hP _ _ _ _ _ _ _ q.2.2.2.2.2⟩ | exact ⟨q.1, q.2.1, q.2.2.1, q.2.2.2.1, q.2.2.2.2.1, q.2.2.2.2.2.1, hP _ _ _ _ _ _ _ q.2.2.2.2.2.2⟩ | exact ⟨q.1, q.2.1, q.2.2.1, q.2.2.2.1, q.2.2.2.2.1, q.2.2.2.2.2.1, q.2.2.2.2.2.2.1, hP _ _ _ _ _ _ _ q.2.2.2.2.2.2.2⟩ | exact ⟨fun z => hP _ _ _ _ _ _ _ (q.1 z), fun z => hP _ _ _ _ _ _ _ (q.2 z)⟩
theorem zIL_map (hP : ∀ i pc c s st sh h, P i pc c s ls st sh h Q → P2 i pc c s ls2 st sh h Q2)  (q : zIL  P i pc c s ls st sh h Q n ) : zIL  P2 i pc c s ls2 st sh h Q2 n  := by
  unfold zIL at q ⊢
  split at q <;> first | exact q.elim | exact hP _ _ _ _ _ _ _ q | exact ⟨q.1, hP _ _ _ _ _ _ _ q.2⟩ | exact ⟨q.1, q.2.1, hP _ _ _ _ _ _ _ q.2.2⟩ | exact ⟨q.1, q.2.1, q.2.2.1, hP _ _ _ _ _ _ _ q.2.2.2⟩ | exact ⟨q.1, q.2.1, q.2.2.1, q.2.2.2.1, hP _ _ _ _ _ _ _ q.2.2.2.2⟩ | exact ⟨q.1, q.2.1, q.2.2.1, q.2.2.2.1, q.2.2.2.2.1, hP _ _ _ _ _ _ _ q.2.2.2.2.2⟩ | exact ⟨q.1, q.2.1, q.2.2.1, q.2.2.2.1, q.2.2.2.2.1, q.2.2.2.2.2.1, hP _ _ _ _ _ _ _ q.2.2.2.2.2.2⟩ | exact ⟨q.1, q.2.1, q.2.2.1, q.2.2.2.1, q.2.2.2.2.1, q.2.2.2.2.2.1, q.2.2.2.2.2.2.1, hP _ _ _ _ _ _ _ q.2.2.2.2.2.2.2⟩ | exact ⟨fun z => hP _ _ _ _ _ _ _ (q.1 z), fun z => hP _ _ _ _ _ _ _ (q.2 z)⟩
theorem zLI_map (hP : ∀ i pc c s st sh h, P i pc c s ls st sh h Q → P2 i pc c s ls2 st sh h Q2)  (q : zLI  P i pc c s ls st sh h Q n ) : zLI  P2 i pc c s ls2 st sh h Q2 n  := by
  unfold zLI at q ⊢
  split at q <;> first | exact q.elim | exact hP _ _ _ _ _ _ _ q | exact ⟨q.1, hP _ _ _ _ _ _ _ q.2⟩ | exact ⟨q.1, q.2.1, hP _ _ _ _ _ _ _ q.2.2⟩ | exact ⟨q.1, q.2.1, q.2.2.1, hP _ _ _ _ _ _ _ q.2.2.2⟩ | exact ⟨q.1, q.2.1, q.2.2.1, q.2.2.2.1, hP _ _ _ _ _ _ _ q.2.2.2.2⟩ | exact ⟨q.1, q.2.1, q.2.2.1, q.2.2.2.1, q.2.2.2.2.1, hP _ _ _ _ _ _ _ q.2.2.2.2.2⟩ | exact ⟨q.1, q.2.1, q.2.2.1, q.2.2.2.1, q.2.2.2.2.1, q.2.2.2.2.2.1, hP _ _ _ _ _ _ _ q.2.2.2.2.2.2⟩ | exact ⟨q.1, q.2.1, q.2.2.1, q.2.2.2.1, q.2.2.2.2.1, q.2.2.2.2.2.1, q.2.2.2.2.2.2.1, hP _ _ _ _ _ _ _ q.2.2.2.2.2.2.2⟩ | exact ⟨fun z => hP _ _ _ _ _ _ _ (q.1 z), fun z => hP _ _ _ _ _ _ _ (q.2 z)⟩
theorem zInc_map (hL : ∀ k v, ls.getD k none = some v → ls2.getD k none = some v) (hn : ls.length = ls2.length) (hS : ∀ k v i pc c s st sh h, P i pc c s (zst1 ls k v) st sh h Q → P2 i pc c s (zst1 ls2 k v) st sh h Q2) (k : Nat) (d : Int) (q : zInc  P i pc c s ls st sh h Q n k d) : zInc  P2 i pc c s ls2 st sh h Q2 n k d := by
  unfold zInc at q ⊢
  split at q
  · rename_i x ex; rw [hL _ _ ex]; exact ⟨hn ▸ q.1, hS _ _ _ _ _ _ _ _ _ q.2⟩
  · exact q.elim
theorem zIf_map (hP : ∀ i pc c s st sh h, P i pc c s ls st sh h Q → P2 i pc c s ls2 st sh h Q2) (q9 : Jvm.ClassFile.Cond) (q : zIf  P i pc c s ls st sh h Q n r1 q9) : zIf  P2 i pc c s ls2 st sh h Q2 n r1 q9 := by
  unfold zIf at q ⊢
  split at q <;> first | exact q.elim | exact hP _ _ _ _ _ _ _ q | exact ⟨q.1, hP _ _ _ _ _ _ _ q.2⟩ | exact ⟨q.1, q.2.1, hP _ _ _ _ _ _ _ q.2.2⟩ | exact ⟨q.1, q.2.1, q.2.2.1, hP _ _ _ _ _ _ _ q.2.2.2⟩ | exact ⟨q.1, q.2.1, q.2.2.1, q.2.2.2.1, hP _ _ _ _ _ _ _ q.2.2.2.2⟩ | exact ⟨q.1, q.2.1, q.2.2.1, q.2.2.2.1, q.2.2.2.2.1, hP _ _ _ _ _ _ _ q.2.2.2.2.2⟩ | exact ⟨q.1, q.2.1, q.2.2.1, q.2.2.2.1, q.2.2.2.2.1, q.2.2.2.2.2.1, hP _ _ _ _ _ _ _ q.2.2.2.2.2.2⟩ | exact ⟨q.1, q.2.1, q.2.2.1, q.2.2.2.1, q.2.2.2.2.1, q.2.2.2.2.2.1, q.2.2.2.2.2.2.1, hP _ _ _ _ _ _ _ q.2.2.2.2.2.2.2⟩ | exact ⟨fun z => hP _ _ _ _ _ _ _ (q.1 z), fun z => hP _ _ _ _ _ _ _ (q.2 z)⟩
theorem zIf2_map (hP : ∀ i pc c s st sh h, P i pc c s ls st sh h Q → P2 i pc c s ls2 st sh h Q2) (q9 : Jvm.ClassFile.Cond) (q : zIf2  P i pc c s ls st sh h Q n r1 q9) : zIf2  P2 i pc c s ls2 st sh h Q2 n r1 q9 := by
  unfold zIf2 at q ⊢
  split at q <;> first | exact q.elim | exact hP _ _ _ _ _ _ _ q | exact ⟨q.1, hP _ _ _ _ _ _ _ q.2⟩ | exact ⟨q.1, q.2.1, hP _ _ _ _ _ _ _ q.2.2⟩ | exact ⟨q.1, q.2.1, q.2.2.1, hP _ _ _ _ _ _ _ q.2.2.2⟩ | exact ⟨q.1, q.2.1, q.2.2.1, q.2.2.2.1, hP _ _ _ _ _ _ _ q.2.2.2.2⟩ | exact ⟨q.1, q.2.1, q.2.2.1, q.2.2.2.1, q.2.2.2.2.1, hP _ _ _ _ _ _ _ q.2.2.2.2.2⟩ | exact ⟨q.1, q.2.1, q.2.2.1, q.2.2.2.1, q.2.2.2.2.1, q.2.2.2.2.2.1, hP _ _ _ _ _ _ _ q.2.2.2.2.2.2⟩ | exact ⟨q.1, q.2.1, q.2.2.1, q.2.2.2.1, q.2.2.2.2.1, q.2.2.2.2.2.1, q.2.2.2.2.2.2.1, hP _ _ _ _ _ _ _ q.2.2.2.2.2.2.2⟩ | exact ⟨fun z => hP _ _ _ _ _ _ _ (q.1 z), fun z => hP _ _ _ _ _ _ _ (q.2 z)⟩
theorem zIfA_map (hP : ∀ i pc c s st sh h, P i pc c s ls st sh h Q → P2 i pc c s ls2 st sh h Q2) (q9 : ACond) (q : zIfA  P i pc c s ls st sh h Q n r1 q9) : zIfA  P2 i pc c s ls2 st sh h Q2 n r1 q9 := by
  unfold zIfA at q ⊢
  split at q
  · obtain ⟨a1, a2, q⟩ := q
    refine ⟨a1, a2, ?_⟩
    split at q <;> exact ⟨fun z => hP _ _ _ _ _ _ _ (q.1 z), fun z => hP _ _ _ _ _ _ _ (q.2 z)⟩
  · exact q.elim
theorem zIfN_map (hP : ∀ i pc c s st sh h, P i pc c s ls st sh h Q → P2 i pc c s ls2 st sh h Q2)  (q : zIfN  P i pc c s ls st sh h Q n r1 ) : zIfN  P2 i pc c s ls2 st sh h Q2 n r1  := by
  unfold zIfN at q ⊢
  split at q <;> first | exact q.elim | exact hP _ _ _ _ _ _ _ q | exact ⟨q.1, hP _ _ _ _ _ _ _ q.2⟩ | exact ⟨q.1, q.2.1, hP _ _ _ _ _ _ _ q.2.2⟩ | exact ⟨q.1, q.2.1, q.2.2.1, hP _ _ _ _ _ _ _ q.2.2.2⟩ | exact ⟨q.1, q.2.1, q.2.2.1, q.2.2.2.1, hP _ _ _ _ _ _ _ q.2.2.2.2⟩ | exact ⟨q.1, q.2.1, q.2.2.1, q.2.2.2.1, q.2.2.2.2.1, hP _ _ _ _ _ _ _ q.2.2.2.2.2⟩ | exact ⟨q.1, q.2.1, q.2.2.1, q.2.2.2.1, q.2.2.2.2.1, q.2.2.2.2.2.1, hP _ _ _ _ _ _ _ q.2.2.2.2.2.2⟩ | exact ⟨q.1, q.2.1, q.2.2.1, q.2.2.2.1, q.2.2.2.2.1, q.2.2.2.2.2.1, q.2.2.2.2.2.2.1, hP _ _ _ _ _ _ _ q.2.2.2.2.2.2.2⟩ | exact ⟨fun z => hP _ _ _ _ _ _ _ (q.1 z), fun z => hP _ _ _ _ _ _ _ (q.2 z)⟩
theorem zIfNN_map (hP : ∀ i pc c s st sh h, P i pc c s ls st sh h Q → P2 i pc c s ls2 st sh h Q2)  (q : zIfNN  P i pc c s ls st sh h Q n r1 ) : zIfNN  P2 i pc c s ls2 st sh h Q2 n r1  := by
  unfold zIfNN at q ⊢
  split at q <;> first | exact q.elim | exact hP _ _ _ _ _ _ _ q | exact ⟨q.1, hP _ _ _ _ _ _ _ q.2⟩ | exact ⟨q.1, q.2.1, hP _ _ _ _ _ _ _ q.2.2⟩ | exact ⟨q.1, q.2.1, q.2.2.1, hP _ _ _ _ _ _ _ q.2.2.2⟩ | exact ⟨q.1, q.2.1, q.2.2.1, q.2.2.2.1, hP _ _ _ _ _ _ _ q.2.2.2.2⟩ | exact ⟨q.1, q.2.1, q.2.2.1, q.2.2.2.1, q.2.2.2.2.1, hP _ _ _ _ _ _ _ q.2.2.2.2.2⟩ | exact ⟨q.1, q.2.1, q.2.2.1, q.2.2.2.1, q.2.2.2.2.1, q.2.2.2.2.2.1, hP _ _ _ _ _ _ _ q.2.2.2.2.2.2⟩ | exact ⟨q.1, q.2.1, q.2.2.1, q.2.2.2.1, q.2.2.2.2.1, q.2.2.2.2.2.1, q.2.2.2.2.2.2.1, hP _ _ _ _ _ _ _ q.2.2.2.2.2.2.2⟩ | exact ⟨fun z => hP _ _ _ _ _ _ _ (q.1 z), fun z => hP _ _ _ _ _ _ _ (q.2 z)⟩
theorem zTab_map (hP : ∀ i pc c s st sh h, P i pc c s ls st sh h Q → P2 i pc c s ls2 st sh h Q2) (d lo hi : Int) (os : Array Int) (q : zTab  P i pc c s ls st sh h Q  d lo hi os) : zTab  P2 i pc c s ls2 st sh h Q2  d lo hi os := by
  unfold zTab at q ⊢
  split at q <;> first | exact q.elim | (refine ⟨fun z => ⟨(q.1 z).1, hP _ _ _ _ _ _ _ (q.1 z).2⟩, fun a b => ?_⟩; obtain ⟨o, e1, e2, e3⟩ := q.2 a b; exact ⟨o, e1, e2, hP _ _ _ _ _ _ _ e3⟩)
theorem zLook_map (hP : ∀ i pc c s st sh h, P i pc c s ls st sh h Q → P2 i pc c s ls2 st sh h Q2) (d : Int) (ps : Array (Int × Int)) (q : zLook  P i pc c s ls st sh h Q  d ps) : zLook  P2 i pc c s ls2 st sh h Q2  d ps := by
  unfold zLook at q ⊢
  split at q <;> first | exact q.elim | exact hP _ _ _ _ _ _ _ q | exact ⟨q.1, hP _ _ _ _ _ _ _ q.2⟩ | exact ⟨q.1, q.2.1, hP _ _ _ _ _ _ _ q.2.2⟩ | exact ⟨q.1, q.2.1, q.2.2.1, hP _ _ _ _ _ _ _ q.2.2.2⟩ | exact ⟨q.1, q.2.1, q.2.2.1, q.2.2.2.1, hP _ _ _ _ _ _ _ q.2.2.2.2⟩ | exact ⟨q.1, q.2.1, q.2.2.1, q.2.2.2.1, q.2.2.2.2.1, hP _ _ _ _ _ _ _ q.2.2.2.2.2⟩ | exact ⟨q.1, q.2.1, q.2.2.1, q.2.2.2.1, q.2.2.2.2.1, q.2.2.2.2.2.1, hP _ _ _ _ _ _ _ q.2.2.2.2.2.2⟩ | exact ⟨q.1, q.2.1, q.2.2.1, q.2.2.2.1, q.2.2.2.2.1, q.2.2.2.2.2.1, q.2.2.2.2.2.2.1, hP _ _ _ _ _ _ _ q.2.2.2.2.2.2.2⟩ | exact ⟨fun z => hP _ _ _ _ _ _ _ (q.1 z), fun z => hP _ _ _ _ _ _ _ (q.2 z)⟩
theorem zALd_map (hP : ∀ i pc c s st sh h, P i pc c s ls st sh h Q → P2 i pc c s ls2 st sh h Q2) (t1 t2 : Nat) (q : zALd X P i pc c s ls st sh h Q n t1 t2) : zALd X P2 i pc c s ls2 st sh h Q2 n t1 t2 := by
  unfold zALd at q ⊢
  split at q <;> first | exact q.elim | exact hP _ _ _ _ _ _ _ q | exact ⟨q.1, hP _ _ _ _ _ _ _ q.2⟩ | exact ⟨q.1, q.2.1, hP _ _ _ _ _ _ _ q.2.2⟩ | exact ⟨q.1, q.2.1, q.2.2.1, hP _ _ _ _ _ _ _ q.2.2.2⟩ | exact ⟨q.1, q.2.1, q.2.2.1, q.2.2.2.1, hP _ _ _ _ _ _ _ q.2.2.2.2⟩ | exact ⟨q.1, q.2.1, q.2.2.1, q.2.2.2.1, q.2.2.2.2.1, hP _ _ _ _ _ _ _ q.2.2.2.2.2⟩ | exact ⟨q.1, q.2.1, q.2.2.1, q.2.2.2.1, q.2.2.2.2.1, q.2.2.2.2.2.1, hP _ _ _ _ _ _ _ q.2.2.2.2.2.2⟩ | exact ⟨q.1, q.2.1, q.2.2.1, q.2.2.2.1, q.2.2.2.2.1, q.2.2.2.2.2.1, q.2.2.2.2.2.2.1, hP _ _ _ _ _ _ _ q.2.2.2.2.2.2.2⟩ | exact ⟨fun z => hP _ _ _ _ _ _ _ (q.1 z), fun z => hP _ _ _ _ _ _ _ (q.2 z)⟩
theorem zALdL_map (hP : ∀ i pc c s st sh h, P i pc c s ls st sh h Q → P2 i pc c s ls2 st sh h Q2)  (q : zALdL X P i pc c s ls st sh h Q n ) : zALdL X P2 i pc c s ls2 st sh h Q2 n  := by
  unfold zALdL at q ⊢
  split at q <;> first | exact q.elim | exact hP _ _ _ _ _ _ _ q | exact ⟨q.1, hP _ _ _ _ _ _ _ q.2⟩ | exact ⟨q.1, q.2.1, hP _ _ _ _ _ _ _ q.2.2⟩ | exact ⟨q.1, q.2.1, q.2.2.1, hP _ _ _ _ _ _ _ q.2.2.2⟩ | exact ⟨q.1, q.2.1, q.2.2.1, q.2.2.2.1, hP _ _ _ _ _ _ _ q.2.2.2.2⟩ | exact ⟨q.1, q.2.1, q.2.2.1, q.2.2.2.1, q.2.2.2.2.1, hP _ _ _ _ _ _ _ q.2.2.2.2.2⟩ | exact ⟨q.1, q.2.1, q.2.2.1, q.2.2.2.1, q.2.2.2.2.1, q.2.2.2.2.2.1, hP _ _ _ _ _ _ _ q.2.2.2.2.2.2⟩ | exact ⟨q.1, q.2.1, q.2.2.1, q.2.2.2.1, q.2.2.2.2.1, q.2.2.2.2.2.1, q.2.2.2.2.2.2.1, hP _ _ _ _ _ _ _ q.2.2.2.2.2.2.2⟩ | exact ⟨fun z => hP _ _ _ _ _ _ _ (q.1 z), fun z => hP _ _ _ _ _ _ _ (q.2 z)⟩
theorem zALdR_map (hP : ∀ i pc c s st sh h, P i pc c s ls st sh h Q → P2 i pc c s ls2 st sh h Q2)  (q : zALdR X P i pc c s ls st sh h Q n ) : zALdR X P2 i pc c s ls2 st sh h Q2 n  := by
  unfold zALdR at q ⊢
  split at q <;> first | exact q.elim | (obtain ⟨a1, a2, a3, a4, a5⟩ := q; refine ⟨a1, a2, a3, a4, ?_⟩; rcases a5 with ⟨y, e1, e2⟩ | ⟨e1, e2⟩; exact Or.inl ⟨y, e1, hP _ _ _ _ _ _ _ e2⟩; exact Or.inr ⟨e1, hP _ _ _ _ _ _ _ e2⟩)
theorem zASt_map (hP : ∀ i pc c s st sh h, P i pc c s ls st sh h Q → P2 i pc c s ls2 st sh h Q2) (t : Nat) (f : Int → Int) (q : zASt X P i pc c s ls st sh h Q n t f) : zASt X P2 i pc c s ls2 st sh h Q2 n t f := by
  unfold zASt at q ⊢
  split at q <;> first | exact q.elim | exact hP _ _ _ _ _ _ _ q | exact ⟨q.1, hP _ _ _ _ _ _ _ q.2⟩ | exact ⟨q.1, q.2.1, hP _ _ _ _ _ _ _ q.2.2⟩ | exact ⟨q.1, q.2.1, q.2.2.1, hP _ _ _ _ _ _ _ q.2.2.2⟩ | exact ⟨q.1, q.2.1, q.2.2.1, q.2.2.2.1, hP _ _ _ _ _ _ _ q.2.2.2.2⟩ | exact ⟨q.1, q.2.1, q.2.2.1, q.2.2.2.1, q.2.2.2.2.1, hP _ _ _ _ _ _ _ q.2.2.2.2.2⟩ | exact ⟨q.1, q.2.1, q.2.2.1, q.2.2.2.1, q.2.2.2.2.1, q.2.2.2.2.2.1, hP _ _ _ _ _ _ _ q.2.2.2.2.2.2⟩ | exact ⟨q.1, q.2.1, q.2.2.1, q.2.2.2.1, q.2.2.2.2.1, q.2.2.2.2.2.1, q.2.2.2.2.2.2.1, hP _ _ _ _ _ _ _ q.2.2.2.2.2.2.2⟩ | exact ⟨fun z => hP _ _ _ _ _ _ _ (q.1 z), fun z => hP _ _ _ _ _ _ _ (q.2 z)⟩
theorem zAStB_map (hP : ∀ i pc c s st sh h, P i pc c s ls st sh h Q → P2 i pc c s ls2 st sh h Q2)  (q : zAStB X P i pc c s ls st sh h Q n ) : zAStB X P2 i pc c s ls2 st sh h Q2 n  := by
  unfold zAStB at q ⊢
  split at q <;> first | exact q.elim | (obtain ⟨a1, a2, a3, a4⟩ := q; refine ⟨a1, a2, a3, ?_⟩; rcases a4 with ⟨e1, e2⟩ | ⟨e1, e3, e2⟩; exact Or.inl ⟨e1, hP _ _ _ _ _ _ _ e2⟩; exact Or.inr ⟨e1, e3, hP _ _ _ _ _ _ _ e2⟩)
theorem zAStL_map (hP : ∀ i pc c s st sh h, P i pc c s ls st sh h Q → P2 i pc c s ls2 st sh h Q2)  (q : zAStL X P i pc c s ls st sh h Q n ) : zAStL X P2 i pc c s ls2 st sh h Q2 n  := by
  unfold zAStL at q ⊢
  split at q <;> first | exact q.elim | exact hP _ _ _ _ _ _ _ q | exact ⟨q.1, hP _ _ _ _ _ _ _ q.2⟩ | exact ⟨q.1, q.2.1, hP _ _ _ _ _ _ _ q.2.2⟩ | exact ⟨q.1, q.2.1, q.2.2.1, hP _ _ _ _ _ _ _ q.2.2.2⟩ | exact ⟨q.1, q.2.1, q.2.2.1, q.2.2.2.1, hP _ _ _ _ _ _ _ q.2.2.2.2⟩ | exact ⟨q.1, q.2.1, q.2.2.1, q.2.2.2.1, q.2.2.2.2.1, hP _ _ _ _ _ _ _ q.2.2.2.2.2⟩ | exact ⟨q.1, q.2.1, q.2.2.1, q.2.2.2.1, q.2.2.2.2.1, q.2.2.2.2.2.1, hP _ _ _ _ _ _ _ q.2.2.2.2.2.2⟩ | exact ⟨q.1, q.2.1, q.2.2.1, q.2.2.2.1, q.2.2.2.2.1, q.2.2.2.2.2.1, q.2.2.2.2.2.2.1, hP _ _ _ _ _ _ _ q.2.2.2.2.2.2.2⟩ | exact ⟨fun z => hP _ _ _ _ _ _ _ (q.1 z), fun z => hP _ _ _ _ _ _ _ (q.2 z)⟩
theorem zAStR_map (hP : ∀ i pc c s st sh h, P i pc c s ls st sh h Q → P2 i pc c s ls2 st sh h Q2)  (q : zAStR X P i pc c s ls st sh h Q n ) : zAStR X P2 i pc c s ls2 st sh h Q2 n  := by
  unfold zAStR at q ⊢
  split at q <;> first | exact q.elim | exact hP _ _ _ _ _ _ _ q | exact ⟨q.1, hP _ _ _ _ _ _ _ q.2⟩ | exact ⟨q.1, q.2.1, hP _ _ _ _ _ _ _ q.2.2⟩ | exact ⟨q.1, q.2.1, q.2.2.1, hP _ _ _ _ _ _ _ q.2.2.2⟩ | exact ⟨q.1, q.2.1, q.2.2.1, q.2.2.2.1, hP _ _ _ _ _ _ _ q.2.2.2.2⟩ | exact ⟨q.1, q.2.1, q.2.2.1, q.2.2.2.1, q.2.2.2.2.1, hP _ _ _ _ _ _ _ q.2.2.2.2.2⟩ | exact ⟨q.1, q.2.1, q.2.2.1, q.2.2.2.1, q.2.2.2.2.1, q.2.2.2.2.2.1, hP _ _ _ _ _ _ _ q.2.2.2.2.2.2⟩ | exact ⟨q.1, q.2.1, q.2.2.1, q.2.2.2.1, q.2.2.2.2.1, q.2.2.2.2.2.1, q.2.2.2.2.2.2.1, hP _ _ _ _ _ _ _ q.2.2.2.2.2.2.2⟩ | exact ⟨fun z => hP _ _ _ _ _ _ _ (q.1 z), fun z => hP _ _ _ _ _ _ _ (q.2 z)⟩
theorem zLen_map (hP : ∀ i pc c s st sh h, P i pc c s ls st sh h Q → P2 i pc c s ls2 st sh h Q2)  (q : zLen X P i pc c s ls st sh h Q n ) : zLen X P2 i pc c s ls2 st sh h Q2 n  := by
  unfold zLen at q ⊢
  split at q <;> first | exact q.elim | exact hP _ _ _ _ _ _ _ q | exact ⟨q.1, hP _ _ _ _ _ _ _ q.2⟩ | exact ⟨q.1, q.2.1, hP _ _ _ _ _ _ _ q.2.2⟩ | exact ⟨q.1, q.2.1, q.2.2.1, hP _ _ _ _ _ _ _ q.2.2.2⟩ | exact ⟨q.1, q.2.1, q.2.2.1, q.2.2.2.1, hP _ _ _ _ _ _ _ q.2.2.2.2⟩ | exact ⟨q.1, q.2.1, q.2.2.1, q.2.2.2.1, q.2.2.2.2.1, hP _ _ _ _ _ _ _ q.2.2.2.2.2⟩ | exact ⟨q.1, q.2.1, q.2.2.1, q.2.2.2.1, q.2.2.2.2.1, q.2.2.2.2.2.1, hP _ _ _ _ _ _ _ q.2.2.2.2.2.2⟩ | exact ⟨q.1, q.2.1, q.2.2.1, q.2.2.2.1, q.2.2.2.2.1, q.2.2.2.2.2.1, q.2.2.2.2.2.2.1, hP _ _ _ _ _ _ _ q.2.2.2.2.2.2.2⟩ | exact ⟨fun z => hP _ _ _ _ _ _ _ (q.1 z), fun z => hP _ _ _ _ _ _ _ (q.2 z)⟩
theorem zGet_map (hP : ∀ i pc c s st sh h, P i pc c s ls st sh h Q → P2 i pc c s ls2 st sh h Q2)  (q : zGet X P i pc c s ls st sh h Q n r1 r2 r3 ) : zGet X P2 i pc c s ls2 st sh h Q2 n r1 r2 r3  := by
  unfold zGet at q ⊢
  split at q
  · obtain ⟨a1, a2⟩ := q
    refine ⟨a1, ?_⟩
    split at a2
    · exact hP _ _ _ _ _ _ _ a2
    · exact hP _ _ _ _ _ _ _ a2
    · rcases a2 with ⟨y, e1, e2⟩ | ⟨e1, e2⟩
      · exact Or.inl ⟨y, e1, hP _ _ _ _ _ _ _ e2⟩
      · exact Or.inr ⟨e1, hP _ _ _ _ _ _ _ e2⟩
  · exact q.elim
theorem zPut_map (hP : ∀ i pc c s st sh h, P i pc c s ls st sh h Q → P2 i pc c s ls2 st sh h Q2)  (q : zPut X P i pc c s ls st sh h Q n r1 r2 r3 ) : zPut X P2 i pc c s ls2 st sh h Q2 n r1 r2 r3  := by
  unfold zPut at q ⊢
  split at q
  · obtain ⟨a0, a1, a2⟩ := q
    refine ⟨a0, a1, ?_⟩
    split at a2 <;> first | exact a2.elim | exact hP _ _ _ _ _ _ _ a2
  · exact q.elim
theorem zNew_map (hP : ∀ i pc c s st sh h, P i pc c s ls st sh h Q → P2 i pc c s ls2 st sh h Q2)  (q : zNew  P i pc c s ls st sh h Q n r1 r2 ) : zNew  P2 i pc c s ls2 st sh h Q2 n r1 r2  := by
  unfold zNew at q ⊢
  exact ⟨q.1, q.2.1, q.2.2.1, hP _ _ _ _ _ _ _ q.2.2.2⟩
theorem zNewA_map (hP : ∀ i pc c s st sh h, P i pc c s ls st sh h Q → P2 i pc c s ls2 st sh h Q2) (t : Nat) (x : Int) (q : zNewA  P i pc c s ls st sh h Q n t x) : zNewA  P2 i pc c s ls2 st sh h Q2 n t x := by
  unfold zNewA at q ⊢
  split at q <;> first | exact q.elim | exact hP _ _ _ _ _ _ _ q | exact ⟨q.1, hP _ _ _ _ _ _ _ q.2⟩ | exact ⟨q.1, q.2.1, hP _ _ _ _ _ _ _ q.2.2⟩ | exact ⟨q.1, q.2.1, q.2.2.1, hP _ _ _ _ _ _ _ q.2.2.2⟩ | exact ⟨q.1, q.2.1, q.2.2.1, q.2.2.2.1, hP _ _ _ _ _ _ _ q.2.2.2.2⟩ | exact ⟨q.1, q.2.1, q.2.2.1, q.2.2.2.1, q.2.2.2.2.1, hP _ _ _ _ _ _ _ q.2.2.2.2.2⟩ | exact ⟨q.1, q.2.1, q.2.2.1, q.2.2.2.1, q.2.2.2.2.1, q.2.2.2.2.2.1, hP _ _ _ _ _ _ _ q.2.2.2.2.2.2⟩ | exact ⟨q.1, q.2.1, q.2.2.1, q.2.2.2.1, q.2.2.2.2.1, q.2.2.2.2.2.1, q.2.2.2.2.2.2.1, hP _ _ _ _ _ _ _ q.2.2.2.2.2.2.2⟩ | exact ⟨fun z => hP _ _ _ _ _ _ _ (q.1 z), fun z => hP _ _ _ _ _ _ _ (q.2 z)⟩
theorem zCall_map (hP : ∀ i pc c s st sh h, P i pc c s ls st sh h Q → P2 i pc c s ls2 st sh h Q2) (hC : ∀ i pc c s l st sh h R, P i pc c s l st sh h R → P2 i pc c s l st sh h R) (ok : Prop) (q : zCall  P i pc c s ls st sh h Q r1 r2 ok) : zCall  P2 i pc c s ls2 st sh h Q2 r1 r2 ok := by
  unfold zCall at q ⊢
  obtain ⟨a1, a2, a3, a4, R, a6, a7⟩ := q
  exact ⟨a1, a2, a3, a4, R, hC _ _ _ _ _ _ _ _ _ a6, fun v sh' h' z => hP _ _ _ _ _ _ _ (a7 v sh' h' z)⟩
theorem zObj_map (hP : ∀ i pc c s st sh h, P i pc c s ls st sh h Q → P2 i pc c s ls2 st sh h Q2)  (q : zObj  P i pc c s ls st sh h Q n ) : zObj  P2 i pc c s ls2 st sh h Q2 n  := by
  unfold zObj at q ⊢
  split at q <;> first | exact q.elim | exact hP _ _ _ _ _ _ _ q | exact ⟨q.1, hP _ _ _ _ _ _ _ q.2⟩ | exact ⟨q.1, q.2.1, hP _ _ _ _ _ _ _ q.2.2⟩ | exact ⟨q.1, q.2.1, q.2.2.1, hP _ _ _ _ _ _ _ q.2.2.2⟩ | exact ⟨q.1, q.2.1, q.2.2.1, q.2.2.2.1, hP _ _ _ _ _ _ _ q.2.2.2.2⟩ | exact ⟨q.1, q.2.1, q.2.2.1, q.2.2.2.1, q.2.2.2.2.1, hP _ _ _ _ _ _ _ q.2.2.2.2.2⟩ | exact ⟨q.1, q.2.1, q.2.2.1, q.2.2.2.1, q.2.2.2.2.1, q.2.2.2.2.2.1, hP _ _ _ _ _ _ _ q.2.2.2.2.2.2⟩ | exact ⟨q.1, q.2.1, q.2.2.1, q.2.2.2.1, q.2.2.2.2.1, q.2.2.2.2.2.1, q.2.2.2.2.2.2.1, hP _ _ _ _ _ _ _ q.2.2.2.2.2.2.2⟩ | exact ⟨fun z => hP _ _ _ _ _ _ _ (q.1 z), fun z => hP _ _ _ _ _ _ _ (q.2 z)⟩
theorem zDup_map (hP : ∀ i pc c s st sh h, P i pc c s ls st sh h Q → P2 i pc c s ls2 st sh h Q2)  (q : zDup  P i pc c s ls st sh h Q n ) : zDup  P2 i pc c s ls2 st sh h Q2 n  := by
  unfold zDup at q ⊢
  split at q <;> first | exact q.elim | exact hP _ _ _ _ _ _ _ q | exact ⟨q.1, hP _ _ _ _ _ _ _ q.2⟩ | exact ⟨q.1, q.2.1, hP _ _ _ _ _ _ _ q.2.2⟩ | exact ⟨q.1, q.2.1, q.2.2.1, hP _ _ _ _ _ _ _ q.2.2.2⟩ | exact ⟨q.1, q.2.1, q.2.2.1, q.2.2.2.1, hP _ _ _ _ _ _ _ q.2.2.2.2⟩ | exact ⟨q.1, q.2.1, q.2.2.1, q.2.2.2.1, q.2.2.2.2.1, hP _ _ _ _ _ _ _ q.2.2.2.2.2⟩ | exact ⟨q.1, q.2.1, q.2.2.1, q.2.2.2.1, q.2.2.2.2.1, q.2.2.2.2.2.1, hP _ _ _ _ _ _ _ q.2.2.2.2.2.2⟩ | exact ⟨q.1, q.2.1, q.2.2.1, q.2.2.2.1, q.2.2.2.2.1, q.2.2.2.2.2.1, q.2.2.2.2.2.2.1, hP _ _ _ _ _ _ _ q.2.2.2.2.2.2.2⟩ | exact ⟨fun z => hP _ _ _ _ _ _ _ (q.1 z), fun z => hP _ _ _ _ _ _ _ (q.2 z)⟩
theorem zDup2_map (hP : ∀ i pc c s st sh h, P i pc c s ls st sh h Q → P2 i pc c s ls2 st sh h Q2)  (q : zDup2  P i pc c s ls st sh h Q n ) : zDup2  P2 i pc c s ls2 st sh h Q2 n  := by
  unfold zDup2 at q ⊢
  split at q <;> first | exact q.elim | exact hP _ _ _ _ _ _ _ q | exact ⟨q.1, hP _ _ _ _ _ _ _ q.2⟩ | exact ⟨q.1, q.2.1, hP _ _ _ _ _ _ _ q.2.2⟩ | exact ⟨q.1, q.2.1, q.2.2.1, hP _ _ _ _ _ _ _ q.2.2.2⟩ | exact ⟨q.1, q.2.1, q.2.2.1, q.2.2.2.1, hP _ _ _ _ _ _ _ q.2.2.2.2⟩ | exact ⟨q.1, q.2.1, q.2.2.1, q.2.2.2.1, q.2.2.2.2.1, hP _ _ _ _ _ _ _ q.2.2.2.2.2⟩ | exact ⟨q.1, q.2.1, q.2.2.1, q.2.2.2.1, q.2.2.2.2.1, q.2.2.2.2.2.1, hP _ _ _ _ _ _ _ q.2.2.2.2.2.2⟩ | exact ⟨q.1, q.2.1, q.2.2.1, q.2.2.2.1, q.2.2.2.2.1, q.2.2.2.2.2.1, q.2.2.2.2.2.2.1, hP _ _ _ _ _ _ _ q.2.2.2.2.2.2.2⟩ | exact ⟨fun z => hP _ _ _ _ _ _ _ (q.1 z), fun z => hP _ _ _ _ _ _ _ (q.2 z)⟩
theorem zPop_map (hP : ∀ i pc c s st sh h, P i pc c s ls st sh h Q → P2 i pc c s ls2 st sh h Q2)  (q : zPop  P i pc c s ls st sh h Q n ) : zPop  P2 i pc c s ls2 st sh h Q2 n  := by
  unfold zPop at q ⊢
  split at q <;> first | exact q.elim | exact hP _ _ _ _ _ _ _ q | exact ⟨q.1, hP _ _ _ _ _ _ _ q.2⟩ | exact ⟨q.1, q.2.1, hP _ _ _ _ _ _ _ q.2.2⟩ | exact ⟨q.1, q.2.1, q.2.2.1, hP _ _ _ _ _ _ _ q.2.2.2⟩ | exact ⟨q.1, q.2.1, q.2.2.1, q.2.2.2.1, hP _ _ _ _ _ _ _ q.2.2.2.2⟩ | exact ⟨q.1, q.2.1, q.2.2.1, q.2.2.2.1, q.2.2.2.2.1, hP _ _ _ _ _ _ _ q.2.2.2.2.2⟩ | exact ⟨q.1, q.2.1, q.2.2.1, q.2.2.2.1, q.2.2.2.2.1, q.2.2.2.2.2.1, hP _ _ _ _ _ _ _ q.2.2.2.2.2.2⟩ | exact ⟨q.1, q.2.1, q.2.2.1, q.2.2.2.1, q.2.2.2.2.1, q.2.2.2.2.2.1, q.2.2.2.2.2.2.1, hP _ _ _ _ _ _ _ q.2.2.2.2.2.2.2⟩ | exact ⟨fun z => hP _ _ _ _ _ _ _ (q.1 z), fun z => hP _ _ _ _ _ _ _ (q.2 z)⟩
theorem zMath_map (hP : ∀ i pc c s st sh h, P i pc c s ls st sh h Q → P2 i pc c s ls2 st sh h Q2) (q : zMath P i pc c s ls st sh h Q r1) : zMath P2 i pc c s ls2 st sh h Q2 r1 := by
  unfold zMath at q ⊢
  cases h9001 : Nat.beq r1 9001 with
  | true =>
    rw [h9001, cond_true] at q; rw [cond_true]
    split at q <;> first | exact q.elim | exact ⟨q.1, hP _ _ _ _ _ _ _ q.2⟩
  | false =>
  rw [h9001, cond_false] at q; rw [cond_false]
  cases h9002 : Nat.beq r1 9002 with
  | true =>
    rw [h9002, cond_true] at q; rw [cond_true]
    split at q <;> first | exact q.elim | exact ⟨q.1, hP _ _ _ _ _ _ _ q.2⟩
  | false =>
  rw [h9002, cond_false] at q; rw [cond_false]
  cases h9003 : Nat.beq r1 9003 with
  | true =>
    rw [h9003, cond_true] at q; rw [cond_true]
    split at q <;> first | exact q.elim | exact ⟨q.1, hP _ _ _ _ _ _ _ q.2⟩
  | false =>
  rw [h9003, cond_false] at q; rw [cond_false]
  cases h9004 : Nat.beq r1 9004 with
  | true =>
    rw [h9004, cond_true] at q; rw [cond_true]
    split at q <;> first | exact q.elim | exact ⟨q.1, hP _ _ _ _ _ _ _ q.2⟩
  | false =>
  rw [h9004, cond_false] at q; rw [cond_false]
  cases h9005 : Nat.beq r1 9005 with
  | true =>
    rw [h9005, cond_true] at q; rw [cond_true]
    split at q <;> first | exact q.elim | exact ⟨q.1, hP _ _ _ _ _ _ _ q.2⟩
  | false =>
  rw [h9005, cond_false] at q; rw [cond_false]
  exact q.elim
theorem zCallG_map (hP : ∀ i pc c s st sh h, P i pc c s ls st sh h Q → P2 i pc c s ls2 st sh h Q2) (hC : ∀ i pc c s l st sh h R, P i pc c s l st sh h R → P2 i pc c s l st sh h R) (ok : Prop) (q : zCallG P i pc c s ls st sh h Q r1 r2 ok) : zCallG P2 i pc c s ls2 st sh h Q2 r1 r2 ok := by
  unfold zCallG at q ⊢
  cases hb : Nat.blt r1 342 with
  | false => rw [hb] at q; exact q.elim
  | true => rw [hb, cond_true] at q; exact zCall_map hP hC ok q
theorem zObjG_map (hP : ∀ i pc c s st sh h, P i pc c s ls st sh h Q → P2 i pc c s ls2 st sh h Q2) (q : zObjG P i pc c s ls st sh h Q n r1) : zObjG P2 i pc c s ls2 st sh h Q2 n r1 := by
  unfold zObjG at q ⊢
  cases hb : Nat.beq r1 9999 with
  | false => rw [hb] at q; exact q.elim
  | true => rw [hb, cond_true] at q; exact zObj_map hP q
theorem zMathG_map (hP : ∀ i pc c s st sh h, P i pc c s ls st sh h Q → P2 i pc c s ls2 st sh h Q2) (hC : ∀ i pc c s l st sh h R, P i pc c s l st sh h R → P2 i pc c s l st sh h R) (q : bif Nat.blt 9000 r1 then zMath P i pc c s ls st sh h Q r1 else zCallG P i pc c s ls st sh h Q r1 r2 True) : bif Nat.blt 9000 r1 then zMath P2 i pc c s ls2 st sh h Q2 r1 else zCallG P2 i pc c s ls2 st sh h Q2 r1 r2 True := by
  cases hb : Nat.blt 9000 r1 with
  | true => rw [hb, cond_true] at q; exact zMath_map hP q
  | false => rw [hb, cond_false] at q; exact zCallG_map hP hC _ q
theorem zRetI_map (hQ : ∀ v sh h, Q v sh h → Q2 v sh h) (q : zRetI i st sh h Q) : zRetI i st sh h Q2 := by
  unfold zRetI at q ⊢
  split at q
  · exact ⟨q.1, hQ _ _ _ q.2⟩
  · exact q.elim
theorem zRetL_map (hQ : ∀ v sh h, Q v sh h → Q2 v sh h) (q : zRetL st sh h Q) : zRetL st sh h Q2 := by
  unfold zRetL at q ⊢
  split at q
  · exact hQ _ _ _ q
  · exact q.elim
theorem zRetR_map (hQ : ∀ v sh h, Q v sh h → Q2 v sh h) (q : zRetR st sh h Q) : zRetR st sh h Q2 := by
  unfold zRetR at q ⊢
  split at q
  · exact hQ _ _ _ q
  · exact q.elim
theorem zRetV_map (hQ : ∀ v sh h, Q v sh h → Q2 v sh h) (q : zRetV st sh h Q) : zRetV st sh h Q2 := by
  unfold zRetV at q ⊢
  split at q
  · exact hQ _ _ _ q
  · exact q.elim
theorem zDo_map (hP : ∀ i pc c s st sh h, P i pc c s ls st sh h Q → P2 i pc c s ls2 st sh h Q2) (hL : ∀ k v, ls.getD k none = some v → ls2.getD k none = some v) (hn : ls.length = ls2.length) (hS1 : ∀ k v i pc c s st sh h, P i pc c s (zst1 ls k v) st sh h Q → P2 i pc c s (zst1 ls2 k v) st sh h Q2) (hS2 : ∀ k v i pc c s st sh h, P i pc c s (zst2 ls k v) st sh h Q → P2 i pc c s (zst2 ls2 k v) st sh h Q2) (hC : ∀ i pc c s l st sh h R, P i pc c s l st sh h R → P2 i pc c s l st sh h R) (hQ : ∀ v sh h, Q v sh h → Q2 v sh h) (ins : Instr) (q : zDo X P i pc c s ls st sh h Q n r1 r2 r3 ins) : zDo X P2 i pc c s ls2 st sh h Q2 n r1 r2 r3 ins := by
  cases ins <;> first
    | exact q.elim
    | exact zLdI_map hP hL _ q
    | exact zLdL_map hP hL _ q
    | exact zLdR_map hP hL _ q
    | exact zStI_map hn hS1 _ q
    | exact zStL_map hn hS2 _ q
    | exact zStR_map hn hS1 _ q
    | exact zPush_map hP _ q
    | exact zBin_map hP _ q
    | exact zDiv_map hP _ q
    | exact zBinL_map hP _ q
    | exact zShL_map hP _ q
    | exact zCmpL_map hP  q
    | exact zUn_map hP _ q
    | exact zIL_map hP  q
    | exact zLI_map hP  q
    | exact zInc_map hL hn hS1 _ _ q
    | exact zIf_map hP _ q
    | exact zIf2_map hP _ q
    | exact zIfA_map hP _ q
    | exact zIfN_map hP  q
    | exact zIfNN_map hP  q
    | exact zTab_map hP _ _ _ _ q
    | exact zLook_map hP _ _ q
    | exact zALd_map hP _ _ q
    | exact zALdL_map hP  q
    | exact zALdR_map hP  q
    | exact zASt_map hP _ _ q
    | exact zAStB_map hP  q
    | exact zAStL_map hP  q
    | exact zAStR_map hP  q
    | exact zLen_map hP  q
    | exact zGet_map hP  q
    | exact zPut_map hP  q
    | exact zNew_map hP  q
    | exact zNewA_map hP _ _ q
    | exact zDup_map hP  q
    | exact zDup2_map hP  q
    | exact zPop_map hP  q
    | exact zCallG_map hP hC _ q
    | exact zMathG_map hP hC q
    | exact hP _ _ _ _ _ _ _ q
    | exact zRetI_map hQ q
    | exact zRetL_map hQ q
    | exact zRetR_map hQ q
    | exact zRetV_map hQ q
    | (rcases r1 with _ | _ | r1 <;> first | exact q.elim | exact zPush_map hP _ q)
    | (rcases r2 with _ | r2 <;> first | exact zObjG_map hP q | exact zCallG_map hP hC _ q)
theorem zStep_map (hP : ∀ i pc c s st sh h, P i pc c s ls st sh h Q → P2 i pc c s ls2 st sh h Q2) (hL : ∀ k v, ls.getD k none = some v → ls2.getD k none = some v) (hn : ls.length = ls2.length) (hS1 : ∀ k v i pc c s st sh h, P i pc c s (zst1 ls k v) st sh h Q → P2 i pc c s (zst1 ls2 k v) st sh h Q2) (hS2 : ∀ k v i pc c s st sh h, P i pc c s (zst2 ls k v) st sh h Q → P2 i pc c s (zst2 ls2 k v) st sh h Q2) (hC : ∀ i pc c s l st sh h R, P i pc c s l st sh h R → P2 i pc c s l st sh h R) (hQ : ∀ v sh h, Q v sh h → Q2 v sh h) (q : zStep X P i pc c s ls st sh h Q) : zStep X P2 i pc c s ls2 st sh h Q2 := by
  unfold zStep at q ⊢
  cases hb : Nat.blt i 343 with
  | false => rw [hb] at q; exact q.elim
  | true =>
  rw [hb, cond_true] at q
  rw [cond_true]
  split at q
  · exact q.elim
  · exact zDo_map hP hL hn hS1 hS2 hC hQ _ q
theorem zStep_post (q : zStep X (fun i pc c s ls st sh h Q => ∀ Q2 : zPO, (∀ v sh' h', Q v sh' h' → Q2 v sh' h') → zAt X i pc c s ls st sh h Q2) i pc c s ls st sh h Q) (hQ : ∀ v sh' h', Q v sh' h' → Q2 v sh' h') : zStep X (zAt X) i pc c s ls st sh h Q2 :=
  zStep_map (fun _ _ _ _ _ _ _ z => z Q2 hQ) (fun _ _ z => z) rfl (fun _ _ _ _ _ _ _ _ _ z => z Q2 hQ) (fun _ _ _ _ _ _ _ _ _ z => z Q2 hQ) (fun _ _ _ _ _ _ _ _ R z => z R (fun _ _ _ z => z)) hQ q
end zMp
