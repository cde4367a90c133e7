/-! ORDERS BY THEIR NUMBERS: digits from the right -/
theorem zlen_lt2 {X : List Int} {sh : zSH} {a t n : Nat} {k m : Int} (e : zsh X sh a = (t, n)) (h : ((n : Nat) : Int) = m) (hk : k < m) : k < ((zsh X sh a).2 : Int) := by rw [e, h]; exact hk
def zfac : Nat → Nat
  | 0 => 1
  | n + 1 => (n + 1) * zfac n
/-- the digit with j behind it -/
def zD (j o : Nat) : Nat := o / zfac j % (j + 1)
/-- for all below -/
def zbl (f : Nat → Bool) : Nat → Bool
  | 0 => true
  | n + 1 => cond (f n) (zbl f n) false
theorem zbl_spec {f : Nat → Bool} : ∀ {n : Nat}, zbl f n = true → ∀ i, i < n → f i = true := by
  intro n
  induction n with
  | zero => intro _ i hi; omega
  | succ n ih =>
    intro h i hi
    unfold zbl at h
    cases hf : f n with
    | false => rw [hf] at h; cases h
    | true =>
      rw [hf] at h
      by_cases e : i = n
      · subst e; exact hf
      · exact ih h i (by omega)
/-- the order in which the two with j behind the right one have changed -/
def zsj (j o : Nat) : Nat :=
  cond (Nat.blt (zD j o) (zD (j + 1) o)) (o - (zD (j + 1) o - zD j o) * zfac (j + 1) + (zD (j + 1) o - 1 - zD j o) * zfac j)
    (o + (zD j o + 1 - zD (j + 1) o) * zfac (j + 1) - (zD j o - zD (j + 1) o) * zfac j)
/-- what is on each leg, i counted from the right, n in all -/
def znu (o : Nat) : Nat → Nat → Nat → Nat
  | 0, _, v => v
  | m + 1, j, v => znu o m (j + 1) (cond (Nat.ble (zD (j + 1) o) v) (v + 1) v)
/-- the number on leg i of n -/
def zon (n o i : Nat) : Nat := znu o i (n - 1 - i) (zD (n - 1 - i) o)
/-- the leg of a number -/
def zle1 (n o : Nat) : Nat → Nat → Nat → Option Nat
  | 0, _, _ => none
  | m + 1, i, v => cond (Nat.beq (zD (n - 1 - i) o) v) (some i) (zle1 n o m (i + 1) (cond (Nat.blt (zD (n - 1 - i) o) v) (v - 1) v))
def zlg (n o v : Nat) : Nat := (zle1 n o n 0 v).getD 99
def zsu (f : Nat → Nat) : Nat → Nat
  | 0 => 0
  | n + 1 => zsu f n + f n
def zinvs (n o : Nat) : Nat := zsu (fun i => zD (n - 1 - i) o) n
def zckS (o : Nat) : Bool := zbl (fun j => Nat.blt (zsj j o) 5040 && Nat.beq (zsj j (zsj j o)) o && (Nat.blt (zsj j o) o == Nat.blt (zD j o) (zD (j + 1) o)) && !(Nat.beq (zsj j o) o)) 6
set_option maxRecDepth 100000 in
theorem zckS_all : zbl zckS 5040 = true := by decide +kernel
