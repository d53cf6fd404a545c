/-! Every step of the own machine, and so every run of it, is one of the JVM. -/
def xval (Ws : List Cond) (cl : List vw_C) (Cl : List (Nat × List xv)) (Mi : List (MethodName × ByteArray × Nat × Option FieldType × List (Nat × Nat × Nat × Nat))) (P1 : List (Nat × Nat)) (Sn : List (String × Nat × String)) (Sw : List (List Nat)) (own nm : String) (cb : ByteArray) (maxL : Nat) (ret : Option FieldType) (hs : List (Nat × Nat × Nat × Nat)) (C i : Nat) : Bool := match xrk (xrow C i) with
  | 0 => true
  | 1 => xv1 cb C i
  | 2 => xv2 cb maxL C i
  | 3 => xv3 cb maxL C i
  | 4 => xv4 cb C i
  | 5 => xv5 cb C i
  | 6 => xv6 cb C i
  | 7 => xv7 cb C i
  | 8 => xv8 cb C i
  | 9 => xv9 cb C i
  | 10 => xv10 cb Ws cl own C i
  | 11 => xv11 cb Ws cl own nm C i
  | 12 => xv12 cb Ws cl Cl own C i
  | 13 => xv13 cb Ws C i
  | 14 => xv14 cb C i
  | 15 => xv15 cb C i
  | 16 => xv16 cb C i
  | 17 => xv17 cb Ws cl Mi P1 own hs C i
  | 18 => xv18 cb ret C i
  | 19 => xv19 cb Ws cl own hs C i
  | 20 => xv20 cb Ws own C i
  | 21 => xv21 cb Sn own C i
  | 22 => xv22 cb Ws own C i
  | 23 => xv23 cb C i
  | 24 => xv24 cb Ws own C i
  | 25 => xv25 cb Ws own C i
  | 26 => xv26 cb Sw C i
  | 27 => xv0 cb Ws own C i
  | _ + 28 => true
/-- the rows of every method are those of its code -/
def xV (X : xFix) : Prop := ∀ (j C : Nat) (y : MethodName) (cb : ByteArray) (maxL : Nat) (ret : Option FieldType) (hs : List (Nat × Nat × Nat × Nat)), xMe X j C y cb maxL ret hs → ∀ i, xval X.Ws X.cl X.P.2.2.2 X.Mi X.P.1 X.Sn X.P.2.2.1 y.cls y.name cb maxL ret hs C i = true
theorem xstep_ok {X : xFix} {ih : xrec} (hV : xV X) (hI : xIH X ih) : xIH X (xstep X.P X.G ih) := by
  intro C i lv st hp bc bs d out h j y cb maxL ret hs hM p l e R s m args below meth c H locs cells slots ls hF hS hN
  have hv := hV j C y cb maxL ret hs hM i
  simp only [xstep, xf_eq] at h
  unfold xval at hv
  generalize hk : xrk (xrow C i) = k at h hv
  match k, h, hv with
  | 0, h, _ => cases h
  | 1, h, hv => exact ok1 hI hM hF hS hN hv h
  | 2, h, hv => exact ok2 hI hM hF hS hN hv h
  | 3, h, hv => exact ok3 hI hM hF hS hN hv h
  | 4, h, hv => exact ok4 hI hM hF hS hN hv h
  | 5, h, hv => exact ok5 hI hM hF hS hN hv h
  | 6, h, hv => exact ok6 hI hM hF hS hN hv h
  | 7, h, hv => exact ok7 hI hM hF hS hN hv h
  | 8, h, hv => exact ok8 hI hM hF hS hN hv h
  | 9, h, hv => exact ok9 hI hM hF hS hN hv h
  | 10, h, hv => exact ok10 hI hM hF hS hN hv h
  | 11, h, hv => exact ok11 hI hM hF hS hN hv h
  | 12, h, hv => exact ok12 hI hM hF hS hN hv h
  | 13, h, hv => exact ok13 hI hM hF hS hN hv h
  | 14, h, hv => exact ok14 hI hM hF hS hN hv h
  | 15, h, hv => exact ok15 hI hM hF hS hN hv h
  | 16, h, hv => exact ok16 hI hM hF hS hN hv h
  | 17, h, hv => exact ok17 hI hM hF hS hN hv h
  | 18, h, hv => exact ok18 hI hM hF hS hN hv h
  | 19, h, hv => exact ok19 hI hM hF hS hN hv h
  | 20, h, hv => exact ok20 hI hM hF hS hN hv h
  | 21, h, hv => exact ok21 hI hM hF hS hN hv h
  | 22, h, hv => exact ok22 hI hM hF hS hN hv h
  | 23, h, hv => exact ok23 hI hM hF hS hN hv h
  | 24, h, hv => exact ok24 hI hM hF hS hN hv h
  | 25, h, hv => exact ok25 hI hM hF hS hN hv h
  | 26, h, hv => exact ok26 hI hM hF hS hN hv h
  | 27, h, hv => exact ok0 hI hM hF hS hN hv h
  | k + 28, h, _ =>
    have e9 : xdisp (k + 28) = xhN := by
      have q : ∀ m, m < 28 → Nat.ble (k + 28) m = false := fun m hm => by
        cases hb : Nat.ble (k + 28) m with
        | false => rfl
        | true => exact absurd (Nat.le_of_ble_eq_true hb) (by omega)
      unfold xdisp
      rw [q 14 (by decide), q 21 (by decide), q 25 (by decide), q 27 (by decide)]
      rfl
    rw [e9] at h
    cases h
theorem xrun_ok {X : xFix} (hV : xV X) : ∀ n, xIH X (xrun X.P X.G n) := by
  intro n
  induction n with
  | zero => intro C i lv st hp bc bs d out h; cases h
  | succ n ih => rw [xrun_succ]; exact xstep_ok hV ih
