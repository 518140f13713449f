/-! THE EIGHT LINES: the other files are empty -/
section Mrc
variable {z f : Nat}
theorem lexTo_e (hf : 1 ≤ f) : ∀ m, lexTo (XZ z 8) f m = ([], false)
  | 0 => rfl
  | m + 1 => by
    have e0 : XZ z 8 (8 * f + m) = [] := by
      show (if 8 * f + m < 8 then ptx (kdz z (8 * f + m)) else []) = []
      rw [if_neg (by omega)]
    show ((lexTo (XZ z 8) f m).1 ++ (lexL 24 (XZ z 8 (8 * f + m)) 0 (lexTo (XZ z 8) f m).2 (lexTo (XZ z 8) f m).1.length).1.map (fun t => (t.1, m, t.2.1, t.2.2)), (lexL 24 (XZ z 8 (8 * f + m)) 0 (lexTo (XZ z 8) f m).2 (lexTo (XZ z 8) f m).1.length).2.2) = _
    rw [lexTo_e hf m, e0]
    rfl
theorem ks_e (hf : 1 ≤ f) : ks (XZ z 8) f = [] := by
  show ((lexTo (XZ z 8) f 8).1).map (fun t => t.1) = []
  rw [lexTo_e hf]
  rfl
theorem prs_e : prs [] = (0, [], [], [], [], []) := rfl
theorem Cw_e (hf : 1 ≤ f) : Cw (XZ z 8) f = [] := by
  show (prs (ks (XZ z 8) f)).2.2.1 = []
  rw [ks_e hf]
  rfl
theorem Fw_e (hf : 1 ≤ f) : Fw (XZ z 8) f = [] := by
  show (prs (ks (XZ z 8) f)).2.2.2.2.1 = []
  rw [ks_e hf]
  rfl
end Mrc
