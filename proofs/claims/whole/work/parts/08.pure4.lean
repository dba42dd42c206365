def bq1 (x : Int32) : Int32 := x - ((x.toUInt32 >>> ((nI 1).toUInt32 &&& Int32.toUInt32 31)).toInt32 &&& 1431655765)
def bq2 (x : Int32) : Int32 := (x &&& 858993459) + ((x.toUInt32 >>> ((nI 2).toUInt32 &&& Int32.toUInt32 31)).toInt32 &&& 858993459)
def bq3 (x : Int32) : Int32 := (x + (x.toUInt32 >>> ((nI 4).toUInt32 &&& Int32.toUInt32 31)).toInt32) &&& 252645135
def bq4 (x : Int32) : Int32 := x + (x.toUInt32 >>> ((nI 8).toUInt32 &&& Int32.toUInt32 31)).toInt32
def bq5 (x : Int32) : Int32 := x + (x.toUInt32 >>> ((nI 16).toUInt32 &&& Int32.toUInt32 31)).toInt32
set_option maxRecDepth 100000 in
theorem bc6 : ∀ n, n < 64 → bq5 (bq4 (bq3 (bq2 (bq1 (nI n))))) &&& nI 63 = nI (popc n) := by decide +kernel
theorem fog_n {x : Int64} {d : Nat} (hd : d < 64) (h : ¬ (x >>> ((nI d).toInt64 &&& 63)) &&& 1 = 0) : bl x d = true := by
  cases hb : bl x d
  · exact absurd ((fog_b hd).mpr hb) h
  · rfl
theorem cntH_le (H : Nat → Nat → Nat → Prop) (d p t : Nat) : cntH H d p t ≤ 15 := fb_ct_le _ _
section WRK
variable {H : Nat → Nat → Nat → Prop} {lw : Nat} {fg : Nat → Bool} {sm d q t : Nat}
theorem wrk_y (ht : t < 4) (hs : sm.testBit q = true) (h : decide (fday H lw fg q t ≤ d) = true) : fb_ct (wrkB H lw fg sm d) (4 * q + t) + 1 = fb_ct (wrkB H lw fg sm d) (4 * q + (t + 1)) := by
  show _ = fb_ct (wrkB H lw fg sm d) (4 * q + t) + (if wrkB H lw fg sm d (4 * q + t) = true then 1 else 0)
  rw [wrk_one ht hs, if_pos h]
theorem wrk_n (ht : t < 4) (hs : sm.testBit q = true) (h : decide (fday H lw fg q t ≤ d) = false) : fb_ct (wrkB H lw fg sm d) (4 * q + t) = fb_ct (wrkB H lw fg sm d) (4 * q + (t + 1)) := by
  show _ = fb_ct (wrkB H lw fg sm d) (4 * q + t) + (if wrkB H lw fg sm d (4 * q + t) = true then 1 else 0)
  rw [wrk_one ht hs, if_neg (by rw [h]; decide)]
  rfl
theorem wrk_o (hs : sm.testBit q = true ∨ t = 0) (h : sm.testBit q = false) : fb_ct (wrkB H lw fg sm d) (4 * q + t) = fb_ct (wrkB H lw fg sm d) (4 * (q + 1)) := by
  rcases hs with z | z
  · rw [h] at z; cases z
  · rw [z, wrk_no h]; rfl
theorem wrk_4 (h : 4 ≤ t) (h4 : t ≤ 4) : fb_ct (wrkB H lw fg sm d) (4 * q + t) = fb_ct (wrkB H lw fg sm d) (4 * (q + 1)) := by
  have e : 4 * q + t = 4 * (q + 1) := by omega
  rw [e]
end WRK
