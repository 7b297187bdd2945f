/-! the reference: strikes, colours, a whole minute -/
theorem cmp_lt {a b : Int64} : lg_cmp a b < 0 ↔ a < b := by
  unfold lg_cmp
  sorry
theorem rq_in {x : Int32} {a b : Int64} {lo hi : Int} {h : kH} (ha : a.toInt = lo) (hb : b.toInt = hi) : p_X8_in x.toInt64 a b h = some (b1 (decide (lo ≤ x.toInt) && decide (x.toInt ≤ hi)), h) := by
  sorry
