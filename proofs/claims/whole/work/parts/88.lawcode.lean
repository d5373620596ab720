/-! the law's code, checked in pieces -/
theorem all_td {α : Type} {p : α → Bool} {l : List α} (n : Nat) (h1 : (l.take n).all p = true) (h2 : (l.drop n).all p = true) : l.all p = true := by
  rw [← List.take_append_drop n l, List.all_append, h1, h2]; rfl
theorem sr_kL0 : ((sr_c200.drop 0).take 50).all (sr_oke code 4) = true := by decide +kernel
theorem sr_kL1 : ((sr_c200.drop 50).take 50).all (sr_oke code 4) = true := by decide +kernel
theorem sr_kL2 : ((sr_c200.drop 100).take 50).all (sr_oke code 4) = true := by decide +kernel
theorem sr_kL3 : ((sr_c200.drop 150).take 50).all (sr_oke code 4) = true := by decide +kernel
theorem sr_kL4 : ((sr_c200.drop 200).take 50).all (sr_oke code 4) = true := by decide +kernel
theorem sr_kL5 : ((sr_c200.drop 250).take 50).all (sr_oke code 4) = true := by decide +kernel
theorem sr_kL6 : ((sr_c200.drop 300).take 50).all (sr_oke code 4) = true := by decide +kernel
theorem sr_kL7 : ((sr_c200.drop 350).take 50).all (sr_oke code 4) = true := by decide +kernel
theorem sr_kL8 : ((sr_c200.drop 400).take 50).all (sr_oke code 4) = true := by decide +kernel
theorem sr_kL9 : ((sr_c200.drop 450).take 50).all (sr_oke code 4) = true := by decide +kernel
theorem sr_kL10 : ((sr_c200.drop 500).take 50).all (sr_oke code 4) = true := by decide +kernel
theorem sr_kL11 : ((sr_c200.drop 550).take 50).all (sr_oke code 4) = true := by decide +kernel
theorem sr_kL12 : ((sr_c200.drop 600).take 50).all (sr_oke code 4) = true := by decide +kernel
theorem sr_kL13 : ((sr_c200.drop 650).take 50).all (sr_oke code 4) = true := by decide +kernel
theorem sr_kL14 : ((sr_c200.drop 700).take 50).all (sr_oke code 4) = true := by decide +kernel
theorem sr_kL15 : ((sr_c200.drop 750).take 50).all (sr_oke code 4) = true := by decide +kernel
theorem sr_kL16 : ((sr_c200.drop 800).take 50).all (sr_oke code 4) = true := by decide +kernel
theorem sr_kL17 : ((sr_c200.drop 850).take 50).all (sr_oke code 4) = true := by decide +kernel
theorem sr_tL18 : (sr_c200.drop 900).all (sr_oke code 4) = true := by decide +kernel
theorem sr_tL17 : (sr_c200.drop 850).all (sr_oke code 4) = true := all_td 50 sr_kL17 (by rw [List.drop_drop]; exact sr_tL18)
theorem sr_tL16 : (sr_c200.drop 800).all (sr_oke code 4) = true := all_td 50 sr_kL16 (by rw [List.drop_drop]; exact sr_tL17)
theorem sr_tL15 : (sr_c200.drop 750).all (sr_oke code 4) = true := all_td 50 sr_kL15 (by rw [List.drop_drop]; exact sr_tL16)
theorem sr_tL14 : (sr_c200.drop 700).all (sr_oke code 4) = true := all_td 50 sr_kL14 (by rw [List.drop_drop]; exact sr_tL15)
theorem sr_tL13 : (sr_c200.drop 650).all (sr_oke code 4) = true := all_td 50 sr_kL13 (by rw [List.drop_drop]; exact sr_tL14)
theorem sr_tL12 : (sr_c200.drop 600).all (sr_oke code 4) = true := all_td 50 sr_kL12 (by rw [List.drop_drop]; exact sr_tL13)
theorem sr_tL11 : (sr_c200.drop 550).all (sr_oke code 4) = true := all_td 50 sr_kL11 (by rw [List.drop_drop]; exact sr_tL12)
theorem sr_tL10 : (sr_c200.drop 500).all (sr_oke code 4) = true := all_td 50 sr_kL10 (by rw [List.drop_drop]; exact sr_tL11)
theorem sr_tL9 : (sr_c200.drop 450).all (sr_oke code 4) = true := all_td 50 sr_kL9 (by rw [List.drop_drop]; exact sr_tL10)
theorem sr_tL8 : (sr_c200.drop 400).all (sr_oke code 4) = true := all_td 50 sr_kL8 (by rw [List.drop_drop]; exact sr_tL9)
theorem sr_tL7 : (sr_c200.drop 350).all (sr_oke code 4) = true := all_td 50 sr_kL7 (by rw [List.drop_drop]; exact sr_tL8)
theorem sr_tL6 : (sr_c200.drop 300).all (sr_oke code 4) = true := all_td 50 sr_kL6 (by rw [List.drop_drop]; exact sr_tL7)
theorem sr_tL5 : (sr_c200.drop 250).all (sr_oke code 4) = true := all_td 50 sr_kL5 (by rw [List.drop_drop]; exact sr_tL6)
theorem sr_tL4 : (sr_c200.drop 200).all (sr_oke code 4) = true := all_td 50 sr_kL4 (by rw [List.drop_drop]; exact sr_tL5)
theorem sr_tL3 : (sr_c200.drop 150).all (sr_oke code 4) = true := all_td 50 sr_kL3 (by rw [List.drop_drop]; exact sr_tL4)
theorem sr_tL2 : (sr_c200.drop 100).all (sr_oke code 4) = true := all_td 50 sr_kL2 (by rw [List.drop_drop]; exact sr_tL3)
theorem sr_tL1 : (sr_c200.drop 50).all (sr_oke code 4) = true := all_td 50 sr_kL1 (by rw [List.drop_drop]; exact sr_tL2)
theorem sr_tL0 : (sr_c200.drop 0).all (sr_oke code 4) = true := all_td 50 sr_kL0 (by rw [List.drop_drop]; exact sr_tL1)
