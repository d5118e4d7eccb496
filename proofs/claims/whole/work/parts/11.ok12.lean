theorem okL18 : okCh 237 18 = true := by decide +kernel
theorem okL19 : okCh 237 19 = true := by decide +kernel
theorem okL20 : okCh 237 20 = true := by decide +kernel
theorem okL21 : okCh 237 21 = true := by decide +kernel
theorem okL22 : okCh 237 22 = true := by decide +kernel
theorem okL23 : okCh 237 23 = true := by decide +kernel
theorem okL24 : okCh 237 24 = true := by decide +kernel
theorem okL25 : okCh 237 25 = true := by decide +kernel
theorem okM237 : okM 237 = true := by
  refine okM_of ?_
  have hl : (mOps 237).length = 26 := by decide +kernel
  rw [hl]
  intro k hk
  match k, hk with
  | 0, _ => exact okL0
  | 1, _ => exact okL1
  | 2, _ => exact okL2
  | 3, _ => exact okL3
  | 4, _ => exact okL4
  | 5, _ => exact okL5
  | 6, _ => exact okL6
  | 7, _ => exact okL7
  | 8, _ => exact okL8
  | 9, _ => exact okL9
  | 10, _ => exact okL10
  | 11, _ => exact okL11
  | 12, _ => exact okL12
  | 13, _ => exact okL13
  | 14, _ => exact okL14
  | 15, _ => exact okL15
  | 16, _ => exact okL16
  | 17, _ => exact okL17
  | 18, _ => exact okL18
  | 19, _ => exact okL19
  | 20, _ => exact okL20
  | 21, _ => exact okL21
  | 22, _ => exact okL22
  | 23, _ => exact okL23
  | 24, _ => exact okL24
  | 25, _ => exact okL25
  | k + 26, hk => omega
