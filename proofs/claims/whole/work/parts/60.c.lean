theorem k_rightSize : (List.range 626).all (fun p => (List.range 7).all fun i => !(decide (i < szF p)) || decide (fX0_rightSize cF sF (nI p) (nI i) = some (nI (dgF p i)))) = true := by decide +kernel
theorem c_rightSize {p i : Nat} (hp : p < 626) (hi : i < 7) (h : i < szF p) : fX0_rightSize cF sF (nI p) (nI i) = some (nI (dgF p i)) := by
  have h1 := ra (ra k_rightSize hp) hi
  simpa [h] using h1
theorem k_leftSize : (List.range 626).all (fun p => (List.range 7).all fun i => !(decide (i < szF p)) || decide (fX0_leftSize cF sF (nI p) (nI i) = some (nI (f4 lsB p i)))) = true := by decide +kernel
theorem c_leftSize {p i : Nat} (hp : p < 626) (hi : i < 7) (h : i < szF p) : fX0_leftSize cF sF (nI p) (nI i) = some (nI (f4 lsB p i)) := by
  have h1 := ra (ra k_leftSize hp) hi
  simpa [h] using h1
theorem k_parent : (List.range 626).all (fun p => (List.range 7).all fun i => !(decide (i < szF p)) || decide (fX0_parent cF sF (nI p) (nI i) = some (ntI (f4 paB p i)))) = true := by decide +kernel
theorem c_parent {p i : Nat} (hp : p < 626) (hi : i < 7) (h : i < szF p) : fX0_parent cF sF (nI p) (nI i) = some (ntI (f4 paB p i)) := by
  have h1 := ra (ra k_parent hp) hi
  simpa [h] using h1
theorem k_leftChild : (List.range 626).all (fun p => (List.range 7).all fun i => !(decide (i < szF p)) || decide (fX0_leftChild cF sF (nI p) (nI i) = some (ntI (f4 lcB p i)))) = true := by decide +kernel
theorem c_leftChild {p i : Nat} (hp : p < 626) (hi : i < 7) (h : i < szF p) : fX0_leftChild cF sF (nI p) (nI i) = some (ntI (f4 lcB p i)) := by
  have h1 := ra (ra k_leftChild hp) hi
  simpa [h] using h1
theorem k_rightChild : (List.range 626).all (fun p => (List.range 7).all fun i => !(decide (i < szF p)) || decide (fX0_rightChild cF sF (nI p) (nI i) = some (ntI (f4 rcB p i)))) = true := by decide +kernel
theorem c_rightChild {p i : Nat} (hp : p < 626) (hi : i < 7) (h : i < szF p) : fX0_rightChild cF sF (nI p) (nI i) = some (ntI (f4 rcB p i)) := by
  have h1 := ra (ra k_rightChild hp) hi
  simpa [h] using h1
theorem k_depth : (List.range 626).all (fun p => (List.range 7).all fun i => !(decide (i < szF p)) || decide (fX0_depth cF sF (nI p) (nI i) = some (nI (f4 dpB p i)))) = true := by decide +kernel
theorem c_depth {p i : Nat} (hp : p < 626) (hi : i < 7) (h : i < szF p) : fX0_depth cF sF (nI p) (nI i) = some (nI (f4 dpB p i)) := by
  have h1 := ra (ra k_depth hp) hi
  simpa [h] using h1
theorem k_isLeftChild : (List.range 626).all (fun p => (List.range 7).all fun i => !(decide (i < szF p)) || decide (fX0_isLeftChild cF sF (nI p) (nI i) = some (nI (if upF p i = 0 then 0 else 1)))) = true := by decide +kernel
theorem c_isLeftChild {p i : Nat} (hp : p < 626) (hi : i < 7) (h : i < szF p) : fX0_isLeftChild cF sF (nI p) (nI i) = some (nI (if upF p i = 0 then 0 else 1)) := by
  have h1 := ra (ra k_isLeftChild hp) hi
  simpa [h] using h1
theorem k_withRightChild : (List.range 626).all (fun p => !(decide (0 < p)) || decide (fX0_withRightChild cF sF (nI p) = some (nI (caF p)))) = true := by decide +kernel
theorem c_withRightChild {p : Nat} (hp : p < 626) (h : 0 < p) : fX0_withRightChild cF sF (nI p) = some (nI (caF p)) := by
  have h1 := ra k_withRightChild hp
  simpa [h] using h1
theorem k_leftChildren : (List.range 626).all (fun p => !(decide (0 < p)) || decide (fX0_leftChildren cF sF (nI p) = some (nI (lfF p)))) = true := by decide +kernel
theorem c_leftChildren {p : Nat} (hp : p < 626) (h : 0 < p) : fX0_leftChildren cF sF (nI p) = some (nI (lfF p)) := by
  have h1 := ra k_leftChildren hp
  simpa [h] using h1
theorem k_asDigits : (List.range 626).all (fun p => !(decide (0 < p)) || decide (fX0_asDigits cF sF (nI p) = some (nI (dcF p)))) = true := by decide +kernel
theorem c_asDigits {p : Nat} (hp : p < 626) (h : 0 < p) : fX0_asDigits cF sF (nI p) = some (nI (dcF p)) := by
  have h1 := ra k_asDigits hp
  simpa [h] using h1
theorem k_mirrored : (List.range 626).all (fun p => !(decide (0 < p)) || decide (fX0_mirrored cF sF (nI p) = some (nI (miF p)))) = true := by decide +kernel
theorem c_mirrored {p : Nat} (hp : p < 626) (h : 0 < p) : fX0_mirrored cF sF (nI p) = some (nI (miF p)) := by
  have h1 := ra k_mirrored hp
  simpa [h] using h1
theorem k_find : (List.range 626).all (fun p => !(decide (0 < p)) || decide (fX0_find cF (nI (szF p)) (nI (cdF p)) = some (nI p))) = true := by decide +kernel
theorem c_find {p : Nat} (hp : p < 626) (h : 0 < p) : fX0_find cF (nI (szF p)) (nI (cdF p)) = some (nI p) := by
  have h1 := ra k_find hp
  simpa [h] using h1
