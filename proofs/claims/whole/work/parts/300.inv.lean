def zI_INV (X : IX) : Prop := X 0 0 = 0
